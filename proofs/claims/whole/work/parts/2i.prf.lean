/-! the machine does what the functions say, printed -/
theorem dX12_passes_0 : decode cX12_passes 0 = .ok (.aload_n 0, 1) := by decide +kernel
theorem dX12_passes_1 : decode cX12_passes 1 = .ok (.iload_n 1, 1) := by decide +kernel
theorem dX12_passes_2 : decode cX12_passes 2 = .ok (.invokevirtual 308, 3) := by decide +kernel
theorem dX12_passes_5 : decode cX12_passes 5 = .ok (.istore_n 2, 1) := by decide +kernel
theorem dX12_passes_6 : decode cX12_passes 6 = .ok (.aload_n 0, 1) := by decide +kernel
theorem dX12_passes_7 : decode cX12_passes 7 = .ok (.iload_n 1, 1) := by decide +kernel
theorem dX12_passes_8 : decode cX12_passes 8 = .ok (.iconst 1, 1) := by decide +kernel
theorem dX12_passes_9 : decode cX12_passes 9 = .ok (.iadd, 1) := by decide +kernel
theorem dX12_passes_10 : decode cX12_passes 10 = .ok (.putfield 237, 3) := by decide +kernel
theorem dX12_passes_13 : decode cX12_passes 13 = .ok (.aload_n 0, 1) := by decide +kernel
theorem dX12_passes_14 : decode cX12_passes 14 = .ok (.getfield 7, 3) := by decide +kernel
theorem dX12_passes_17 : decode cX12_passes 17 = .ok (.iload_n 2, 1) := by decide +kernel
theorem dX12_passes_18 : decode cX12_passes 18 = .ok (.iaload, 1) := by decide +kernel
theorem dX12_passes_19 : decode cX12_passes 19 = .ok (.tableswitch 344 5 15 #[57, 92, 127, 140, 161, 204, 239, 272, 311, 324, 331], 57) := by decide +kernel
theorem dX12_passes_76 : decode cX12_passes 76 = .ok (.aload_n 0, 1) := by decide +kernel
theorem dX12_passes_77 : decode cX12_passes 77 = .ok (.dup, 1) := by decide +kernel
theorem dX12_passes_78 : decode cX12_passes 78 = .ok (.getfield 237, 3) := by decide +kernel
theorem dX12_passes_81 : decode cX12_passes 81 = .ok (.aload_n 0, 1) := by decide +kernel
theorem dX12_passes_82 : decode cX12_passes 82 = .ok (.getfield 240, 3) := by decide +kernel
theorem dX12_passes_85 : decode cX12_passes 85 = .ok (.aload_n 0, 1) := by decide +kernel
theorem dX12_passes_86 : decode cX12_passes 86 = .ok (.getfield 13, 3) := by decide +kernel
theorem dX12_passes_89 : decode cX12_passes 89 = .ok (.iload_n 2, 1) := by decide +kernel
theorem dX12_passes_90 : decode cX12_passes 90 = .ok (.iaload, 1) := by decide +kernel
theorem dX12_passes_91 : decode cX12_passes 91 = .ok (.if_icmp .ge 12, 3) := by decide +kernel
theorem dX12_passes_94 : decode cX12_passes 94 = .ok (.aload_n 0, 1) := by decide +kernel
theorem dX12_passes_95 : decode cX12_passes 95 = .ok (.getfield 16, 3) := by decide +kernel
theorem dX12_passes_98 : decode cX12_passes 98 = .ok (.iload_n 2, 1) := by decide +kernel
theorem dX12_passes_99 : decode cX12_passes 99 = .ok (.iaload, 1) := by decide +kernel
theorem dX12_passes_100 : decode cX12_passes 100 = .ok (.goto 4, 3) := by decide +kernel
theorem dX12_passes_103 : decode cX12_passes 103 = .ok (.iconst 0, 1) := by decide +kernel
theorem dX12_passes_104 : decode cX12_passes 104 = .ok (.iadd, 1) := by decide +kernel
theorem dX12_passes_105 : decode cX12_passes 105 = .ok (.putfield 237, 3) := by decide +kernel
theorem dX12_passes_108 : decode cX12_passes 108 = .ok (.goto 265, 3) := by decide +kernel
theorem dX12_passes_111 : decode cX12_passes 111 = .ok (.aload_n 0, 1) := by decide +kernel
theorem dX12_passes_112 : decode cX12_passes 112 = .ok (.aload_n 0, 1) := by decide +kernel
theorem dX12_passes_113 : decode cX12_passes 113 = .ok (.getfield 240, 3) := by decide +kernel
theorem dX12_passes_116 : decode cX12_passes 116 = .ok (.aload_n 0, 1) := by decide +kernel
theorem dX12_passes_117 : decode cX12_passes 117 = .ok (.getfield 13, 3) := by decide +kernel
theorem dX12_passes_120 : decode cX12_passes 120 = .ok (.iload_n 2, 1) := by decide +kernel
theorem dX12_passes_121 : decode cX12_passes 121 = .ok (.iaload, 1) := by decide +kernel
theorem dX12_passes_122 : decode cX12_passes 122 = .ok (.if_icmp .ge 14, 3) := by decide +kernel
theorem dX12_passes_125 : decode cX12_passes 125 = .ok (.iload_n 1, 1) := by decide +kernel
theorem dX12_passes_126 : decode cX12_passes 126 = .ok (.aload_n 0, 1) := by decide +kernel
theorem dX12_passes_127 : decode cX12_passes 127 = .ok (.getfield 16, 3) := by decide +kernel
theorem dX12_passes_130 : decode cX12_passes 130 = .ok (.iload_n 2, 1) := by decide +kernel
theorem dX12_passes_131 : decode cX12_passes 131 = .ok (.iaload, 1) := by decide +kernel
theorem dX12_passes_132 : decode cX12_passes 132 = .ok (.isub, 1) := by decide +kernel
theorem dX12_passes_133 : decode cX12_passes 133 = .ok (.goto 7, 3) := by decide +kernel
theorem dX12_passes_136 : decode cX12_passes 136 = .ok (.aload_n 0, 1) := by decide +kernel
theorem dX12_passes_137 : decode cX12_passes 137 = .ok (.getfield 237, 3) := by decide +kernel
theorem dX12_passes_140 : decode cX12_passes 140 = .ok (.putfield 237, 3) := by decide +kernel
theorem dX12_passes_143 : decode cX12_passes 143 = .ok (.goto 230, 3) := by decide +kernel
theorem dX12_passes_146 : decode cX12_passes 146 = .ok (.aload_n 0, 1) := by decide +kernel
theorem dX12_passes_147 : decode cX12_passes 147 = .ok (.aload_n 0, 1) := by decide +kernel
theorem dX12_passes_148 : decode cX12_passes 148 = .ok (.getfield 13, 3) := by decide +kernel
theorem dX12_passes_151 : decode cX12_passes 151 = .ok (.iload_n 2, 1) := by decide +kernel
theorem dX12_passes_152 : decode cX12_passes 152 = .ok (.iaload, 1) := by decide +kernel
theorem dX12_passes_153 : decode cX12_passes 153 = .ok (.putfield 240, 3) := by decide +kernel
theorem dX12_passes_156 : decode cX12_passes 156 = .ok (.goto 217, 3) := by decide +kernel
theorem dX12_passes_159 : decode cX12_passes 159 = .ok (.aload_n 0, 1) := by decide +kernel
theorem dX12_passes_160 : decode cX12_passes 160 = .ok (.aload_n 0, 1) := by decide +kernel
theorem dX12_passes_161 : decode cX12_passes 161 = .ok (.getfield 240, 3) := by decide +kernel
theorem dX12_passes_164 : decode cX12_passes 164 = .ok (.aload_n 0, 1) := by decide +kernel
theorem dX12_passes_165 : decode cX12_passes 165 = .ok (.getfield 13, 3) := by decide +kernel
theorem dX12_passes_168 : decode cX12_passes 168 = .ok (.iload_n 2, 1) := by decide +kernel
theorem dX12_passes_169 : decode cX12_passes 169 = .ok (.iaload, 1) := by decide +kernel
theorem dX12_passes_170 : decode cX12_passes 170 = .ok (.iadd, 1) := by decide +kernel
theorem dX12_passes_171 : decode cX12_passes 171 = .ok (.invokestatic 342, 3) := by decide +kernel
theorem dX12_passes_174 : decode cX12_passes 174 = .ok (.putfield 240, 3) := by decide +kernel
theorem dX12_passes_177 : decode cX12_passes 177 = .ok (.goto 196, 3) := by decide +kernel
theorem dX12_passes_180 : decode cX12_passes 180 = .ok (.aload_n 0, 1) := by decide +kernel
theorem dX12_passes_181 : decode cX12_passes 181 = .ok (.getfield 152, 3) := by decide +kernel
theorem dX12_passes_184 : decode cX12_passes 184 = .ok (.aload_n 0, 1) := by decide +kernel
theorem dX12_passes_185 : decode cX12_passes 185 = .ok (.getfield 280, 3) := by decide +kernel
theorem dX12_passes_188 : decode cX12_passes 188 = .ok (.aload_n 0, 1) := by decide +kernel
theorem dX12_passes_189 : decode cX12_passes 189 = .ok (.getfield 13, 3) := by decide +kernel
theorem dX12_passes_192 : decode cX12_passes 192 = .ok (.iload_n 2, 1) := by decide +kernel
theorem dX12_passes_193 : decode cX12_passes 193 = .ok (.iaload, 1) := by decide +kernel
theorem dX12_passes_194 : decode cX12_passes 194 = .ok (.iastore, 1) := by decide +kernel
theorem dX12_passes_195 : decode cX12_passes 195 = .ok (.aload_n 0, 1) := by decide +kernel
theorem dX12_passes_196 : decode cX12_passes 196 = .ok (.getfield 155, 3) := by decide +kernel
theorem dX12_passes_199 : decode cX12_passes 199 = .ok (.aload_n 0, 1) := by decide +kernel
theorem dX12_passes_200 : decode cX12_passes 200 = .ok (.getfield 280, 3) := by decide +kernel
theorem dX12_passes_203 : decode cX12_passes 203 = .ok (.aload_n 0, 1) := by decide +kernel
theorem dX12_passes_204 : decode cX12_passes 204 = .ok (.getfield 16, 3) := by decide +kernel
theorem dX12_passes_207 : decode cX12_passes 207 = .ok (.iload_n 2, 1) := by decide +kernel
theorem dX12_passes_208 : decode cX12_passes 208 = .ok (.iaload, 1) := by decide +kernel
theorem dX12_passes_209 : decode cX12_passes 209 = .ok (.iastore, 1) := by decide +kernel
theorem dX12_passes_210 : decode cX12_passes 210 = .ok (.aload_n 0, 1) := by decide +kernel
theorem dX12_passes_211 : decode cX12_passes 211 = .ok (.dup, 1) := by decide +kernel
theorem dX12_passes_212 : decode cX12_passes 212 = .ok (.getfield 280, 3) := by decide +kernel
theorem dX12_passes_215 : decode cX12_passes 215 = .ok (.iconst 1, 1) := by decide +kernel
theorem dX12_passes_216 : decode cX12_passes 216 = .ok (.iadd, 1) := by decide +kernel
theorem dX12_passes_217 : decode cX12_passes 217 = .ok (.putfield 280, 3) := by decide +kernel
theorem dX12_passes_220 : decode cX12_passes 220 = .ok (.goto 153, 3) := by decide +kernel
theorem dX12_passes_223 : decode cX12_passes 223 = .ok (.aload_n 0, 1) := by decide +kernel
theorem dX12_passes_224 : decode cX12_passes 224 = .ok (.dup, 1) := by decide +kernel
theorem dX12_passes_225 : decode cX12_passes 225 = .ok (.getfield 237, 3) := by decide +kernel
theorem dX12_passes_228 : decode cX12_passes 228 = .ok (.aload_n 0, 1) := by decide +kernel
theorem dX12_passes_229 : decode cX12_passes 229 = .ok (.aload_n 0, 1) := by decide +kernel
theorem dX12_passes_230 : decode cX12_passes 230 = .ok (.getfield 13, 3) := by decide +kernel
theorem dX12_passes_233 : decode cX12_passes 233 = .ok (.iload_n 2, 1) := by decide +kernel
theorem dX12_passes_234 : decode cX12_passes 234 = .ok (.iaload, 1) := by decide +kernel
theorem dX12_passes_235 : decode cX12_passes 235 = .ok (.invokevirtual 345, 3) := by decide +kernel
theorem dX12_passes_238 : decode cX12_passes 238 = .ok (.ifCond .eq 7, 3) := by decide +kernel
theorem dX12_passes_241 : decode cX12_passes 241 = .ok (.iconst 0, 1) := by decide +kernel
theorem dX12_passes_242 : decode cX12_passes 242 = .ok (.goto 9, 3) := by decide +kernel
theorem dX12_passes_245 : decode cX12_passes 245 = .ok (.aload_n 0, 1) := by decide +kernel
theorem dX12_passes_246 : decode cX12_passes 246 = .ok (.getfield 16, 3) := by decide +kernel
theorem dX12_passes_249 : decode cX12_passes 249 = .ok (.iload_n 2, 1) := by decide +kernel
theorem dX12_passes_250 : decode cX12_passes 250 = .ok (.iaload, 1) := by decide +kernel
theorem dX12_passes_251 : decode cX12_passes 251 = .ok (.iadd, 1) := by decide +kernel
theorem dX12_passes_252 : decode cX12_passes 252 = .ok (.putfield 237, 3) := by decide +kernel
theorem dX12_passes_255 : decode cX12_passes 255 = .ok (.goto 118, 3) := by decide +kernel
theorem dX12_passes_258 : decode cX12_passes 258 = .ok (.aload_n 0, 1) := by decide +kernel
theorem dX12_passes_259 : decode cX12_passes 259 = .ok (.aload_n 0, 1) := by decide +kernel
theorem dX12_passes_260 : decode cX12_passes 260 = .ok (.getfield 13, 3) := by decide +kernel
theorem dX12_passes_263 : decode cX12_passes 263 = .ok (.iload_n 2, 1) := by decide +kernel
theorem dX12_passes_264 : decode cX12_passes 264 = .ok (.iaload, 1) := by decide +kernel
theorem dX12_passes_265 : decode cX12_passes 265 = .ok (.aload_n 0, 1) := by decide +kernel
theorem dX12_passes_266 : decode cX12_passes 266 = .ok (.getfield 252, 3) := by decide +kernel
theorem dX12_passes_269 : decode cX12_passes 269 = .ok (.if_icmp .le 12, 3) := by decide +kernel
theorem dX12_passes_272 : decode cX12_passes 272 = .ok (.aload_n 0, 1) := by decide +kernel
theorem dX12_passes_273 : decode cX12_passes 273 = .ok (.getfield 13, 3) := by decide +kernel
theorem dX12_passes_276 : decode cX12_passes 276 = .ok (.iload_n 2, 1) := by decide +kernel
theorem dX12_passes_277 : decode cX12_passes 277 = .ok (.iaload, 1) := by decide +kernel
theorem dX12_passes_278 : decode cX12_passes 278 = .ok (.goto 7, 3) := by decide +kernel
theorem dX12_passes_281 : decode cX12_passes 281 = .ok (.aload_n 0, 1) := by decide +kernel
theorem dX12_passes_282 : decode cX12_passes 282 = .ok (.getfield 252, 3) := by decide +kernel
theorem dX12_passes_285 : decode cX12_passes 285 = .ok (.putfield 252, 3) := by decide +kernel
theorem dX12_passes_288 : decode cX12_passes 288 = .ok (.goto 85, 3) := by decide +kernel
theorem dX12_passes_291 : decode cX12_passes 291 = .ok (.aload_n 0, 1) := by decide +kernel
theorem dX12_passes_292 : decode cX12_passes 292 = .ok (.bipush 14, 2) := by decide +kernel
theorem dX12_passes_294 : decode cX12_passes 294 = .ok (.aload_n 0, 1) := by decide +kernel
theorem dX12_passes_295 : decode cX12_passes 295 = .ok (.getfield 13, 3) := by decide +kernel
theorem dX12_passes_298 : decode cX12_passes 298 = .ok (.iload_n 2, 1) := by decide +kernel
theorem dX12_passes_299 : decode cX12_passes 299 = .ok (.iaload, 1) := by decide +kernel
theorem dX12_passes_300 : decode cX12_passes 300 = .ok (.aload_n 0, 1) := by decide +kernel
theorem dX12_passes_301 : decode cX12_passes 301 = .ok (.getfield 16, 3) := by decide +kernel
theorem dX12_passes_304 : decode cX12_passes 304 = .ok (.iload_n 2, 1) := by decide +kernel
theorem dX12_passes_305 : decode cX12_passes 305 = .ok (.iaload, 1) := by decide +kernel
theorem dX12_passes_306 : decode cX12_passes 306 = .ok (.bipush 100, 2) := by decide +kernel
theorem dX12_passes_308 : decode cX12_passes 308 = .ok (.if_icmp .ne 10, 3) := by decide +kernel
theorem dX12_passes_311 : decode cX12_passes 311 = .ok (.aload_n 0, 1) := by decide +kernel
theorem dX12_passes_312 : decode cX12_passes 312 = .ok (.getfield 240, 3) := by decide +kernel
theorem dX12_passes_315 : decode cX12_passes 315 = .ok (.goto 9, 3) := by decide +kernel
theorem dX12_passes_318 : decode cX12_passes 318 = .ok (.aload_n 0, 1) := by decide +kernel
theorem dX12_passes_319 : decode cX12_passes 319 = .ok (.getfield 16, 3) := by decide +kernel
theorem dX12_passes_322 : decode cX12_passes 322 = .ok (.iload_n 2, 1) := by decide +kernel
theorem dX12_passes_323 : decode cX12_passes 323 = .ok (.iaload, 1) := by decide +kernel
theorem dX12_passes_324 : decode cX12_passes 324 = .ok (.invokevirtual 292, 3) := by decide +kernel
theorem dX12_passes_327 : decode cX12_passes 327 = .ok (.goto 46, 3) := by decide +kernel
theorem dX12_passes_330 : decode cX12_passes 330 = .ok (.aload_n 0, 1) := by decide +kernel
theorem dX12_passes_331 : decode cX12_passes 331 = .ok (.aload_n 0, 1) := by decide +kernel
theorem dX12_passes_332 : decode cX12_passes 332 = .ok (.getfield 13, 3) := by decide +kernel
theorem dX12_passes_335 : decode cX12_passes 335 = .ok (.iload_n 2, 1) := by decide +kernel
theorem dX12_passes_336 : decode cX12_passes 336 = .ok (.iaload, 1) := by decide +kernel
theorem dX12_passes_337 : decode cX12_passes 337 = .ok (.invokevirtual 304, 3) := by decide +kernel
theorem dX12_passes_340 : decode cX12_passes 340 = .ok (.goto 33, 3) := by decide +kernel
theorem dX12_passes_343 : decode cX12_passes 343 = .ok (.aload_n 0, 1) := by decide +kernel
theorem dX12_passes_344 : decode cX12_passes 344 = .ok (.invokevirtual 348, 3) := by decide +kernel
theorem dX12_passes_347 : decode cX12_passes 347 = .ok (.goto 26, 3) := by decide +kernel
theorem dX12_passes_350 : decode cX12_passes 350 = .ok (.aload_n 0, 1) := by decide +kernel
theorem dX12_passes_351 : decode cX12_passes 351 = .ok (.bipush 21, 2) := by decide +kernel
theorem dX12_passes_353 : decode cX12_passes 353 = .ok (.aload_n 0, 1) := by decide +kernel
theorem dX12_passes_354 : decode cX12_passes 354 = .ok (.getfield 240, 3) := by decide +kernel
theorem dX12_passes_357 : decode cX12_passes 357 = .ok (.invokevirtual 299, 3) := by decide +kernel
theorem dX12_passes_360 : decode cX12_passes 360 = .ok (.goto 13, 3) := by decide +kernel
theorem dX12_passes_363 : decode cX12_passes 363 = .ok (.aload_n 0, 1) := by decide +kernel
theorem dX12_passes_364 : decode cX12_passes 364 = .ok (.iload_n 1, 1) := by decide +kernel
theorem dX12_passes_365 : decode cX12_passes 365 = .ok (.putfield 237, 3) := by decide +kernel
theorem dX12_passes_368 : decode cX12_passes 368 = .ok (.aload_n 0, 1) := by decide +kernel
theorem dX12_passes_369 : decode cX12_passes 369 = .ok (.iload_n 1, 1) := by decide +kernel
theorem dX12_passes_370 : decode cX12_passes 370 = .ok (.invokevirtual 351, 3) := by decide +kernel
theorem dX12_passes_373 : decode cX12_passes 373 = .ok (.return_, 1) := by decide +kernel
theorem e_X12_passes_324 (d : Nat) {s0 s1 s2 s3 : Int} {m : Mem} {v : Int} {m' : Mem} (h : X12_passes_324 s0 s1 s2 s3 m = some (v, m')) : Ex (d + 6) fm_X12_passes 324 [(3, 0), (3, 0), (3, 0)] [(0, s0), (0, s1), (0, s2), (22, s3)] m (.inl (3, 0)) m' := by
  unfold X12_passes_324 at h
  obtain ⟨c1, h⟩ := chk_some h
  obtain ⟨v2, m3, g4, h⟩ := cal_some h
  refine cV3 (e_X12_decides (d + 5) g4) (contV (?_ : Ex _ _ 327 _ _ _ _ _)) og_X12_decides rfl ml_RX12_292 12 rfl rfl c1 im_X12_decides se_X12_decides (Nat.le_of_ble_eq_true rfl) dX12_passes_324
  refine x_goto (tgt := 373) dX12_passes_327 rfl (?_ : Ex _ _ 373 _ _ _ _ _)
  cases h
  exact x_retv dX12_passes_373
theorem e_X12_passes_0 (d : Nat) {l0 l1 : Int} {m : Mem} {v : Int} {m' : Mem} (h : X12_passes_0 l0 l1 m = some (v, m')) : Ex (d + 6) fm_X12_passes 0 [(22, l0), (0, l1), (3, 0)] [] m (.inl (3, 0)) m' := by
  unfold X12_passes_0 at h
  refine x_aload_n dX12_passes_0 rfl rfl (Or.inr (by decide)) (?_ : Ex _ _ 1 _ _ _ _ _)
  refine x_iload_n dX12_passes_1 rfl rfl (?_ : Ex _ _ 2 _ _ _ _ _)
  obtain ⟨c1, h⟩ := chk_some h
  obtain ⟨v2, m3, g4, h⟩ := cal_some h
  refine cV1 (e_X12_stepAt (d + 5) g4) (contN (by decide) (?_ : Ex _ _ 5 _ _ _ _ _)) og_X12_stepAt rfl ml_RX12_308 12 rfl rfl c1 im_X12_stepAt se_X12_stepAt (Nat.le_of_ble_eq_true rfl) dX12_passes_2
  refine x_istore_n (ls2 := [(22, l0), (0, l1), (0, v2)]) dX12_passes_5 rfl (Nat.le_of_ble_eq_true rfl) rfl (?_ : Ex _ _ 6 _ _ _ _ _)
  refine x_aload_n dX12_passes_6 rfl rfl (Or.inr (by decide)) (?_ : Ex _ _ 7 _ _ _ _ _)
  refine x_iload_n dX12_passes_7 rfl rfl (?_ : Ex _ _ 8 _ _ _ _ _)
  refine x_iconst dX12_passes_8 rfl (by decide) (?_ : Ex _ _ 9 _ _ _ _ _)
  obtain ⟨c5, h⟩ := chk_some h
  refine x_iadd dX12_passes_9 c5 (?_ : Ex _ _ 10 _ _ _ _ _)
  obtain ⟨m6, hm6, h⟩ := st_some h
  refine pt_12_40  c1 fl_RX12_237 dX12_passes_10 (?_ : Ex _ _ 13 _ _ _ _ _)
  rw [← hm6]
  refine x_aload_n dX12_passes_13 rfl rfl (Or.inr (by decide)) (?_ : Ex _ _ 14 _ _ _ _ _)
  refine gt_12_2 c1 fl_RX12_7 dX12_passes_14 (?_ : Ex _ _ 17 _ _ _ _ _)
  refine x_iload_n dX12_passes_17 rfl rfl (?_ : Ex _ _ 18 _ _ _ _ _)
  obtain ⟨⟨c7, c8, c9⟩, h⟩ := chk_some h
  refine ld_i_180 c7 c8 c9 dX12_passes_18 (?_ : Ex _ _ 19 _ _ _ _ _)
  rcases ite_some h with ⟨b10, h⟩ | ⟨b10, h⟩
  · refine y_tableAt (j := 5) (off := 57) (tgt := 76) b10 dX12_passes_19 (by decide) (by decide) rfl rfl (?_ : Ex _ _ 76 _ _ _ _ _)
    refine x_aload_n dX12_passes_76 rfl rfl (Or.inr (by decide)) (?_ : Ex _ _ 77 _ _ _ _ _)
    refine x_dup (by decide : (22 : Int) ≠ 2) dX12_passes_77 (?_ : Ex _ _ 78 _ _ _ _ _)
    refine gt_12_40 c1 fl_RX12_237 dX12_passes_78 (?_ : Ex _ _ 81 _ _ _ _ _)
    refine x_aload_n dX12_passes_81 rfl rfl (Or.inr (by decide)) (?_ : Ex _ _ 82 _ _ _ _ _)
    refine gt_12_41 c1 fl_RX12_240 dX12_passes_82 (?_ : Ex _ _ 85 _ _ _ _ _)
    refine x_aload_n dX12_passes_85 rfl rfl (Or.inr (by decide)) (?_ : Ex _ _ 86 _ _ _ _ _)
    refine gt_12_3 c1 fl_RX12_13 dX12_passes_86 (?_ : Ex _ _ 89 _ _ _ _ _)
    refine x_iload_n dX12_passes_89 rfl rfl (?_ : Ex _ _ 90 _ _ _ _ _)
    obtain ⟨⟨c11, c12, c13⟩, h⟩ := chk_some h
    refine ld_i_180 c11 c12 c13 dX12_passes_90 (?_ : Ex _ _ 91 _ _ _ _ _)
    rcases ite_some h with ⟨b14, h⟩ | ⟨b14, h⟩
    · refine x_icmp_ge (tgt := 103) dX12_passes_91 rfl b14 (?_ : Ex _ _ 103 _ _ _ _ _)
      refine x_iconst dX12_passes_103 rfl (by decide) (?_ : Ex _ _ 104 _ _ _ _ _)
      obtain ⟨c15, h⟩ := chk_some h
      refine x_iadd dX12_passes_104 c15 (?_ : Ex _ _ 105 _ _ _ _ _)
      obtain ⟨m16, hm16, h⟩ := st_some h
      refine pt_12_40  c1 fl_RX12_237 dX12_passes_105 (?_ : Ex _ _ 108 _ _ _ _ _)
      rw [← hm16]
      refine x_goto (tgt := 373) dX12_passes_108 rfl (?_ : Ex _ _ 373 _ _ _ _ _)
      cases h
      exact x_retv dX12_passes_373
    · refine x_icmp_geN dX12_passes_91 (by decide) b14 (?_ : Ex _ _ 94 _ _ _ _ _)
      refine x_aload_n dX12_passes_94 rfl rfl (Or.inr (by decide)) (?_ : Ex _ _ 95 _ _ _ _ _)
      refine gt_12_4 c1 fl_RX12_16 dX12_passes_95 (?_ : Ex _ _ 98 _ _ _ _ _)
      refine x_iload_n dX12_passes_98 rfl rfl (?_ : Ex _ _ 99 _ _ _ _ _)
      obtain ⟨⟨c17, c18, c19⟩, h⟩ := chk_some h
      refine ld_i_180 c17 c18 c19 dX12_passes_99 (?_ : Ex _ _ 100 _ _ _ _ _)
      refine x_goto (tgt := 104) dX12_passes_100 rfl (?_ : Ex _ _ 104 _ _ _ _ _)
      obtain ⟨c20, h⟩ := chk_some h
      refine x_iadd dX12_passes_104 c20 (?_ : Ex _ _ 105 _ _ _ _ _)
      obtain ⟨m21, hm21, h⟩ := st_some h
      refine pt_12_40  c1 fl_RX12_237 dX12_passes_105 (?_ : Ex _ _ 108 _ _ _ _ _)
      rw [← hm21]
      refine x_goto (tgt := 373) dX12_passes_108 rfl (?_ : Ex _ _ 373 _ _ _ _ _)
      cases h
      exact x_retv dX12_passes_373
  rcases ite_some h with ⟨b22, h⟩ | ⟨b22, h⟩
  · refine y_tableAt (j := 6) (off := 92) (tgt := 111) b22 dX12_passes_19 (by decide) (by decide) rfl rfl (?_ : Ex _ _ 111 _ _ _ _ _)
    refine x_aload_n dX12_passes_111 rfl rfl (Or.inr (by decide)) (?_ : Ex _ _ 112 _ _ _ _ _)
    refine x_aload_n dX12_passes_112 rfl rfl (Or.inr (by decide)) (?_ : Ex _ _ 113 _ _ _ _ _)
    refine gt_12_41 c1 fl_RX12_240 dX12_passes_113 (?_ : Ex _ _ 116 _ _ _ _ _)
    refine x_aload_n dX12_passes_116 rfl rfl (Or.inr (by decide)) (?_ : Ex _ _ 117 _ _ _ _ _)
    refine gt_12_3 c1 fl_RX12_13 dX12_passes_117 (?_ : Ex _ _ 120 _ _ _ _ _)
    refine x_iload_n dX12_passes_120 rfl rfl (?_ : Ex _ _ 121 _ _ _ _ _)
    obtain ⟨⟨c23, c24, c25⟩, h⟩ := chk_some h
    refine ld_i_180 c23 c24 c25 dX12_passes_121 (?_ : Ex _ _ 122 _ _ _ _ _)
    rcases ite_some h with ⟨b26, h⟩ | ⟨b26, h⟩
    · refine x_icmp_ge (tgt := 136) dX12_passes_122 rfl b26 (?_ : Ex _ _ 136 _ _ _ _ _)
      refine x_aload_n dX12_passes_136 rfl rfl (Or.inr (by decide)) (?_ : Ex _ _ 137 _ _ _ _ _)
      refine gt_12_40 c1 fl_RX12_237 dX12_passes_137 (?_ : Ex _ _ 140 _ _ _ _ _)
      obtain ⟨m27, hm27, h⟩ := st_some h
      refine pt_12_40  c1 fl_RX12_237 dX12_passes_140 (?_ : Ex _ _ 143 _ _ _ _ _)
      rw [← hm27]
      refine x_goto (tgt := 373) dX12_passes_143 rfl (?_ : Ex _ _ 373 _ _ _ _ _)
      cases h
      exact x_retv dX12_passes_373
    · refine x_icmp_geN dX12_passes_122 (by decide) b26 (?_ : Ex _ _ 125 _ _ _ _ _)
      refine x_iload_n dX12_passes_125 rfl rfl (?_ : Ex _ _ 126 _ _ _ _ _)
      refine x_aload_n dX12_passes_126 rfl rfl (Or.inr (by decide)) (?_ : Ex _ _ 127 _ _ _ _ _)
      refine gt_12_4 c1 fl_RX12_16 dX12_passes_127 (?_ : Ex _ _ 130 _ _ _ _ _)
      refine x_iload_n dX12_passes_130 rfl rfl (?_ : Ex _ _ 131 _ _ _ _ _)
      obtain ⟨⟨c28, c29, c30⟩, h⟩ := chk_some h
      refine ld_i_180 c28 c29 c30 dX12_passes_131 (?_ : Ex _ _ 132 _ _ _ _ _)
      obtain ⟨c31, h⟩ := chk_some h
      refine x_isub dX12_passes_132 c31 (?_ : Ex _ _ 133 _ _ _ _ _)
      refine x_goto (tgt := 140) dX12_passes_133 rfl (?_ : Ex _ _ 140 _ _ _ _ _)
      obtain ⟨m32, hm32, h⟩ := st_some h
      refine pt_12_40  c1 fl_RX12_237 dX12_passes_140 (?_ : Ex _ _ 143 _ _ _ _ _)
      rw [← hm32]
      refine x_goto (tgt := 373) dX12_passes_143 rfl (?_ : Ex _ _ 373 _ _ _ _ _)
      cases h
      exact x_retv dX12_passes_373
  rcases ite_some h with ⟨b33, h⟩ | ⟨b33, h⟩
  · refine y_tableAt (j := 7) (off := 127) (tgt := 146) b33 dX12_passes_19 (by decide) (by decide) rfl rfl (?_ : Ex _ _ 146 _ _ _ _ _)
    refine x_aload_n dX12_passes_146 rfl rfl (Or.inr (by decide)) (?_ : Ex _ _ 147 _ _ _ _ _)
    refine x_aload_n dX12_passes_147 rfl rfl (Or.inr (by decide)) (?_ : Ex _ _ 148 _ _ _ _ _)
    refine gt_12_3 c1 fl_RX12_13 dX12_passes_148 (?_ : Ex _ _ 151 _ _ _ _ _)
    refine x_iload_n dX12_passes_151 rfl rfl (?_ : Ex _ _ 152 _ _ _ _ _)
    obtain ⟨⟨c34, c35, c36⟩, h⟩ := chk_some h
    refine ld_i_180 c34 c35 c36 dX12_passes_152 (?_ : Ex _ _ 153 _ _ _ _ _)
    obtain ⟨m37, hm37, h⟩ := st_some h
    refine pt_12_41  c1 fl_RX12_240 dX12_passes_153 (?_ : Ex _ _ 156 _ _ _ _ _)
    rw [← hm37]
    refine x_goto (tgt := 373) dX12_passes_156 rfl (?_ : Ex _ _ 373 _ _ _ _ _)
    cases h
    exact x_retv dX12_passes_373
  rcases ite_some h with ⟨b38, h⟩ | ⟨b38, h⟩
  · refine y_tableAt (j := 8) (off := 140) (tgt := 159) b38 dX12_passes_19 (by decide) (by decide) rfl rfl (?_ : Ex _ _ 159 _ _ _ _ _)
    refine x_aload_n dX12_passes_159 rfl rfl (Or.inr (by decide)) (?_ : Ex _ _ 160 _ _ _ _ _)
    refine x_aload_n dX12_passes_160 rfl rfl (Or.inr (by decide)) (?_ : Ex _ _ 161 _ _ _ _ _)
    refine gt_12_41 c1 fl_RX12_240 dX12_passes_161 (?_ : Ex _ _ 164 _ _ _ _ _)
    refine x_aload_n dX12_passes_164 rfl rfl (Or.inr (by decide)) (?_ : Ex _ _ 165 _ _ _ _ _)
    refine gt_12_3 c1 fl_RX12_13 dX12_passes_165 (?_ : Ex _ _ 168 _ _ _ _ _)
    refine x_iload_n dX12_passes_168 rfl rfl (?_ : Ex _ _ 169 _ _ _ _ _)
    obtain ⟨⟨c39, c40, c41⟩, h⟩ := chk_some h
    refine ld_i_180 c39 c40 c41 dX12_passes_169 (?_ : Ex _ _ 170 _ _ _ _ _)
    obtain ⟨c42, h⟩ := chk_some h
    refine x_iadd dX12_passes_170 c42 (?_ : Ex _ _ 171 _ _ _ _ _)
    obtain ⟨v43, m44, g45, h⟩ := cal_some h
    refine cS1 (e_X12_held (d + 5) g45) (contN (by decide) (?_ : Ex _ _ 174 _ _ _ _ _)) og_X12_held rfl ml_RX12_342 sm_X12_held (Nat.le_of_ble_eq_true rfl) dX12_passes_171
    obtain ⟨m46, hm46, h⟩ := st_some h
    refine pt_12_41  c1 fl_RX12_240 dX12_passes_174 (?_ : Ex _ _ 177 _ _ _ _ _)
    rw [← hm46]
    refine x_goto (tgt := 373) dX12_passes_177 rfl (?_ : Ex _ _ 373 _ _ _ _ _)
    cases h
    exact x_retv dX12_passes_373
  rcases ite_some h with ⟨b47, h⟩ | ⟨b47, h⟩
  · refine y_tableAt (j := 9) (off := 161) (tgt := 180) b47 dX12_passes_19 (by decide) (by decide) rfl rfl (?_ : Ex _ _ 180 _ _ _ _ _)
    refine x_aload_n dX12_passes_180 rfl rfl (Or.inr (by decide)) (?_ : Ex _ _ 181 _ _ _ _ _)
    refine gt_12_69 c1 fl_RX12_152 dX12_passes_181 (?_ : Ex _ _ 184 _ _ _ _ _)
    refine x_aload_n dX12_passes_184 rfl rfl (Or.inr (by decide)) (?_ : Ex _ _ 185 _ _ _ _ _)
    refine gt_12_71 c1 fl_RX12_280 dX12_passes_185 (?_ : Ex _ _ 188 _ _ _ _ _)
    refine x_aload_n dX12_passes_188 rfl rfl (Or.inr (by decide)) (?_ : Ex _ _ 189 _ _ _ _ _)
    refine gt_12_3 c1 fl_RX12_13 dX12_passes_189 (?_ : Ex _ _ 192 _ _ _ _ _)
    refine x_iload_n dX12_passes_192 rfl rfl (?_ : Ex _ _ 193 _ _ _ _ _)
    obtain ⟨⟨c48, c49, c50⟩, h⟩ := chk_some h
    refine ld_i_180 c48 c49 c50 dX12_passes_193 (?_ : Ex _ _ 194 _ _ _ _ _)
    obtain ⟨⟨c51, c52, c53⟩, h⟩ := chk_some h
    obtain ⟨m54, hm54, h⟩ := st_some h
    refine sd_i_5200 c51 c52 c53 dX12_passes_194 (?_ : Ex _ _ 195 _ _ _ _ _)
    rw [← hm54]
    refine x_aload_n dX12_passes_195 rfl rfl (Or.inr (by decide)) (?_ : Ex _ _ 196 _ _ _ _ _)
    refine gt_12_70 c1 fl_RX12_155 dX12_passes_196 (?_ : Ex _ _ 199 _ _ _ _ _)
    refine x_aload_n dX12_passes_199 rfl rfl (Or.inr (by decide)) (?_ : Ex _ _ 200 _ _ _ _ _)
    refine gt_12_71 c1 fl_RX12_280 dX12_passes_200 (?_ : Ex _ _ 203 _ _ _ _ _)
    refine x_aload_n dX12_passes_203 rfl rfl (Or.inr (by decide)) (?_ : Ex _ _ 204 _ _ _ _ _)
    refine gt_12_4 c1 fl_RX12_16 dX12_passes_204 (?_ : Ex _ _ 207 _ _ _ _ _)
    refine x_iload_n dX12_passes_207 rfl rfl (?_ : Ex _ _ 208 _ _ _ _ _)
    obtain ⟨⟨c55, c56, c57⟩, h⟩ := chk_some h
    refine ld_i_180 c55 c56 c57 dX12_passes_208 (?_ : Ex _ _ 209 _ _ _ _ _)
    obtain ⟨⟨c58, c59, c60⟩, h⟩ := chk_some h
    obtain ⟨m61, hm61, h⟩ := st_some h
    refine sd_i_5200 c58 c59 c60 dX12_passes_209 (?_ : Ex _ _ 210 _ _ _ _ _)
    rw [← hm61]
    refine x_aload_n dX12_passes_210 rfl rfl (Or.inr (by decide)) (?_ : Ex _ _ 211 _ _ _ _ _)
    refine x_dup (by decide : (22 : Int) ≠ 2) dX12_passes_211 (?_ : Ex _ _ 212 _ _ _ _ _)
    refine gt_12_71 c1 fl_RX12_280 dX12_passes_212 (?_ : Ex _ _ 215 _ _ _ _ _)
    refine x_iconst dX12_passes_215 rfl (by decide) (?_ : Ex _ _ 216 _ _ _ _ _)
    obtain ⟨c62, h⟩ := chk_some h
    refine x_iadd dX12_passes_216 c62 (?_ : Ex _ _ 217 _ _ _ _ _)
    obtain ⟨m63, hm63, h⟩ := st_some h
    refine pt_12_71  c1 fl_RX12_280 dX12_passes_217 (?_ : Ex _ _ 220 _ _ _ _ _)
    rw [← hm63]
    refine x_goto (tgt := 373) dX12_passes_220 rfl (?_ : Ex _ _ 373 _ _ _ _ _)
    cases h
    exact x_retv dX12_passes_373
  rcases ite_some h with ⟨b64, h⟩ | ⟨b64, h⟩
  · refine y_tableAt (j := 10) (off := 204) (tgt := 223) b64 dX12_passes_19 (by decide) (by decide) rfl rfl (?_ : Ex _ _ 223 _ _ _ _ _)
    refine x_aload_n dX12_passes_223 rfl rfl (Or.inr (by decide)) (?_ : Ex _ _ 224 _ _ _ _ _)
    refine x_dup (by decide : (22 : Int) ≠ 2) dX12_passes_224 (?_ : Ex _ _ 225 _ _ _ _ _)
    refine gt_12_40 c1 fl_RX12_237 dX12_passes_225 (?_ : Ex _ _ 228 _ _ _ _ _)
    refine x_aload_n dX12_passes_228 rfl rfl (Or.inr (by decide)) (?_ : Ex _ _ 229 _ _ _ _ _)
    refine x_aload_n dX12_passes_229 rfl rfl (Or.inr (by decide)) (?_ : Ex _ _ 230 _ _ _ _ _)
    refine gt_12_3 c1 fl_RX12_13 dX12_passes_230 (?_ : Ex _ _ 233 _ _ _ _ _)
    refine x_iload_n dX12_passes_233 rfl rfl (?_ : Ex _ _ 234 _ _ _ _ _)
    obtain ⟨⟨c65, c66, c67⟩, h⟩ := chk_some h
    refine ld_i_180 c65 c66 c67 dX12_passes_234 (?_ : Ex _ _ 235 _ _ _ _ _)
    obtain ⟨v68, m69, g70, h⟩ := cal_some h
    refine cV1 (e_X12_isMarked (d + 4) g70) (contN (by decide) (?_ : Ex _ _ 238 _ _ _ _ _)) og_X12_isMarked rfl ml_RX12_345 12 rfl rfl c1 im_X12_isMarked se_X12_isMarked (Nat.le_of_ble_eq_true rfl) dX12_passes_235
    rcases ite_some h with ⟨b71, h⟩ | ⟨b71, h⟩
    · refine x_if_eq (tgt := 245) dX12_passes_238 rfl b71 (?_ : Ex _ _ 245 _ _ _ _ _)
      refine x_aload_n dX12_passes_245 rfl rfl (Or.inr (by decide)) (?_ : Ex _ _ 246 _ _ _ _ _)
      refine gt_12_4 c1 fl_RX12_16 dX12_passes_246 (?_ : Ex _ _ 249 _ _ _ _ _)
      refine x_iload_n dX12_passes_249 rfl rfl (?_ : Ex _ _ 250 _ _ _ _ _)
      obtain ⟨⟨c72, c73, c74⟩, h⟩ := chk_some h
      refine ld_i_180 c72 c73 c74 dX12_passes_250 (?_ : Ex _ _ 251 _ _ _ _ _)
      obtain ⟨c75, h⟩ := chk_some h
      refine x_iadd dX12_passes_251 c75 (?_ : Ex _ _ 252 _ _ _ _ _)
      obtain ⟨m76, hm76, h⟩ := st_some h
      refine pt_12_40  c1 fl_RX12_237 dX12_passes_252 (?_ : Ex _ _ 255 _ _ _ _ _)
      rw [← hm76]
      refine x_goto (tgt := 373) dX12_passes_255 rfl (?_ : Ex _ _ 373 _ _ _ _ _)
      cases h
      exact x_retv dX12_passes_373
    · refine x_if_eqN dX12_passes_238 (by decide) b71 (?_ : Ex _ _ 241 _ _ _ _ _)
      refine x_iconst dX12_passes_241 rfl (by decide) (?_ : Ex _ _ 242 _ _ _ _ _)
      refine x_goto (tgt := 251) dX12_passes_242 rfl (?_ : Ex _ _ 251 _ _ _ _ _)
      obtain ⟨c77, h⟩ := chk_some h
      refine x_iadd dX12_passes_251 c77 (?_ : Ex _ _ 252 _ _ _ _ _)
      obtain ⟨m78, hm78, h⟩ := st_some h
      refine pt_12_40  c1 fl_RX12_237 dX12_passes_252 (?_ : Ex _ _ 255 _ _ _ _ _)
      rw [← hm78]
      refine x_goto (tgt := 373) dX12_passes_255 rfl (?_ : Ex _ _ 373 _ _ _ _ _)
      cases h
      exact x_retv dX12_passes_373
  rcases ite_some h with ⟨b79, h⟩ | ⟨b79, h⟩
  · refine y_tableAt (j := 11) (off := 239) (tgt := 258) b79 dX12_passes_19 (by decide) (by decide) rfl rfl (?_ : Ex _ _ 258 _ _ _ _ _)
    refine x_aload_n dX12_passes_258 rfl rfl (Or.inr (by decide)) (?_ : Ex _ _ 259 _ _ _ _ _)
    refine x_aload_n dX12_passes_259 rfl rfl (Or.inr (by decide)) (?_ : Ex _ _ 260 _ _ _ _ _)
    refine gt_12_3 c1 fl_RX12_13 dX12_passes_260 (?_ : Ex _ _ 263 _ _ _ _ _)
    refine x_iload_n dX12_passes_263 rfl rfl (?_ : Ex _ _ 264 _ _ _ _ _)
    obtain ⟨⟨c80, c81, c82⟩, h⟩ := chk_some h
    refine ld_i_180 c80 c81 c82 dX12_passes_264 (?_ : Ex _ _ 265 _ _ _ _ _)
    refine x_aload_n dX12_passes_265 rfl rfl (Or.inr (by decide)) (?_ : Ex _ _ 266 _ _ _ _ _)
    refine gt_12_45 c1 fl_RX12_252 dX12_passes_266 (?_ : Ex _ _ 269 _ _ _ _ _)
    rcases ite_some h with ⟨b83, h⟩ | ⟨b83, h⟩
    · refine x_icmp_le (tgt := 281) dX12_passes_269 rfl b83 (?_ : Ex _ _ 281 _ _ _ _ _)
      refine x_aload_n dX12_passes_281 rfl rfl (Or.inr (by decide)) (?_ : Ex _ _ 282 _ _ _ _ _)
      refine gt_12_45 c1 fl_RX12_252 dX12_passes_282 (?_ : Ex _ _ 285 _ _ _ _ _)
      obtain ⟨m84, hm84, h⟩ := st_some h
      refine pt_12_45  c1 fl_RX12_252 dX12_passes_285 (?_ : Ex _ _ 288 _ _ _ _ _)
      rw [← hm84]
      refine x_goto (tgt := 373) dX12_passes_288 rfl (?_ : Ex _ _ 373 _ _ _ _ _)
      cases h
      exact x_retv dX12_passes_373
    · refine x_icmp_leN dX12_passes_269 (by decide) b83 (?_ : Ex _ _ 272 _ _ _ _ _)
      refine x_aload_n dX12_passes_272 rfl rfl (Or.inr (by decide)) (?_ : Ex _ _ 273 _ _ _ _ _)
      refine gt_12_3 c1 fl_RX12_13 dX12_passes_273 (?_ : Ex _ _ 276 _ _ _ _ _)
      refine x_iload_n dX12_passes_276 rfl rfl (?_ : Ex _ _ 277 _ _ _ _ _)
      obtain ⟨⟨c85, c86⟩, h⟩ := chk_some h
      refine ld_i_180 c80 c85 c86 dX12_passes_277 (?_ : Ex _ _ 278 _ _ _ _ _)
      refine x_goto (tgt := 285) dX12_passes_278 rfl (?_ : Ex _ _ 285 _ _ _ _ _)
      obtain ⟨m87, hm87, h⟩ := st_some h
      refine pt_12_45  c1 fl_RX12_252 dX12_passes_285 (?_ : Ex _ _ 288 _ _ _ _ _)
      rw [← hm87]
      refine x_goto (tgt := 373) dX12_passes_288 rfl (?_ : Ex _ _ 373 _ _ _ _ _)
      cases h
      exact x_retv dX12_passes_373
  rcases ite_some h with ⟨b88, h⟩ | ⟨b88, h⟩
  · refine y_tableAt (j := 12) (off := 272) (tgt := 291) b88 dX12_passes_19 (by decide) (by decide) rfl rfl (?_ : Ex _ _ 291 _ _ _ _ _)
    refine x_aload_n dX12_passes_291 rfl rfl (Or.inr (by decide)) (?_ : Ex _ _ 292 _ _ _ _ _)
    refine x_bipush dX12_passes_292 kb_14 (by decide) (?_ : Ex _ _ 294 _ _ _ _ _)
    refine x_aload_n dX12_passes_294 rfl rfl (Or.inr (by decide)) (?_ : Ex _ _ 295 _ _ _ _ _)
    refine gt_12_3 c1 fl_RX12_13 dX12_passes_295 (?_ : Ex _ _ 298 _ _ _ _ _)
    refine x_iload_n dX12_passes_298 rfl rfl (?_ : Ex _ _ 299 _ _ _ _ _)
    obtain ⟨⟨c89, c90, c91⟩, h⟩ := chk_some h
    refine ld_i_180 c89 c90 c91 dX12_passes_299 (?_ : Ex _ _ 300 _ _ _ _ _)
    refine x_aload_n dX12_passes_300 rfl rfl (Or.inr (by decide)) (?_ : Ex _ _ 301 _ _ _ _ _)
    refine gt_12_4 c1 fl_RX12_16 dX12_passes_301 (?_ : Ex _ _ 304 _ _ _ _ _)
    refine x_iload_n dX12_passes_304 rfl rfl (?_ : Ex _ _ 305 _ _ _ _ _)
    obtain ⟨⟨c92, c93, c94⟩, h⟩ := chk_some h
    refine ld_i_180 c92 c93 c94 dX12_passes_305 (?_ : Ex _ _ 306 _ _ _ _ _)
    refine x_bipush dX12_passes_306 kb_100 (by decide) (?_ : Ex _ _ 308 _ _ _ _ _)
    rcases ite_some h with ⟨b95, h⟩ | ⟨b95, h⟩
    · refine x_icmp_neN dX12_passes_308 (by decide) (fun hh => hh b95) (?_ : Ex _ _ 311 _ _ _ _ _)
      refine x_aload_n dX12_passes_311 rfl rfl (Or.inr (by decide)) (?_ : Ex _ _ 312 _ _ _ _ _)
      refine gt_12_41 c1 fl_RX12_240 dX12_passes_312 (?_ : Ex _ _ 315 _ _ _ _ _)
      refine x_goto (tgt := 324) dX12_passes_315 rfl (?_ : Ex _ _ 324 _ _ _ _ _)
      refine Ex.wk (ls2 := [(3, 0), (3, 0), (3, 0)]) ⟨Or.inl rfl, Or.inl rfl, Or.inl rfl, trivial⟩ ?_
      exact e_X12_passes_324 d h
    · refine x_icmp_ne (tgt := 318) dX12_passes_308 rfl b95 (?_ : Ex _ _ 318 _ _ _ _ _)
      refine x_aload_n dX12_passes_318 rfl rfl (Or.inr (by decide)) (?_ : Ex _ _ 319 _ _ _ _ _)
      refine gt_12_4 c1 fl_RX12_16 dX12_passes_319 (?_ : Ex _ _ 322 _ _ _ _ _)
      refine x_iload_n dX12_passes_322 rfl rfl (?_ : Ex _ _ 323 _ _ _ _ _)
      obtain ⟨⟨c96, c97⟩, h⟩ := chk_some h
      refine ld_i_180 c92 c96 c97 dX12_passes_323 (?_ : Ex _ _ 324 _ _ _ _ _)
      refine Ex.wk (ls2 := [(3, 0), (3, 0), (3, 0)]) ⟨Or.inl rfl, Or.inl rfl, Or.inl rfl, trivial⟩ ?_
      exact e_X12_passes_324 d h
  rcases ite_some h with ⟨b98, h⟩ | ⟨b98, h⟩
  · refine y_tableAt (j := 13) (off := 311) (tgt := 330) b98 dX12_passes_19 (by decide) (by decide) rfl rfl (?_ : Ex _ _ 330 _ _ _ _ _)
    refine x_aload_n dX12_passes_330 rfl rfl (Or.inr (by decide)) (?_ : Ex _ _ 331 _ _ _ _ _)
    refine x_aload_n dX12_passes_331 rfl rfl (Or.inr (by decide)) (?_ : Ex _ _ 332 _ _ _ _ _)
    refine gt_12_3 c1 fl_RX12_13 dX12_passes_332 (?_ : Ex _ _ 335 _ _ _ _ _)
    refine x_iload_n dX12_passes_335 rfl rfl (?_ : Ex _ _ 336 _ _ _ _ _)
    obtain ⟨⟨c99, c100, c101⟩, h⟩ := chk_some h
    refine ld_i_180 c99 c100 c101 dX12_passes_336 (?_ : Ex _ _ 337 _ _ _ _ _)
    obtain ⟨v102, m103, g104, h⟩ := cal_some h
    refine cV1 (e_X12_fails (d + 2) g104) (contV (?_ : Ex _ _ 340 _ _ _ _ _)) og_X12_fails rfl ml_RX12_304 12 rfl rfl c1 im_X12_fails se_X12_fails (Nat.le_of_ble_eq_true rfl) dX12_passes_337
    refine x_goto (tgt := 373) dX12_passes_340 rfl (?_ : Ex _ _ 373 _ _ _ _ _)
    cases h
    exact x_retv dX12_passes_373
  rcases ite_some h with ⟨b105, h⟩ | ⟨b105, h⟩
  · refine y_tableAt (j := 14) (off := 324) (tgt := 343) b105 dX12_passes_19 (by decide) (by decide) rfl rfl (?_ : Ex _ _ 343 _ _ _ _ _)
    refine x_aload_n dX12_passes_343 rfl rfl (Or.inr (by decide)) (?_ : Ex _ _ 344 _ _ _ _ _)
    obtain ⟨v106, m107, g108, h⟩ := cal_some h
    refine cV0 (e_X12_againOrFails (d + 1) g108) (contV (?_ : Ex _ _ 347 _ _ _ _ _)) og_X12_againOrFails rfl ml_RX12_348 12 rfl rfl c1 im_X12_againOrFails se_X12_againOrFails (Nat.le_of_ble_eq_true rfl) dX12_passes_344
    refine x_goto (tgt := 373) dX12_passes_347 rfl (?_ : Ex _ _ 373 _ _ _ _ _)
    cases h
    exact x_retv dX12_passes_373
  rcases ite_some h with ⟨b109, h⟩ | ⟨b109, h⟩
  · refine y_tableAt (j := 15) (off := 331) (tgt := 350) b109 dX12_passes_19 (by decide) (by decide) rfl rfl (?_ : Ex _ _ 350 _ _ _ _ _)
    refine x_aload_n dX12_passes_350 rfl rfl (Or.inr (by decide)) (?_ : Ex _ _ 351 _ _ _ _ _)
    refine x_bipush dX12_passes_351 kb_21 (by decide) (?_ : Ex _ _ 353 _ _ _ _ _)
    refine x_aload_n dX12_passes_353 rfl rfl (Or.inr (by decide)) (?_ : Ex _ _ 354 _ _ _ _ _)
    refine gt_12_41 c1 fl_RX12_240 dX12_passes_354 (?_ : Ex _ _ 357 _ _ _ _ _)
    obtain ⟨v110, m111, g112, h⟩ := cal_some h
    refine cV2 (e_X12_ends (d + 4) g112) (contV (?_ : Ex _ _ 360 _ _ _ _ _)) og_X12_ends rfl ml_RX12_299 12 rfl rfl c1 im_X12_ends se_X12_ends (Nat.le_of_ble_eq_true rfl) dX12_passes_357
    refine x_goto (tgt := 373) dX12_passes_360 rfl (?_ : Ex _ _ 373 _ _ _ _ _)
    cases h
    exact x_retv dX12_passes_373
  refine x_tableOut (tgt := 363) dX12_passes_19 (by omega) rfl (?_ : Ex _ _ 363 _ _ _ _ _)
  refine x_aload_n dX12_passes_363 rfl rfl (Or.inr (by decide)) (?_ : Ex _ _ 364 _ _ _ _ _)
  refine x_iload_n dX12_passes_364 rfl rfl (?_ : Ex _ _ 365 _ _ _ _ _)
  obtain ⟨m113, hm113, h⟩ := st_some h
  refine pt_12_40  c1 fl_RX12_237 dX12_passes_365 (?_ : Ex _ _ 368 _ _ _ _ _)
  rw [← hm113]
  refine x_aload_n dX12_passes_368 rfl rfl (Or.inr (by decide)) (?_ : Ex _ _ 369 _ _ _ _ _)
  refine x_iload_n dX12_passes_369 rfl rfl (?_ : Ex _ _ 370 _ _ _ _ _)
  obtain ⟨v114, m115, g116, h⟩ := cal_some h
  refine cV1 (e_X12_waitsAt d g116) (contV (?_ : Ex _ _ 373 _ _ _ _ _)) og_X12_waitsAt rfl ml_RX12_351 12 rfl rfl c1 im_X12_waitsAt se_X12_waitsAt (Nat.le_of_ble_eq_true rfl) dX12_passes_370
  cases h
  exact x_retv dX12_passes_373
theorem e_X12_passes (d : Nat) {a0 a1 : Int} {m : Mem} {v : Int} {m' : Mem} (h : X12_passes a0 a1 m = some (v, m')) : ExM (d + 6) fm_X12_passes [(22, a0), (0, a1)] m (.inl (3, 0)) m' := by
  exact ExM.of (by decide +kernel) (Nat.le_of_ble_eq_true rfl) (cat9 rfl) retV (e_X12_passes_0 d h)
theorem dX12_goesOn_0 : decode cX12_goesOn 0 = .ok (.aload_n 0, 1) := by decide +kernel
theorem dX12_goesOn_1 : decode cX12_goesOn 1 = .ok (.getfield 243, 3) := by decide +kernel
theorem dX12_goesOn_4 : decode cX12_goesOn 4 = .ok (.ifCond .ne 137, 3) := by decide +kernel
theorem dX12_goesOn_7 : decode cX12_goesOn 7 = .ok (.aload_n 0, 1) := by decide +kernel
theorem dX12_goesOn_8 : decode cX12_goesOn 8 = .ok (.getfield 274, 3) := by decide +kernel
theorem dX12_goesOn_11 : decode cX12_goesOn 11 = .ok (.ifCond .ne 130, 3) := by decide +kernel
theorem dX12_goesOn_14 : decode cX12_goesOn 14 = .ok (.aload_n 0, 1) := by decide +kernel
theorem dX12_goesOn_15 : decode cX12_goesOn 15 = .ok (.getfield 259, 3) := by decide +kernel
theorem dX12_goesOn_18 : decode cX12_goesOn 18 = .ok (.ifCond .eq 18, 3) := by decide +kernel
theorem dX12_goesOn_21 : decode cX12_goesOn 21 = .ok (.aload_n 0, 1) := by decide +kernel
theorem dX12_goesOn_22 : decode cX12_goesOn 22 = .ok (.getfield 252, 3) := by decide +kernel
theorem dX12_goesOn_25 : decode cX12_goesOn 25 = .ok (.ifCond .ne 11, 3) := by decide +kernel
theorem dX12_goesOn_28 : decode cX12_goesOn 28 = .ok (.aload_n 0, 1) := by decide +kernel
theorem dX12_goesOn_29 : decode cX12_goesOn 29 = .ok (.iconst (-1), 1) := by decide +kernel
theorem dX12_goesOn_30 : decode cX12_goesOn 30 = .ok (.invokevirtual 304, 3) := by decide +kernel
theorem dX12_goesOn_33 : decode cX12_goesOn 33 = .ok (.goto (-33), 3) := by decide +kernel
theorem dX12_goesOn_36 : decode cX12_goesOn 36 = .ok (.aload_n 0, 1) := by decide +kernel
theorem dX12_goesOn_37 : decode cX12_goesOn 37 = .ok (.getfield 237, 3) := by decide +kernel
theorem dX12_goesOn_40 : decode cX12_goesOn 40 = .ok (.aload_n 0, 1) := by decide +kernel
theorem dX12_goesOn_41 : decode cX12_goesOn 41 = .ok (.getfield 19, 3) := by decide +kernel
theorem dX12_goesOn_44 : decode cX12_goesOn 44 = .ok (.aload_n 0, 1) := by decide +kernel
theorem dX12_goesOn_45 : decode cX12_goesOn 45 = .ok (.getfield 234, 3) := by decide +kernel
theorem dX12_goesOn_48 : decode cX12_goesOn 48 = .ok (.iaload, 1) := by decide +kernel
theorem dX12_goesOn_49 : decode cX12_goesOn 49 = .ok (.if_icmp .ne 16, 3) := by decide +kernel
theorem dX12_goesOn_52 : decode cX12_goesOn 52 = .ok (.aload_n 0, 1) := by decide +kernel
theorem dX12_goesOn_53 : decode cX12_goesOn 53 = .ok (.bipush 21, 2) := by decide +kernel
theorem dX12_goesOn_55 : decode cX12_goesOn 55 = .ok (.aload_n 0, 1) := by decide +kernel
theorem dX12_goesOn_56 : decode cX12_goesOn 56 = .ok (.getfield 240, 3) := by decide +kernel
theorem dX12_goesOn_59 : decode cX12_goesOn 59 = .ok (.invokevirtual 299, 3) := by decide +kernel
theorem dX12_goesOn_62 : decode cX12_goesOn 62 = .ok (.goto (-62), 3) := by decide +kernel
theorem dX12_goesOn_65 : decode cX12_goesOn 65 = .ok (.aload_n 0, 1) := by decide +kernel
theorem dX12_goesOn_66 : decode cX12_goesOn 66 = .ok (.getfield 249, 3) := by decide +kernel
theorem dX12_goesOn_69 : decode cX12_goesOn 69 = .ok (.bipush 60, 2) := by decide +kernel
theorem dX12_goesOn_71 : decode cX12_goesOn 71 = .ok (.if_icmp .ne 12, 3) := by decide +kernel
theorem dX12_goesOn_74 : decode cX12_goesOn 74 = .ok (.aload_n 0, 1) := by decide +kernel
theorem dX12_goesOn_75 : decode cX12_goesOn 75 = .ok (.bipush 9, 2) := by decide +kernel
theorem dX12_goesOn_77 : decode cX12_goesOn 77 = .ok (.invokevirtual 304, 3) := by decide +kernel
theorem dX12_goesOn_80 : decode cX12_goesOn 80 = .ok (.goto (-80), 3) := by decide +kernel
theorem dX12_goesOn_83 : decode cX12_goesOn 83 = .ok (.aload_n 0, 1) := by decide +kernel
theorem dX12_goesOn_84 : decode cX12_goesOn 84 = .ok (.dup, 1) := by decide +kernel
theorem dX12_goesOn_85 : decode cX12_goesOn 85 = .ok (.getfield 249, 3) := by decide +kernel
theorem dX12_goesOn_88 : decode cX12_goesOn 88 = .ok (.iconst 1, 1) := by decide +kernel
theorem dX12_goesOn_89 : decode cX12_goesOn 89 = .ok (.iadd, 1) := by decide +kernel
theorem dX12_goesOn_90 : decode cX12_goesOn 90 = .ok (.putfield 249, 3) := by decide +kernel
theorem dX12_goesOn_93 : decode cX12_goesOn 93 = .ok (.aload_n 0, 1) := by decide +kernel
theorem dX12_goesOn_94 : decode cX12_goesOn 94 = .ok (.aload_n 0, 1) := by decide +kernel
theorem dX12_goesOn_95 : decode cX12_goesOn 95 = .ok (.getfield 252, 3) := by decide +kernel
theorem dX12_goesOn_98 : decode cX12_goesOn 98 = .ok (.ifCond .le 7, 3) := by decide +kernel
theorem dX12_goesOn_101 : decode cX12_goesOn 101 = .ok (.iconst 1, 1) := by decide +kernel
theorem dX12_goesOn_102 : decode cX12_goesOn 102 = .ok (.goto 4, 3) := by decide +kernel
theorem dX12_goesOn_105 : decode cX12_goesOn 105 = .ok (.iconst 0, 1) := by decide +kernel
theorem dX12_goesOn_106 : decode cX12_goesOn 106 = .ok (.putfield 255, 3) := by decide +kernel
theorem dX12_goesOn_109 : decode cX12_goesOn 109 = .ok (.aload_n 0, 1) := by decide +kernel
theorem dX12_goesOn_110 : decode cX12_goesOn 110 = .ok (.dup, 1) := by decide +kernel
theorem dX12_goesOn_111 : decode cX12_goesOn 111 = .ok (.getfield 252, 3) := by decide +kernel
theorem dX12_goesOn_114 : decode cX12_goesOn 114 = .ok (.aload_n 0, 1) := by decide +kernel
theorem dX12_goesOn_115 : decode cX12_goesOn 115 = .ok (.getfield 255, 3) := by decide +kernel
theorem dX12_goesOn_118 : decode cX12_goesOn 118 = .ok (.ifCond .eq 7, 3) := by decide +kernel
theorem dX12_goesOn_121 : decode cX12_goesOn 121 = .ok (.iconst 1, 1) := by decide +kernel
theorem dX12_goesOn_122 : decode cX12_goesOn 122 = .ok (.goto 4, 3) := by decide +kernel
theorem dX12_goesOn_125 : decode cX12_goesOn 125 = .ok (.iconst 0, 1) := by decide +kernel
theorem dX12_goesOn_126 : decode cX12_goesOn 126 = .ok (.isub, 1) := by decide +kernel
theorem dX12_goesOn_127 : decode cX12_goesOn 127 = .ok (.putfield 252, 3) := by decide +kernel
theorem dX12_goesOn_130 : decode cX12_goesOn 130 = .ok (.aload_n 0, 1) := by decide +kernel
theorem dX12_goesOn_131 : decode cX12_goesOn 131 = .ok (.aload_n 0, 1) := by decide +kernel
theorem dX12_goesOn_132 : decode cX12_goesOn 132 = .ok (.getfield 237, 3) := by decide +kernel
theorem dX12_goesOn_135 : decode cX12_goesOn 135 = .ok (.invokevirtual 357, 3) := by decide +kernel
theorem dX12_goesOn_138 : decode cX12_goesOn 138 = .ok (.goto (-138), 3) := by decide +kernel
theorem dX12_goesOn_141 : decode cX12_goesOn 141 = .ok (.return_, 1) := by decide +kernel
theorem e_X12_goesOn_126 (d : Nat) {k0 : Int → Mem → Option R2} (hk0 : ∀ {l0 : Int} {m : Mem} {v : Int} {m' : Mem}, k0 l0 m = some (v, m') → Ex (d + 7) fm_X12_goesOn 0 [(22, l0)] [] m (.inl (3, 0)) m') {l0 s0 s1 s2 : Int} {m : Mem} {v : Int} {m' : Mem} (h : X12_goesOn_126 k0 l0 s0 s1 s2 m = some (v, m')) : Ex (d + 7) fm_X12_goesOn 126 [(22, l0)] [(0, s0), (0, s1), (22, s2)] m (.inl (3, 0)) m' := by
  unfold X12_goesOn_126 at h
  obtain ⟨c1, h⟩ := chk_some h
  refine x_isub dX12_goesOn_126 c1 (?_ : Ex _ _ 127 _ _ _ _ _)
  obtain ⟨c2, h⟩ := chk_some h
  obtain ⟨m3, hm3, h⟩ := st_some h
  refine pt_12_45  c2 fl_RX12_252 dX12_goesOn_127 (?_ : Ex _ _ 130 _ _ _ _ _)
  rw [← hm3]
  refine x_aload_n dX12_goesOn_130 rfl rfl (Or.inr (by decide)) (?_ : Ex _ _ 131 _ _ _ _ _)
  refine x_aload_n dX12_goesOn_131 rfl rfl (Or.inr (by decide)) (?_ : Ex _ _ 132 _ _ _ _ _)
  obtain ⟨c4, h⟩ := chk_some h
  refine gt_12_40 c4 fl_RX12_237 dX12_goesOn_132 (?_ : Ex _ _ 135 _ _ _ _ _)
  obtain ⟨v5, m6, g7, h⟩ := cal_some h
  refine cV1 (e_X12_passes d g7) (contV (?_ : Ex _ _ 138 _ _ _ _ _)) og_X12_passes rfl ml_RX12_357 12 rfl rfl c4 im_X12_passes se_X12_passes (Nat.le_of_ble_eq_true rfl) dX12_goesOn_135
  refine x_goto (tgt := 0) dX12_goesOn_138 rfl (?_ : Ex _ _ 0 _ _ _ _ _)
  exact hk0 h
theorem e_X12_goesOn_106 (d : Nat) {k0 : Int → Mem → Option R2} (hk0 : ∀ {l0 : Int} {m : Mem} {v : Int} {m' : Mem}, k0 l0 m = some (v, m') → Ex (d + 7) fm_X12_goesOn 0 [(22, l0)] [] m (.inl (3, 0)) m') {l0 s0 s1 : Int} {m : Mem} {v : Int} {m' : Mem} (h : X12_goesOn_106 k0 l0 s0 s1 m = some (v, m')) : Ex (d + 7) fm_X12_goesOn 106 [(22, l0)] [(0, s0), (22, s1)] m (.inl (3, 0)) m' := by
  unfold X12_goesOn_106 at h
  obtain ⟨⟨c1, c2⟩, h⟩ := chk_some h
  obtain ⟨m3, hm3, h⟩ := st_some h
  refine pt_12_46  c1 c2 fl_RX12_255 dX12_goesOn_106 (?_ : Ex _ _ 109 _ _ _ _ _)
  rw [← hm3]
  refine x_aload_n dX12_goesOn_109 rfl rfl (Or.inr (by decide)) (?_ : Ex _ _ 110 _ _ _ _ _)
  refine x_dup (by decide : (22 : Int) ≠ 2) dX12_goesOn_110 (?_ : Ex _ _ 111 _ _ _ _ _)
  obtain ⟨c4, h⟩ := chk_some h
  refine gt_12_45 c4 fl_RX12_252 dX12_goesOn_111 (?_ : Ex _ _ 114 _ _ _ _ _)
  refine x_aload_n dX12_goesOn_114 rfl rfl (Or.inr (by decide)) (?_ : Ex _ _ 115 _ _ _ _ _)
  refine gt_12_46 c4 fl_RX12_255 dX12_goesOn_115 (?_ : Ex _ _ 118 _ _ _ _ _)
  rcases ite_some h with ⟨b5, h⟩ | ⟨b5, h⟩
  · refine x_if_eq (tgt := 125) dX12_goesOn_118 rfl b5 (?_ : Ex _ _ 125 _ _ _ _ _)
    refine x_iconst dX12_goesOn_125 rfl (by decide) (?_ : Ex _ _ 126 _ _ _ _ _)
    exact e_X12_goesOn_126 d hk0 h
  · refine x_if_eqN dX12_goesOn_118 (by decide) b5 (?_ : Ex _ _ 121 _ _ _ _ _)
    refine x_iconst dX12_goesOn_121 rfl (by decide) (?_ : Ex _ _ 122 _ _ _ _ _)
    refine x_goto (tgt := 126) dX12_goesOn_122 rfl (?_ : Ex _ _ 126 _ _ _ _ _)
    exact e_X12_goesOn_126 d hk0 h
theorem e_X12_goesOn_36 (d : Nat) {k0 : Int → Mem → Option R2} (hk0 : ∀ {l0 : Int} {m : Mem} {v : Int} {m' : Mem}, k0 l0 m = some (v, m') → Ex (d + 7) fm_X12_goesOn 0 [(22, l0)] [] m (.inl (3, 0)) m') {l0 : Int} {m : Mem} {v : Int} {m' : Mem} (h : X12_goesOn_36 k0 l0 m = some (v, m')) : Ex (d + 7) fm_X12_goesOn 36 [(22, l0)] [] m (.inl (3, 0)) m' := by
  unfold X12_goesOn_36 at h
  refine x_aload_n dX12_goesOn_36 rfl rfl (Or.inr (by decide)) (?_ : Ex _ _ 37 _ _ _ _ _)
  obtain ⟨c1, h⟩ := chk_some h
  refine gt_12_40 c1 fl_RX12_237 dX12_goesOn_37 (?_ : Ex _ _ 40 _ _ _ _ _)
  refine x_aload_n dX12_goesOn_40 rfl rfl (Or.inr (by decide)) (?_ : Ex _ _ 41 _ _ _ _ _)
  refine gt_12_5 c1 fl_RX12_19 dX12_goesOn_41 (?_ : Ex _ _ 44 _ _ _ _ _)
  refine x_aload_n dX12_goesOn_44 rfl rfl (Or.inr (by decide)) (?_ : Ex _ _ 45 _ _ _ _ _)
  refine gt_12_77 c1 fl_RX12_234 dX12_goesOn_45 (?_ : Ex _ _ 48 _ _ _ _ _)
  obtain ⟨⟨c2, c3, c4⟩, h⟩ := chk_some h
  refine ld_i_15 c2 c3 c4 dX12_goesOn_48 (?_ : Ex _ _ 49 _ _ _ _ _)
  rcases ite_some h with ⟨b5, h⟩ | ⟨b5, h⟩
  · refine x_icmp_neN dX12_goesOn_49 (by decide) (fun hh => hh b5) (?_ : Ex _ _ 52 _ _ _ _ _)
    refine x_aload_n dX12_goesOn_52 rfl rfl (Or.inr (by decide)) (?_ : Ex _ _ 53 _ _ _ _ _)
    refine x_bipush dX12_goesOn_53 kb_21 (by decide) (?_ : Ex _ _ 55 _ _ _ _ _)
    refine x_aload_n dX12_goesOn_55 rfl rfl (Or.inr (by decide)) (?_ : Ex _ _ 56 _ _ _ _ _)
    refine gt_12_41 c1 fl_RX12_240 dX12_goesOn_56 (?_ : Ex _ _ 59 _ _ _ _ _)
    obtain ⟨v13, m14, g15, h⟩ := cal_some h
    refine cV2 (e_X12_ends (d + 5) g15) (contV (?_ : Ex _ _ 62 _ _ _ _ _)) og_X12_ends rfl ml_RX12_299 12 rfl rfl c1 im_X12_ends se_X12_ends (Nat.le_of_ble_eq_true rfl) dX12_goesOn_59
    refine x_goto (tgt := 0) dX12_goesOn_62 rfl (?_ : Ex _ _ 0 _ _ _ _ _)
    exact hk0 h
  · refine x_icmp_ne (tgt := 65) dX12_goesOn_49 rfl b5 (?_ : Ex _ _ 65 _ _ _ _ _)
    refine x_aload_n dX12_goesOn_65 rfl rfl (Or.inr (by decide)) (?_ : Ex _ _ 66 _ _ _ _ _)
    refine gt_12_44 c1 fl_RX12_249 dX12_goesOn_66 (?_ : Ex _ _ 69 _ _ _ _ _)
    refine x_bipush dX12_goesOn_69 kb_60 (by decide) (?_ : Ex _ _ 71 _ _ _ _ _)
    rcases ite_some h with ⟨b6, h⟩ | ⟨b6, h⟩
    · refine x_icmp_neN dX12_goesOn_71 (by decide) (fun hh => hh b6) (?_ : Ex _ _ 74 _ _ _ _ _)
      refine x_aload_n dX12_goesOn_74 rfl rfl (Or.inr (by decide)) (?_ : Ex _ _ 75 _ _ _ _ _)
      refine x_bipush dX12_goesOn_75 kb_9 (by decide) (?_ : Ex _ _ 77 _ _ _ _ _)
      obtain ⟨v10, m11, g12, h⟩ := cal_some h
      refine cV1 (e_X12_fails (d + 3) g12) (contV (?_ : Ex _ _ 80 _ _ _ _ _)) og_X12_fails rfl ml_RX12_304 12 rfl rfl c1 im_X12_fails se_X12_fails (Nat.le_of_ble_eq_true rfl) dX12_goesOn_77
      refine x_goto (tgt := 0) dX12_goesOn_80 rfl (?_ : Ex _ _ 0 _ _ _ _ _)
      exact hk0 h
    · refine x_icmp_ne (tgt := 83) dX12_goesOn_71 rfl b6 (?_ : Ex _ _ 83 _ _ _ _ _)
      refine x_aload_n dX12_goesOn_83 rfl rfl (Or.inr (by decide)) (?_ : Ex _ _ 84 _ _ _ _ _)
      refine x_dup (by decide : (22 : Int) ≠ 2) dX12_goesOn_84 (?_ : Ex _ _ 85 _ _ _ _ _)
      refine gt_12_44 c1 fl_RX12_249 dX12_goesOn_85 (?_ : Ex _ _ 88 _ _ _ _ _)
      refine x_iconst dX12_goesOn_88 rfl (by decide) (?_ : Ex _ _ 89 _ _ _ _ _)
      obtain ⟨c7, h⟩ := chk_some h
      refine x_iadd dX12_goesOn_89 c7 (?_ : Ex _ _ 90 _ _ _ _ _)
      obtain ⟨m8, hm8, h⟩ := st_some h
      refine pt_12_44  c1 fl_RX12_249 dX12_goesOn_90 (?_ : Ex _ _ 93 _ _ _ _ _)
      rw [← hm8]
      refine x_aload_n dX12_goesOn_93 rfl rfl (Or.inr (by decide)) (?_ : Ex _ _ 94 _ _ _ _ _)
      refine x_aload_n dX12_goesOn_94 rfl rfl (Or.inr (by decide)) (?_ : Ex _ _ 95 _ _ _ _ _)
      refine gt_12_45 c1 fl_RX12_252 dX12_goesOn_95 (?_ : Ex _ _ 98 _ _ _ _ _)
      rcases ite_some h with ⟨b9, h⟩ | ⟨b9, h⟩
      · refine x_if_le (tgt := 105) dX12_goesOn_98 rfl b9 (?_ : Ex _ _ 105 _ _ _ _ _)
        refine x_iconst dX12_goesOn_105 rfl (by decide) (?_ : Ex _ _ 106 _ _ _ _ _)
        exact e_X12_goesOn_106 d hk0 h
      · refine x_if_leN dX12_goesOn_98 (by decide) b9 (?_ : Ex _ _ 101 _ _ _ _ _)
        refine x_iconst dX12_goesOn_101 rfl (by decide) (?_ : Ex _ _ 102 _ _ _ _ _)
        refine x_goto (tgt := 106) dX12_goesOn_102 rfl (?_ : Ex _ _ 106 _ _ _ _ _)
        exact e_X12_goesOn_106 d hk0 h
theorem e_X12_goesOn_0 (d : Nat) : ∀ (n : Nat) {l0 : Int} {m : Mem} {v : Int} {m' : Mem}, X12_goesOn_0 n l0 m = some (v, m') → Ex (d + 7) fm_X12_goesOn 0 [(22, l0)] [] m (.inl (3, 0)) m' := by
  intro n
  induction n with
  | zero =>
    intro l0 m v m' h
    have h : (none : Option R2) = some _ := h
    cases h
  | succ n ih =>
    intro l0 m v m' h
    rw [X12_goesOn_0] at h
    refine x_aload_n dX12_goesOn_0 rfl rfl (Or.inr (by decide)) (?_ : Ex _ _ 1 _ _ _ _ _)
    obtain ⟨c1, h⟩ := chk_some h
    refine gt_12_42 c1 fl_RX12_243 dX12_goesOn_1 (?_ : Ex _ _ 4 _ _ _ _ _)
    rcases ite_some h with ⟨b2, h⟩ | ⟨b2, h⟩
    · refine x_if_neN dX12_goesOn_4 (by decide) (fun hh => hh b2) (?_ : Ex _ _ 7 _ _ _ _ _)
      refine x_aload_n dX12_goesOn_7 rfl rfl (Or.inr (by decide)) (?_ : Ex _ _ 8 _ _ _ _ _)
      refine gt_12_55 c1 fl_RX12_274 dX12_goesOn_8 (?_ : Ex _ _ 11 _ _ _ _ _)
      rcases ite_some h with ⟨b3, h⟩ | ⟨b3, h⟩
      · refine x_if_neN dX12_goesOn_11 (by decide) (fun hh => hh b3) (?_ : Ex _ _ 14 _ _ _ _ _)
        refine x_aload_n dX12_goesOn_14 rfl rfl (Or.inr (by decide)) (?_ : Ex _ _ 15 _ _ _ _ _)
        refine gt_12_47 c1 fl_RX12_259 dX12_goesOn_15 (?_ : Ex _ _ 18 _ _ _ _ _)
        rcases ite_some h with ⟨b4, h⟩ | ⟨b4, h⟩
        · refine x_if_eq (tgt := 36) dX12_goesOn_18 rfl b4 (?_ : Ex _ _ 36 _ _ _ _ _)
          exact e_X12_goesOn_36 d ih h
        · refine x_if_eqN dX12_goesOn_18 (by decide) b4 (?_ : Ex _ _ 21 _ _ _ _ _)
          refine x_aload_n dX12_goesOn_21 rfl rfl (Or.inr (by decide)) (?_ : Ex _ _ 22 _ _ _ _ _)
          refine gt_12_45 c1 fl_RX12_252 dX12_goesOn_22 (?_ : Ex _ _ 25 _ _ _ _ _)
          rcases ite_some h with ⟨b5, h⟩ | ⟨b5, h⟩
          · refine x_if_neN dX12_goesOn_25 (by decide) (fun hh => hh b5) (?_ : Ex _ _ 28 _ _ _ _ _)
            refine x_aload_n dX12_goesOn_28 rfl rfl (Or.inr (by decide)) (?_ : Ex _ _ 29 _ _ _ _ _)
            refine x_iconst dX12_goesOn_29 rfl (by decide) (?_ : Ex _ _ 30 _ _ _ _ _)
            obtain ⟨v6, m7, g8, h⟩ := cal_some h
            refine cV1 (e_X12_fails (d + 3) g8) (contV (?_ : Ex _ _ 33 _ _ _ _ _)) og_X12_fails rfl ml_RX12_304 12 rfl rfl c1 im_X12_fails se_X12_fails (Nat.le_of_ble_eq_true rfl) dX12_goesOn_30
            refine x_goto (tgt := 0) dX12_goesOn_33 rfl (?_ : Ex _ _ 0 _ _ _ _ _)
            exact ih h
          · refine x_if_ne (tgt := 36) dX12_goesOn_25 rfl b5 (?_ : Ex _ _ 36 _ _ _ _ _)
            exact e_X12_goesOn_36 d ih h
      · refine x_if_ne (tgt := 141) dX12_goesOn_11 rfl b3 (?_ : Ex _ _ 141 _ _ _ _ _)
        cases h
        exact x_retv dX12_goesOn_141
    · refine x_if_ne (tgt := 141) dX12_goesOn_4 rfl b2 (?_ : Ex _ _ 141 _ _ _ _ _)
      cases h
      exact x_retv dX12_goesOn_141
theorem e_X12_goesOn (d : Nat) {a0 : Int} {m : Mem} {v : Int} {m' : Mem} (h : X12_goesOn a0 m = some (v, m')) : ExM (d + 7) fm_X12_goesOn [(22, a0)] m (.inl (3, 0)) m' := by
  exact ExM.of (by decide +kernel) (Nat.le_of_ble_eq_true rfl) (cat9 rfl) retV (e_X12_goesOn_0 d fuel9 h)
theorem dX12_waiting_0 : decode cX12_waiting 0 = .ok (.iconst (-1), 1) := by decide +kernel
theorem dX12_waiting_1 : decode cX12_waiting 1 = .ok (.istore_n 3, 1) := by decide +kernel
theorem dX12_waiting_2 : decode cX12_waiting 2 = .ok (.iconst 0, 1) := by decide +kernel
theorem dX12_waiting_3 : decode cX12_waiting 3 = .ok (.istore 4, 2) := by decide +kernel
theorem dX12_waiting_5 : decode cX12_waiting 5 = .ok (.iload 4, 2) := by decide +kernel
theorem dX12_waiting_7 : decode cX12_waiting 7 = .ok (.aload_n 0, 1) := by decide +kernel
theorem dX12_waiting_8 : decode cX12_waiting 8 = .ok (.getfield 274, 3) := by decide +kernel
theorem dX12_waiting_11 : decode cX12_waiting 11 = .ok (.if_icmp .ge 48, 3) := by decide +kernel
theorem dX12_waiting_14 : decode cX12_waiting 14 = .ok (.aload_n 0, 1) := by decide +kernel
theorem dX12_waiting_15 : decode cX12_waiting 15 = .ok (.getfield 119, 3) := by decide +kernel
theorem dX12_waiting_18 : decode cX12_waiting 18 = .ok (.iload 4, 2) := by decide +kernel
theorem dX12_waiting_20 : decode cX12_waiting 20 = .ok (.iaload, 1) := by decide +kernel
theorem dX12_waiting_21 : decode cX12_waiting 21 = .ok (.iload_n 1, 1) := by decide +kernel
theorem dX12_waiting_22 : decode cX12_waiting 22 = .ok (.if_icmp .ne 29, 3) := by decide +kernel
theorem dX12_waiting_25 : decode cX12_waiting 25 = .ok (.aload_n 0, 1) := by decide +kernel
theorem dX12_waiting_26 : decode cX12_waiting 26 = .ok (.getfield 125, 3) := by decide +kernel
theorem dX12_waiting_29 : decode cX12_waiting 29 = .ok (.iload 4, 2) := by decide +kernel
theorem dX12_waiting_31 : decode cX12_waiting 31 = .ok (.iaload, 1) := by decide +kernel
theorem dX12_waiting_32 : decode cX12_waiting 32 = .ok (.iload_n 2, 1) := by decide +kernel
theorem dX12_waiting_33 : decode cX12_waiting 33 = .ok (.if_icmp .ne 18, 3) := by decide +kernel
theorem dX12_waiting_36 : decode cX12_waiting 36 = .ok (.aload_n 0, 1) := by decide +kernel
theorem dX12_waiting_37 : decode cX12_waiting 37 = .ok (.getfield 131, 3) := by decide +kernel
theorem dX12_waiting_40 : decode cX12_waiting 40 = .ok (.iload 4, 2) := by decide +kernel
theorem dX12_waiting_42 : decode cX12_waiting 42 = .ok (.baload, 1) := by decide +kernel
theorem dX12_waiting_43 : decode cX12_waiting 43 = .ok (.ifCond .ne 8, 3) := by decide +kernel
theorem dX12_waiting_46 : decode cX12_waiting 46 = .ok (.iload 4, 2) := by decide +kernel
theorem dX12_waiting_48 : decode cX12_waiting 48 = .ok (.goto 4, 3) := by decide +kernel
theorem dX12_waiting_51 : decode cX12_waiting 51 = .ok (.iload_n 3, 1) := by decide +kernel
theorem dX12_waiting_52 : decode cX12_waiting 52 = .ok (.istore_n 3, 1) := by decide +kernel
theorem dX12_waiting_53 : decode cX12_waiting 53 = .ok (.iinc 4 1, 3) := by decide +kernel
theorem dX12_waiting_56 : decode cX12_waiting 56 = .ok (.goto (-51), 3) := by decide +kernel
theorem dX12_waiting_59 : decode cX12_waiting 59 = .ok (.iload_n 3, 1) := by decide +kernel
theorem dX12_waiting_60 : decode cX12_waiting 60 = .ok (.ireturn, 1) := by decide +kernel
theorem e_X12_waiting_5 (d : Nat) : ∀ (n : Nat) {l0 l1 l2 l3 l4 : Int} {m : Mem} {v : Int} {m' : Mem}, X12_waiting_5 n l0 l1 l2 l3 l4 m = some (v, m') → Ex d fm_X12_waiting 5 [(22, l0), (0, l1), (0, l2), (0, l3), (0, l4)] [] m (.inl (0, v)) m' := by
  intro n
  induction n with
  | zero =>
    intro l0 l1 l2 l3 l4 m v m' h
    have h : (none : Option R2) = some _ := h
    cases h
  | succ n ih =>
    intro l0 l1 l2 l3 l4 m v m' h
    rw [X12_waiting_5] at h
    refine x_iload dX12_waiting_5 rfl (?_ : Ex _ _ 7 _ _ _ _ _)
    refine x_aload_n dX12_waiting_7 rfl rfl (Or.inr (by decide)) (?_ : Ex _ _ 8 _ _ _ _ _)
    obtain ⟨c1, h⟩ := chk_some h
    refine gt_12_55 c1 fl_RX12_274 dX12_waiting_8 (?_ : Ex _ _ 11 _ _ _ _ _)
    rcases ite_some h with ⟨b2, h⟩ | ⟨b2, h⟩
    · refine x_icmp_ge (tgt := 59) dX12_waiting_11 rfl b2 (?_ : Ex _ _ 59 _ _ _ _ _)
      refine x_iload_n dX12_waiting_59 rfl rfl (?_ : Ex _ _ 60 _ _ _ _ _)
      cases h
      exact x_ret dX12_waiting_60 (by decide : (0 : Int) ≠ 3)
    · refine x_icmp_geN dX12_waiting_11 (by decide) b2 (?_ : Ex _ _ 14 _ _ _ _ _)
      refine x_aload_n dX12_waiting_14 rfl rfl (Or.inr (by decide)) (?_ : Ex _ _ 15 _ _ _ _ _)
      refine gt_12_56 c1 fl_RX12_119 dX12_waiting_15 (?_ : Ex _ _ 18 _ _ _ _ _)
      refine x_iload dX12_waiting_18 rfl (?_ : Ex _ _ 20 _ _ _ _ _)
      obtain ⟨⟨c3, c4, c5⟩, h⟩ := chk_some h
      refine ld_i_3 c3 c4 c5 dX12_waiting_20 (?_ : Ex _ _ 21 _ _ _ _ _)
      refine x_iload_n dX12_waiting_21 rfl rfl (?_ : Ex _ _ 22 _ _ _ _ _)
      rcases ite_some h with ⟨b6, h⟩ | ⟨b6, h⟩
      · refine x_icmp_neN dX12_waiting_22 (by decide) (fun hh => hh b6) (?_ : Ex _ _ 25 _ _ _ _ _)
        refine x_aload_n dX12_waiting_25 rfl rfl (Or.inr (by decide)) (?_ : Ex _ _ 26 _ _ _ _ _)
        refine gt_12_58 c1 fl_RX12_125 dX12_waiting_26 (?_ : Ex _ _ 29 _ _ _ _ _)
        refine x_iload dX12_waiting_29 rfl (?_ : Ex _ _ 31 _ _ _ _ _)
        obtain ⟨⟨c8, c9, c10⟩, h⟩ := chk_some h
        refine ld_i_3 c8 c9 c10 dX12_waiting_31 (?_ : Ex _ _ 32 _ _ _ _ _)
        refine x_iload_n dX12_waiting_32 rfl rfl (?_ : Ex _ _ 33 _ _ _ _ _)
        rcases ite_some h with ⟨b11, h⟩ | ⟨b11, h⟩
        · refine x_icmp_neN dX12_waiting_33 (by decide) (fun hh => hh b11) (?_ : Ex _ _ 36 _ _ _ _ _)
          refine x_aload_n dX12_waiting_36 rfl rfl (Or.inr (by decide)) (?_ : Ex _ _ 37 _ _ _ _ _)
          refine gt_12_60 c1 fl_RX12_131 dX12_waiting_37 (?_ : Ex _ _ 40 _ _ _ _ _)
          refine x_iload dX12_waiting_40 rfl (?_ : Ex _ _ 42 _ _ _ _ _)
          obtain ⟨⟨c13, c14, c15⟩, h⟩ := chk_some h
          refine ld_b_3 c13 c14 c15 dX12_waiting_42 (?_ : Ex _ _ 43 _ _ _ _ _)
          rcases ite_some h with ⟨b16, h⟩ | ⟨b16, h⟩
          · refine x_if_neN dX12_waiting_43 (by decide) (fun hh => hh b16) (?_ : Ex _ _ 46 _ _ _ _ _)
            refine x_iload dX12_waiting_46 rfl (?_ : Ex _ _ 48 _ _ _ _ _)
            refine x_goto (tgt := 52) dX12_waiting_48 rfl (?_ : Ex _ _ 52 _ _ _ _ _)
            refine x_istore_n (ls2 := [(22, l0), (0, l1), (0, l2), (0, l4), (0, l4)]) dX12_waiting_52 rfl (Nat.le_of_ble_eq_true rfl) rfl (?_ : Ex _ _ 53 _ _ _ _ _)
            obtain ⟨c18, h⟩ := chk_some h
            refine x_iinc (ls2 := [(22, l0), (0, l1), (0, l2), (0, l4), (0, (l4 + 1))]) dX12_waiting_53 rfl c18 rfl (?_ : Ex _ _ 56 _ _ _ _ _)
            refine x_goto (tgt := 5) dX12_waiting_56 rfl (?_ : Ex _ _ 5 _ _ _ _ _)
            exact ih h
          · refine x_if_ne (tgt := 51) dX12_waiting_43 rfl b16 (?_ : Ex _ _ 51 _ _ _ _ _)
            refine x_iload_n dX12_waiting_51 rfl rfl (?_ : Ex _ _ 52 _ _ _ _ _)
            refine x_istore_n (ls2 := [(22, l0), (0, l1), (0, l2), (0, l3), (0, l4)]) dX12_waiting_52 rfl (Nat.le_of_ble_eq_true rfl) rfl (?_ : Ex _ _ 53 _ _ _ _ _)
            obtain ⟨c17, h⟩ := chk_some h
            refine x_iinc (ls2 := [(22, l0), (0, l1), (0, l2), (0, l3), (0, (l4 + 1))]) dX12_waiting_53 rfl c17 rfl (?_ : Ex _ _ 56 _ _ _ _ _)
            refine x_goto (tgt := 5) dX12_waiting_56 rfl (?_ : Ex _ _ 5 _ _ _ _ _)
            exact ih h
        · refine x_icmp_ne (tgt := 51) dX12_waiting_33 rfl b11 (?_ : Ex _ _ 51 _ _ _ _ _)
          refine x_iload_n dX12_waiting_51 rfl rfl (?_ : Ex _ _ 52 _ _ _ _ _)
          refine x_istore_n (ls2 := [(22, l0), (0, l1), (0, l2), (0, l3), (0, l4)]) dX12_waiting_52 rfl (Nat.le_of_ble_eq_true rfl) rfl (?_ : Ex _ _ 53 _ _ _ _ _)
          obtain ⟨c12, h⟩ := chk_some h
          refine x_iinc (ls2 := [(22, l0), (0, l1), (0, l2), (0, l3), (0, (l4 + 1))]) dX12_waiting_53 rfl c12 rfl (?_ : Ex _ _ 56 _ _ _ _ _)
          refine x_goto (tgt := 5) dX12_waiting_56 rfl (?_ : Ex _ _ 5 _ _ _ _ _)
          exact ih h
      · refine x_icmp_ne (tgt := 51) dX12_waiting_22 rfl b6 (?_ : Ex _ _ 51 _ _ _ _ _)
        refine x_iload_n dX12_waiting_51 rfl rfl (?_ : Ex _ _ 52 _ _ _ _ _)
        refine x_istore_n (ls2 := [(22, l0), (0, l1), (0, l2), (0, l3), (0, l4)]) dX12_waiting_52 rfl (Nat.le_of_ble_eq_true rfl) rfl (?_ : Ex _ _ 53 _ _ _ _ _)
        obtain ⟨c7, h⟩ := chk_some h
        refine x_iinc (ls2 := [(22, l0), (0, l1), (0, l2), (0, l3), (0, (l4 + 1))]) dX12_waiting_53 rfl c7 rfl (?_ : Ex _ _ 56 _ _ _ _ _)
        refine x_goto (tgt := 5) dX12_waiting_56 rfl (?_ : Ex _ _ 5 _ _ _ _ _)
        exact ih h
theorem e_X12_waiting_0 (d : Nat) {l0 l1 l2 : Int} {m : Mem} {v : Int} {m' : Mem} (h : X12_waiting_0 l0 l1 l2 m = some (v, m')) : Ex d fm_X12_waiting 0 [(22, l0), (0, l1), (0, l2), (3, 0), (3, 0)] [] m (.inl (0, v)) m' := by
  unfold X12_waiting_0 at h
  refine x_iconst dX12_waiting_0 rfl (by decide) (?_ : Ex _ _ 1 _ _ _ _ _)
  refine x_istore_n (ls2 := [(22, l0), (0, l1), (0, l2), (0, (-1)), (3, 0)]) dX12_waiting_1 rfl (Nat.le_of_ble_eq_true rfl) rfl (?_ : Ex _ _ 2 _ _ _ _ _)
  refine x_iconst dX12_waiting_2 rfl (by decide) (?_ : Ex _ _ 3 _ _ _ _ _)
  refine x_istore (ls2 := [(22, l0), (0, l1), (0, l2), (0, (-1)), (0, 0)]) dX12_waiting_3 (Nat.le_of_ble_eq_true rfl) rfl (?_ : Ex _ _ 5 _ _ _ _ _)
  exact e_X12_waiting_5 d fuel9 h
theorem e_X12_waiting (d : Nat) {a0 a1 a2 : Int} {m : Mem} {v : Int} {m' : Mem} (h : X12_waiting a0 a1 a2 m = some (v, m')) : ExM d fm_X12_waiting [(22, a0), (0, a1), (0, a2)] m (.inl (0, v)) m' := by
  exact ExM.of (by decide +kernel) (Nat.le_of_ble_eq_true rfl) (cat9 rfl) retI (e_X12_waiting_0 d h)
theorem dX12_waitingTimer_0 : decode cX12_waitingTimer 0 = .ok (.iconst (-1), 1) := by decide +kernel
theorem dX12_waitingTimer_1 : decode cX12_waitingTimer 1 = .ok (.istore_n 2, 1) := by decide +kernel
theorem dX12_waitingTimer_2 : decode cX12_waitingTimer 2 = .ok (.iconst 0, 1) := by decide +kernel
theorem dX12_waitingTimer_3 : decode cX12_waitingTimer 3 = .ok (.istore_n 3, 1) := by decide +kernel
theorem dX12_waitingTimer_4 : decode cX12_waitingTimer 4 = .ok (.iload_n 3, 1) := by decide +kernel
theorem dX12_waitingTimer_5 : decode cX12_waitingTimer 5 = .ok (.aload_n 0, 1) := by decide +kernel
theorem dX12_waitingTimer_6 : decode cX12_waitingTimer 6 = .ok (.getfield 274, 3) := by decide +kernel
theorem dX12_waitingTimer_9 : decode cX12_waitingTimer 9 = .ok (.if_icmp .ge 34, 3) := by decide +kernel
theorem dX12_waitingTimer_12 : decode cX12_waitingTimer 12 = .ok (.aload_n 0, 1) := by decide +kernel
theorem dX12_waitingTimer_13 : decode cX12_waitingTimer 13 = .ok (.getfield 128, 3) := by decide +kernel
theorem dX12_waitingTimer_16 : decode cX12_waitingTimer 16 = .ok (.iload_n 3, 1) := by decide +kernel
theorem dX12_waitingTimer_17 : decode cX12_waitingTimer 17 = .ok (.iaload, 1) := by decide +kernel
theorem dX12_waitingTimer_18 : decode cX12_waitingTimer 18 = .ok (.iload_n 1, 1) := by decide +kernel
theorem dX12_waitingTimer_19 : decode cX12_waitingTimer 19 = .ok (.if_icmp .ne 16, 3) := by decide +kernel
theorem dX12_waitingTimer_22 : decode cX12_waitingTimer 22 = .ok (.aload_n 0, 1) := by decide +kernel
theorem dX12_waitingTimer_23 : decode cX12_waitingTimer 23 = .ok (.getfield 131, 3) := by decide +kernel
theorem dX12_waitingTimer_26 : decode cX12_waitingTimer 26 = .ok (.iload_n 3, 1) := by decide +kernel
theorem dX12_waitingTimer_27 : decode cX12_waitingTimer 27 = .ok (.baload, 1) := by decide +kernel
theorem dX12_waitingTimer_28 : decode cX12_waitingTimer 28 = .ok (.ifCond .ne 7, 3) := by decide +kernel
theorem dX12_waitingTimer_31 : decode cX12_waitingTimer 31 = .ok (.iload_n 3, 1) := by decide +kernel
theorem dX12_waitingTimer_32 : decode cX12_waitingTimer 32 = .ok (.goto 4, 3) := by decide +kernel
theorem dX12_waitingTimer_35 : decode cX12_waitingTimer 35 = .ok (.iload_n 2, 1) := by decide +kernel
theorem dX12_waitingTimer_36 : decode cX12_waitingTimer 36 = .ok (.istore_n 2, 1) := by decide +kernel
theorem dX12_waitingTimer_37 : decode cX12_waitingTimer 37 = .ok (.iinc 3 1, 3) := by decide +kernel
theorem dX12_waitingTimer_40 : decode cX12_waitingTimer 40 = .ok (.goto (-36), 3) := by decide +kernel
theorem dX12_waitingTimer_43 : decode cX12_waitingTimer 43 = .ok (.iload_n 2, 1) := by decide +kernel
theorem dX12_waitingTimer_44 : decode cX12_waitingTimer 44 = .ok (.ireturn, 1) := by decide +kernel
theorem e_X12_waitingTimer_4 (d : Nat) : ∀ (n : Nat) {l0 l1 l2 l3 : Int} {m : Mem} {v : Int} {m' : Mem}, X12_waitingTimer_4 n l0 l1 l2 l3 m = some (v, m') → Ex d fm_X12_waitingTimer 4 [(22, l0), (0, l1), (0, l2), (0, l3)] [] m (.inl (0, v)) m' := by
  intro n
  induction n with
  | zero =>
    intro l0 l1 l2 l3 m v m' h
    have h : (none : Option R2) = some _ := h
    cases h
  | succ n ih =>
    intro l0 l1 l2 l3 m v m' h
    rw [X12_waitingTimer_4] at h
    refine x_iload_n dX12_waitingTimer_4 rfl rfl (?_ : Ex _ _ 5 _ _ _ _ _)
    refine x_aload_n dX12_waitingTimer_5 rfl rfl (Or.inr (by decide)) (?_ : Ex _ _ 6 _ _ _ _ _)
    obtain ⟨c1, h⟩ := chk_some h
    refine gt_12_55 c1 fl_RX12_274 dX12_waitingTimer_6 (?_ : Ex _ _ 9 _ _ _ _ _)
    rcases ite_some h with ⟨b2, h⟩ | ⟨b2, h⟩
    · refine x_icmp_ge (tgt := 43) dX12_waitingTimer_9 rfl b2 (?_ : Ex _ _ 43 _ _ _ _ _)
      refine x_iload_n dX12_waitingTimer_43 rfl rfl (?_ : Ex _ _ 44 _ _ _ _ _)
      cases h
      exact x_ret dX12_waitingTimer_44 (by decide : (0 : Int) ≠ 3)
    · refine x_icmp_geN dX12_waitingTimer_9 (by decide) b2 (?_ : Ex _ _ 12 _ _ _ _ _)
      refine x_aload_n dX12_waitingTimer_12 rfl rfl (Or.inr (by decide)) (?_ : Ex _ _ 13 _ _ _ _ _)
      refine gt_12_59 c1 fl_RX12_128 dX12_waitingTimer_13 (?_ : Ex _ _ 16 _ _ _ _ _)
      refine x_iload_n dX12_waitingTimer_16 rfl rfl (?_ : Ex _ _ 17 _ _ _ _ _)
      obtain ⟨⟨c3, c4, c5⟩, h⟩ := chk_some h
      refine ld_i_3 c3 c4 c5 dX12_waitingTimer_17 (?_ : Ex _ _ 18 _ _ _ _ _)
      refine x_iload_n dX12_waitingTimer_18 rfl rfl (?_ : Ex _ _ 19 _ _ _ _ _)
      rcases ite_some h with ⟨b6, h⟩ | ⟨b6, h⟩
      · refine x_icmp_neN dX12_waitingTimer_19 (by decide) (fun hh => hh b6) (?_ : Ex _ _ 22 _ _ _ _ _)
        refine x_aload_n dX12_waitingTimer_22 rfl rfl (Or.inr (by decide)) (?_ : Ex _ _ 23 _ _ _ _ _)
        refine gt_12_60 c1 fl_RX12_131 dX12_waitingTimer_23 (?_ : Ex _ _ 26 _ _ _ _ _)
        refine x_iload_n dX12_waitingTimer_26 rfl rfl (?_ : Ex _ _ 27 _ _ _ _ _)
        obtain ⟨⟨c8, c9, c10⟩, h⟩ := chk_some h
        refine ld_b_3 c8 c9 c10 dX12_waitingTimer_27 (?_ : Ex _ _ 28 _ _ _ _ _)
        rcases ite_some h with ⟨b11, h⟩ | ⟨b11, h⟩
        · refine x_if_neN dX12_waitingTimer_28 (by decide) (fun hh => hh b11) (?_ : Ex _ _ 31 _ _ _ _ _)
          refine x_iload_n dX12_waitingTimer_31 rfl rfl (?_ : Ex _ _ 32 _ _ _ _ _)
          refine x_goto (tgt := 36) dX12_waitingTimer_32 rfl (?_ : Ex _ _ 36 _ _ _ _ _)
          refine x_istore_n (ls2 := [(22, l0), (0, l1), (0, l3), (0, l3)]) dX12_waitingTimer_36 rfl (Nat.le_of_ble_eq_true rfl) rfl (?_ : Ex _ _ 37 _ _ _ _ _)
          obtain ⟨c13, h⟩ := chk_some h
          refine x_iinc (ls2 := [(22, l0), (0, l1), (0, l3), (0, (l3 + 1))]) dX12_waitingTimer_37 rfl c13 rfl (?_ : Ex _ _ 40 _ _ _ _ _)
          refine x_goto (tgt := 4) dX12_waitingTimer_40 rfl (?_ : Ex _ _ 4 _ _ _ _ _)
          exact ih h
        · refine x_if_ne (tgt := 35) dX12_waitingTimer_28 rfl b11 (?_ : Ex _ _ 35 _ _ _ _ _)
          refine x_iload_n dX12_waitingTimer_35 rfl rfl (?_ : Ex _ _ 36 _ _ _ _ _)
          refine x_istore_n (ls2 := [(22, l0), (0, l1), (0, l2), (0, l3)]) dX12_waitingTimer_36 rfl (Nat.le_of_ble_eq_true rfl) rfl (?_ : Ex _ _ 37 _ _ _ _ _)
          obtain ⟨c12, h⟩ := chk_some h
          refine x_iinc (ls2 := [(22, l0), (0, l1), (0, l2), (0, (l3 + 1))]) dX12_waitingTimer_37 rfl c12 rfl (?_ : Ex _ _ 40 _ _ _ _ _)
          refine x_goto (tgt := 4) dX12_waitingTimer_40 rfl (?_ : Ex _ _ 4 _ _ _ _ _)
          exact ih h
      · refine x_icmp_ne (tgt := 35) dX12_waitingTimer_19 rfl b6 (?_ : Ex _ _ 35 _ _ _ _ _)
        refine x_iload_n dX12_waitingTimer_35 rfl rfl (?_ : Ex _ _ 36 _ _ _ _ _)
        refine x_istore_n (ls2 := [(22, l0), (0, l1), (0, l2), (0, l3)]) dX12_waitingTimer_36 rfl (Nat.le_of_ble_eq_true rfl) rfl (?_ : Ex _ _ 37 _ _ _ _ _)
        obtain ⟨c7, h⟩ := chk_some h
        refine x_iinc (ls2 := [(22, l0), (0, l1), (0, l2), (0, (l3 + 1))]) dX12_waitingTimer_37 rfl c7 rfl (?_ : Ex _ _ 40 _ _ _ _ _)
        refine x_goto (tgt := 4) dX12_waitingTimer_40 rfl (?_ : Ex _ _ 4 _ _ _ _ _)
        exact ih h
theorem e_X12_waitingTimer_0 (d : Nat) {l0 l1 : Int} {m : Mem} {v : Int} {m' : Mem} (h : X12_waitingTimer_0 l0 l1 m = some (v, m')) : Ex d fm_X12_waitingTimer 0 [(22, l0), (0, l1), (3, 0), (3, 0)] [] m (.inl (0, v)) m' := by
  unfold X12_waitingTimer_0 at h
  refine x_iconst dX12_waitingTimer_0 rfl (by decide) (?_ : Ex _ _ 1 _ _ _ _ _)
  refine x_istore_n (ls2 := [(22, l0), (0, l1), (0, (-1)), (3, 0)]) dX12_waitingTimer_1 rfl (Nat.le_of_ble_eq_true rfl) rfl (?_ : Ex _ _ 2 _ _ _ _ _)
  refine x_iconst dX12_waitingTimer_2 rfl (by decide) (?_ : Ex _ _ 3 _ _ _ _ _)
  refine x_istore_n (ls2 := [(22, l0), (0, l1), (0, (-1)), (0, 0)]) dX12_waitingTimer_3 rfl (Nat.le_of_ble_eq_true rfl) rfl (?_ : Ex _ _ 4 _ _ _ _ _)
  exact e_X12_waitingTimer_4 d fuel9 h
theorem e_X12_waitingTimer (d : Nat) {a0 a1 : Int} {m : Mem} {v : Int} {m' : Mem} (h : X12_waitingTimer a0 a1 m = some (v, m')) : ExM d fm_X12_waitingTimer [(22, a0), (0, a1)] m (.inl (0, v)) m' := by
  exact ExM.of (by decide +kernel) (Nat.le_of_ble_eq_true rfl) (cat9 rfl) retI (e_X12_waitingTimer_0 d h)
theorem dX12_waitingSignal_0 : decode cX12_waitingSignal 0 = .ok (.iconst (-1), 1) := by decide +kernel
theorem dX12_waitingSignal_1 : decode cX12_waitingSignal 1 = .ok (.istore_n 2, 1) := by decide +kernel
theorem dX12_waitingSignal_2 : decode cX12_waitingSignal 2 = .ok (.aload_n 0, 1) := by decide +kernel
theorem dX12_waitingSignal_3 : decode cX12_waitingSignal 3 = .ok (.getfield 274, 3) := by decide +kernel
theorem dX12_waitingSignal_6 : decode cX12_waitingSignal 6 = .ok (.iconst 1, 1) := by decide +kernel
theorem dX12_waitingSignal_7 : decode cX12_waitingSignal 7 = .ok (.isub, 1) := by decide +kernel
theorem dX12_waitingSignal_8 : decode cX12_waitingSignal 8 = .ok (.istore_n 3, 1) := by decide +kernel
theorem dX12_waitingSignal_9 : decode cX12_waitingSignal 9 = .ok (.iload_n 3, 1) := by decide +kernel
theorem dX12_waitingSignal_10 : decode cX12_waitingSignal 10 = .ok (.ifCond .lt 44, 3) := by decide +kernel
theorem dX12_waitingSignal_13 : decode cX12_waitingSignal 13 = .ok (.aload_n 0, 1) := by decide +kernel
theorem dX12_waitingSignal_14 : decode cX12_waitingSignal 14 = .ok (.getfield 119, 3) := by decide +kernel
theorem dX12_waitingSignal_17 : decode cX12_waitingSignal 17 = .ok (.iload_n 3, 1) := by decide +kernel
theorem dX12_waitingSignal_18 : decode cX12_waitingSignal 18 = .ok (.iaload, 1) := by decide +kernel
theorem dX12_waitingSignal_19 : decode cX12_waitingSignal 19 = .ok (.iconst 2, 1) := by decide +kernel
theorem dX12_waitingSignal_20 : decode cX12_waitingSignal 20 = .ok (.if_icmp .ne 26, 3) := by decide +kernel
theorem dX12_waitingSignal_23 : decode cX12_waitingSignal 23 = .ok (.aload_n 0, 1) := by decide +kernel
theorem dX12_waitingSignal_24 : decode cX12_waitingSignal 24 = .ok (.getfield 122, 3) := by decide +kernel
theorem dX12_waitingSignal_27 : decode cX12_waitingSignal 27 = .ok (.iload_n 3, 1) := by decide +kernel
theorem dX12_waitingSignal_28 : decode cX12_waitingSignal 28 = .ok (.iaload, 1) := by decide +kernel
theorem dX12_waitingSignal_29 : decode cX12_waitingSignal 29 = .ok (.iload_n 1, 1) := by decide +kernel
theorem dX12_waitingSignal_30 : decode cX12_waitingSignal 30 = .ok (.if_icmp .ne 16, 3) := by decide +kernel
theorem dX12_waitingSignal_33 : decode cX12_waitingSignal 33 = .ok (.aload_n 0, 1) := by decide +kernel
theorem dX12_waitingSignal_34 : decode cX12_waitingSignal 34 = .ok (.getfield 131, 3) := by decide +kernel
theorem dX12_waitingSignal_37 : decode cX12_waitingSignal 37 = .ok (.iload_n 3, 1) := by decide +kernel
theorem dX12_waitingSignal_38 : decode cX12_waitingSignal 38 = .ok (.baload, 1) := by decide +kernel
theorem dX12_waitingSignal_39 : decode cX12_waitingSignal 39 = .ok (.ifCond .ne 7, 3) := by decide +kernel
theorem dX12_waitingSignal_42 : decode cX12_waitingSignal 42 = .ok (.iload_n 3, 1) := by decide +kernel
theorem dX12_waitingSignal_43 : decode cX12_waitingSignal 43 = .ok (.goto 4, 3) := by decide +kernel
theorem dX12_waitingSignal_46 : decode cX12_waitingSignal 46 = .ok (.iload_n 2, 1) := by decide +kernel
theorem dX12_waitingSignal_47 : decode cX12_waitingSignal 47 = .ok (.istore_n 2, 1) := by decide +kernel
theorem dX12_waitingSignal_48 : decode cX12_waitingSignal 48 = .ok (.iinc 3 (-1), 3) := by decide +kernel
theorem dX12_waitingSignal_51 : decode cX12_waitingSignal 51 = .ok (.goto (-42), 3) := by decide +kernel
theorem dX12_waitingSignal_54 : decode cX12_waitingSignal 54 = .ok (.iload_n 2, 1) := by decide +kernel
theorem dX12_waitingSignal_55 : decode cX12_waitingSignal 55 = .ok (.ireturn, 1) := by decide +kernel
theorem e_X12_waitingSignal_9 (d : Nat) : ∀ (n : Nat) {l0 l1 l2 l3 : Int} {m : Mem} {v : Int} {m' : Mem}, X12_waitingSignal_9 n l0 l1 l2 l3 m = some (v, m') → Ex d fm_X12_waitingSignal 9 [(22, l0), (0, l1), (0, l2), (0, l3)] [] m (.inl (0, v)) m' := by
  intro n
  induction n with
  | zero =>
    intro l0 l1 l2 l3 m v m' h
    have h : (none : Option R2) = some _ := h
    cases h
  | succ n ih =>
    intro l0 l1 l2 l3 m v m' h
    rw [X12_waitingSignal_9] at h
    refine x_iload_n dX12_waitingSignal_9 rfl rfl (?_ : Ex _ _ 10 _ _ _ _ _)
    rcases ite_some h with ⟨b1, h⟩ | ⟨b1, h⟩
    · refine x_if_lt (tgt := 54) dX12_waitingSignal_10 rfl b1 (?_ : Ex _ _ 54 _ _ _ _ _)
      refine x_iload_n dX12_waitingSignal_54 rfl rfl (?_ : Ex _ _ 55 _ _ _ _ _)
      cases h
      exact x_ret dX12_waitingSignal_55 (by decide : (0 : Int) ≠ 3)
    · refine x_if_ltN dX12_waitingSignal_10 (by decide) b1 (?_ : Ex _ _ 13 _ _ _ _ _)
      refine x_aload_n dX12_waitingSignal_13 rfl rfl (Or.inr (by decide)) (?_ : Ex _ _ 14 _ _ _ _ _)
      obtain ⟨c2, h⟩ := chk_some h
      refine gt_12_56 c2 fl_RX12_119 dX12_waitingSignal_14 (?_ : Ex _ _ 17 _ _ _ _ _)
      refine x_iload_n dX12_waitingSignal_17 rfl rfl (?_ : Ex _ _ 18 _ _ _ _ _)
      obtain ⟨⟨c3, c4, c5⟩, h⟩ := chk_some h
      refine ld_i_3 c3 c4 c5 dX12_waitingSignal_18 (?_ : Ex _ _ 19 _ _ _ _ _)
      refine x_iconst dX12_waitingSignal_19 rfl (by decide) (?_ : Ex _ _ 20 _ _ _ _ _)
      rcases ite_some h with ⟨b6, h⟩ | ⟨b6, h⟩
      · refine x_icmp_neN dX12_waitingSignal_20 (by decide) (fun hh => hh b6) (?_ : Ex _ _ 23 _ _ _ _ _)
        refine x_aload_n dX12_waitingSignal_23 rfl rfl (Or.inr (by decide)) (?_ : Ex _ _ 24 _ _ _ _ _)
        refine gt_12_57 c2 fl_RX12_122 dX12_waitingSignal_24 (?_ : Ex _ _ 27 _ _ _ _ _)
        refine x_iload_n dX12_waitingSignal_27 rfl rfl (?_ : Ex _ _ 28 _ _ _ _ _)
        obtain ⟨⟨c8, c9, c10⟩, h⟩ := chk_some h
        refine ld_i_3 c8 c9 c10 dX12_waitingSignal_28 (?_ : Ex _ _ 29 _ _ _ _ _)
        refine x_iload_n dX12_waitingSignal_29 rfl rfl (?_ : Ex _ _ 30 _ _ _ _ _)
        rcases ite_some h with ⟨b11, h⟩ | ⟨b11, h⟩
        · refine x_icmp_neN dX12_waitingSignal_30 (by decide) (fun hh => hh b11) (?_ : Ex _ _ 33 _ _ _ _ _)
          refine x_aload_n dX12_waitingSignal_33 rfl rfl (Or.inr (by decide)) (?_ : Ex _ _ 34 _ _ _ _ _)
          refine gt_12_60 c2 fl_RX12_131 dX12_waitingSignal_34 (?_ : Ex _ _ 37 _ _ _ _ _)
          refine x_iload_n dX12_waitingSignal_37 rfl rfl (?_ : Ex _ _ 38 _ _ _ _ _)
          obtain ⟨⟨c13, c14, c15⟩, h⟩ := chk_some h
          refine ld_b_3 c13 c14 c15 dX12_waitingSignal_38 (?_ : Ex _ _ 39 _ _ _ _ _)
          rcases ite_some h with ⟨b16, h⟩ | ⟨b16, h⟩
          · refine x_if_neN dX12_waitingSignal_39 (by decide) (fun hh => hh b16) (?_ : Ex _ _ 42 _ _ _ _ _)
            refine x_iload_n dX12_waitingSignal_42 rfl rfl (?_ : Ex _ _ 43 _ _ _ _ _)
            refine x_goto (tgt := 47) dX12_waitingSignal_43 rfl (?_ : Ex _ _ 47 _ _ _ _ _)
            refine x_istore_n (ls2 := [(22, l0), (0, l1), (0, l3), (0, l3)]) dX12_waitingSignal_47 rfl (Nat.le_of_ble_eq_true rfl) rfl (?_ : Ex _ _ 48 _ _ _ _ _)
            obtain ⟨c18, h⟩ := chk_some h
            refine x_iinc (ls2 := [(22, l0), (0, l1), (0, l3), (0, (l3 + (-1)))]) dX12_waitingSignal_48 rfl c18 rfl (?_ : Ex _ _ 51 _ _ _ _ _)
            refine x_goto (tgt := 9) dX12_waitingSignal_51 rfl (?_ : Ex _ _ 9 _ _ _ _ _)
            exact ih h
          · refine x_if_ne (tgt := 46) dX12_waitingSignal_39 rfl b16 (?_ : Ex _ _ 46 _ _ _ _ _)
            refine x_iload_n dX12_waitingSignal_46 rfl rfl (?_ : Ex _ _ 47 _ _ _ _ _)
            refine x_istore_n (ls2 := [(22, l0), (0, l1), (0, l2), (0, l3)]) dX12_waitingSignal_47 rfl (Nat.le_of_ble_eq_true rfl) rfl (?_ : Ex _ _ 48 _ _ _ _ _)
            obtain ⟨c17, h⟩ := chk_some h
            refine x_iinc (ls2 := [(22, l0), (0, l1), (0, l2), (0, (l3 + (-1)))]) dX12_waitingSignal_48 rfl c17 rfl (?_ : Ex _ _ 51 _ _ _ _ _)
            refine x_goto (tgt := 9) dX12_waitingSignal_51 rfl (?_ : Ex _ _ 9 _ _ _ _ _)
            exact ih h
        · refine x_icmp_ne (tgt := 46) dX12_waitingSignal_30 rfl b11 (?_ : Ex _ _ 46 _ _ _ _ _)
          refine x_iload_n dX12_waitingSignal_46 rfl rfl (?_ : Ex _ _ 47 _ _ _ _ _)
          refine x_istore_n (ls2 := [(22, l0), (0, l1), (0, l2), (0, l3)]) dX12_waitingSignal_47 rfl (Nat.le_of_ble_eq_true rfl) rfl (?_ : Ex _ _ 48 _ _ _ _ _)
          obtain ⟨c12, h⟩ := chk_some h
          refine x_iinc (ls2 := [(22, l0), (0, l1), (0, l2), (0, (l3 + (-1)))]) dX12_waitingSignal_48 rfl c12 rfl (?_ : Ex _ _ 51 _ _ _ _ _)
          refine x_goto (tgt := 9) dX12_waitingSignal_51 rfl (?_ : Ex _ _ 9 _ _ _ _ _)
          exact ih h
      · refine x_icmp_ne (tgt := 46) dX12_waitingSignal_20 rfl b6 (?_ : Ex _ _ 46 _ _ _ _ _)
        refine x_iload_n dX12_waitingSignal_46 rfl rfl (?_ : Ex _ _ 47 _ _ _ _ _)
        refine x_istore_n (ls2 := [(22, l0), (0, l1), (0, l2), (0, l3)]) dX12_waitingSignal_47 rfl (Nat.le_of_ble_eq_true rfl) rfl (?_ : Ex _ _ 48 _ _ _ _ _)
        obtain ⟨c7, h⟩ := chk_some h
        refine x_iinc (ls2 := [(22, l0), (0, l1), (0, l2), (0, (l3 + (-1)))]) dX12_waitingSignal_48 rfl c7 rfl (?_ : Ex _ _ 51 _ _ _ _ _)
        refine x_goto (tgt := 9) dX12_waitingSignal_51 rfl (?_ : Ex _ _ 9 _ _ _ _ _)
        exact ih h
theorem e_X12_waitingSignal_0 (d : Nat) {l0 l1 : Int} {m : Mem} {v : Int} {m' : Mem} (h : X12_waitingSignal_0 l0 l1 m = some (v, m')) : Ex d fm_X12_waitingSignal 0 [(22, l0), (0, l1), (3, 0), (3, 0)] [] m (.inl (0, v)) m' := by
  unfold X12_waitingSignal_0 at h
  refine x_iconst dX12_waitingSignal_0 rfl (by decide) (?_ : Ex _ _ 1 _ _ _ _ _)
  refine x_istore_n (ls2 := [(22, l0), (0, l1), (0, (-1)), (3, 0)]) dX12_waitingSignal_1 rfl (Nat.le_of_ble_eq_true rfl) rfl (?_ : Ex _ _ 2 _ _ _ _ _)
  refine x_aload_n dX12_waitingSignal_2 rfl rfl (Or.inr (by decide)) (?_ : Ex _ _ 3 _ _ _ _ _)
  obtain ⟨c1, h⟩ := chk_some h
  refine gt_12_55 c1 fl_RX12_274 dX12_waitingSignal_3 (?_ : Ex _ _ 6 _ _ _ _ _)
  refine x_iconst dX12_waitingSignal_6 rfl (by decide) (?_ : Ex _ _ 7 _ _ _ _ _)
  obtain ⟨c2, h⟩ := chk_some h
  refine x_isub dX12_waitingSignal_7 c2 (?_ : Ex _ _ 8 _ _ _ _ _)
  refine x_istore_n (ls2 := [(22, l0), (0, l1), (0, (-1)), (0, (m l0 55 - 1))]) dX12_waitingSignal_8 rfl (Nat.le_of_ble_eq_true rfl) rfl (?_ : Ex _ _ 9 _ _ _ _ _)
  exact e_X12_waitingSignal_9 d fuel9 h
theorem e_X12_waitingSignal (d : Nat) {a0 a1 : Int} {m : Mem} {v : Int} {m' : Mem} (h : X12_waitingSignal a0 a1 m = some (v, m')) : ExM d fm_X12_waitingSignal [(22, a0), (0, a1)] m (.inl (0, v)) m' := by
  exact ExM.of (by decide +kernel) (Nat.le_of_ble_eq_true rfl) (cat9 rfl) retI (e_X12_waitingSignal_0 d h)
theorem dX12_takesSignal_0 : decode cX12_takesSignal 0 = .ok (.aload_n 0, 1) := by decide +kernel
theorem dX12_takesSignal_1 : decode cX12_takesSignal 1 = .ok (.getfield 143, 3) := by decide +kernel
theorem dX12_takesSignal_4 : decode cX12_takesSignal 4 = .ok (.aload_n 0, 1) := by decide +kernel
theorem dX12_takesSignal_5 : decode cX12_takesSignal 5 = .ok (.getfield 277, 3) := by decide +kernel
theorem dX12_takesSignal_8 : decode cX12_takesSignal 8 = .ok (.iload_n 1, 1) := by decide +kernel
theorem dX12_takesSignal_9 : decode cX12_takesSignal 9 = .ok (.iastore, 1) := by decide +kernel
theorem dX12_takesSignal_10 : decode cX12_takesSignal 10 = .ok (.aload_n 0, 1) := by decide +kernel
theorem dX12_takesSignal_11 : decode cX12_takesSignal 11 = .ok (.getfield 146, 3) := by decide +kernel
theorem dX12_takesSignal_14 : decode cX12_takesSignal 14 = .ok (.aload_n 0, 1) := by decide +kernel
theorem dX12_takesSignal_15 : decode cX12_takesSignal 15 = .ok (.getfield 277, 3) := by decide +kernel
theorem dX12_takesSignal_18 : decode cX12_takesSignal 18 = .ok (.iload_n 2, 1) := by decide +kernel
theorem dX12_takesSignal_19 : decode cX12_takesSignal 19 = .ok (.iastore, 1) := by decide +kernel
theorem dX12_takesSignal_20 : decode cX12_takesSignal 20 = .ok (.aload_n 0, 1) := by decide +kernel
theorem dX12_takesSignal_21 : decode cX12_takesSignal 21 = .ok (.getfield 149, 3) := by decide +kernel
theorem dX12_takesSignal_24 : decode cX12_takesSignal 24 = .ok (.aload_n 0, 1) := by decide +kernel
theorem dX12_takesSignal_25 : decode cX12_takesSignal 25 = .ok (.getfield 277, 3) := by decide +kernel
theorem dX12_takesSignal_28 : decode cX12_takesSignal 28 = .ok (.iconst 0, 1) := by decide +kernel
theorem dX12_takesSignal_29 : decode cX12_takesSignal 29 = .ok (.bastore, 1) := by decide +kernel
theorem dX12_takesSignal_30 : decode cX12_takesSignal 30 = .ok (.aload_n 0, 1) := by decide +kernel
theorem dX12_takesSignal_31 : decode cX12_takesSignal 31 = .ok (.dup, 1) := by decide +kernel
theorem dX12_takesSignal_32 : decode cX12_takesSignal 32 = .ok (.getfield 277, 3) := by decide +kernel
theorem dX12_takesSignal_35 : decode cX12_takesSignal 35 = .ok (.iconst 1, 1) := by decide +kernel
theorem dX12_takesSignal_36 : decode cX12_takesSignal 36 = .ok (.iadd, 1) := by decide +kernel
theorem dX12_takesSignal_37 : decode cX12_takesSignal 37 = .ok (.putfield 277, 3) := by decide +kernel
theorem dX12_takesSignal_40 : decode cX12_takesSignal 40 = .ok (.aload_n 0, 1) := by decide +kernel
theorem dX12_takesSignal_41 : decode cX12_takesSignal 41 = .ok (.getfield 243, 3) := by decide +kernel
theorem dX12_takesSignal_44 : decode cX12_takesSignal 44 = .ok (.ifCond .ne 11, 3) := by decide +kernel
theorem dX12_takesSignal_47 : decode cX12_takesSignal 47 = .ok (.aload_n 0, 1) := by decide +kernel
theorem dX12_takesSignal_48 : decode cX12_takesSignal 48 = .ok (.iload_n 1, 1) := by decide +kernel
theorem dX12_takesSignal_49 : decode cX12_takesSignal 49 = .ok (.invokevirtual 359, 3) := by decide +kernel
theorem dX12_takesSignal_52 : decode cX12_takesSignal 52 = .ok (.goto 4, 3) := by decide +kernel
theorem dX12_takesSignal_55 : decode cX12_takesSignal 55 = .ok (.iconst (-1), 1) := by decide +kernel
theorem dX12_takesSignal_56 : decode cX12_takesSignal 56 = .ok (.istore_n 3, 1) := by decide +kernel
theorem dX12_takesSignal_57 : decode cX12_takesSignal 57 = .ok (.iload_n 3, 1) := by decide +kernel
theorem dX12_takesSignal_58 : decode cX12_takesSignal 58 = .ok (.iconst (-1), 1) := by decide +kernel
theorem dX12_takesSignal_59 : decode cX12_takesSignal 59 = .ok (.if_icmp .eq 44, 3) := by decide +kernel
theorem dX12_takesSignal_62 : decode cX12_takesSignal 62 = .ok (.aload_n 0, 1) := by decide +kernel
theorem dX12_takesSignal_63 : decode cX12_takesSignal 63 = .ok (.getfield 149, 3) := by decide +kernel
theorem dX12_takesSignal_66 : decode cX12_takesSignal 66 = .ok (.aload_n 0, 1) := by decide +kernel
theorem dX12_takesSignal_67 : decode cX12_takesSignal 67 = .ok (.getfield 277, 3) := by decide +kernel
theorem dX12_takesSignal_70 : decode cX12_takesSignal 70 = .ok (.iconst 1, 1) := by decide +kernel
theorem dX12_takesSignal_71 : decode cX12_takesSignal 71 = .ok (.isub, 1) := by decide +kernel
theorem dX12_takesSignal_72 : decode cX12_takesSignal 72 = .ok (.iconst 1, 1) := by decide +kernel
theorem dX12_takesSignal_73 : decode cX12_takesSignal 73 = .ok (.bastore, 1) := by decide +kernel
theorem dX12_takesSignal_74 : decode cX12_takesSignal 74 = .ok (.aload_n 0, 1) := by decide +kernel
theorem dX12_takesSignal_75 : decode cX12_takesSignal 75 = .ok (.getfield 128, 3) := by decide +kernel
theorem dX12_takesSignal_78 : decode cX12_takesSignal 78 = .ok (.iload_n 3, 1) := by decide +kernel
theorem dX12_takesSignal_79 : decode cX12_takesSignal 79 = .ok (.iaload, 1) := by decide +kernel
theorem dX12_takesSignal_80 : decode cX12_takesSignal 80 = .ok (.iconst (-1), 1) := by decide +kernel
theorem dX12_takesSignal_81 : decode cX12_takesSignal 81 = .ok (.if_icmp .eq 16, 3) := by decide +kernel
theorem dX12_takesSignal_84 : decode cX12_takesSignal 84 = .ok (.aload_n 0, 1) := by decide +kernel
theorem dX12_takesSignal_85 : decode cX12_takesSignal 85 = .ok (.bipush 11, 2) := by decide +kernel
theorem dX12_takesSignal_87 : decode cX12_takesSignal 87 = .ok (.aload_n 0, 1) := by decide +kernel
theorem dX12_takesSignal_88 : decode cX12_takesSignal 88 = .ok (.getfield 128, 3) := by decide +kernel
theorem dX12_takesSignal_91 : decode cX12_takesSignal 91 = .ok (.iload_n 3, 1) := by decide +kernel
theorem dX12_takesSignal_92 : decode cX12_takesSignal 92 = .ok (.iaload, 1) := by decide +kernel
theorem dX12_takesSignal_93 : decode cX12_takesSignal 93 = .ok (.iconst 0, 1) := by decide +kernel
theorem dX12_takesSignal_94 : decode cX12_takesSignal 94 = .ok (.invokevirtual 292, 3) := by decide +kernel
theorem dX12_takesSignal_97 : decode cX12_takesSignal 97 = .ok (.aload_n 0, 1) := by decide +kernel
theorem dX12_takesSignal_98 : decode cX12_takesSignal 98 = .ok (.iload_n 3, 1) := by decide +kernel
theorem dX12_takesSignal_99 : decode cX12_takesSignal 99 = .ok (.iload_n 2, 1) := by decide +kernel
theorem dX12_takesSignal_100 : decode cX12_takesSignal 100 = .ok (.invokevirtual 317, 3) := by decide +kernel
theorem dX12_takesSignal_103 : decode cX12_takesSignal 103 = .ok (.return_, 1) := by decide +kernel
theorem e_X12_takesSignal_97 (d : Nat) {l0 l2 l3 : Int} {m : Mem} {v : Int} {m' : Mem} (h : X12_takesSignal_97 l0 l2 l3 m = some (v, m')) : Ex (d + 1) fm_X12_takesSignal 97 [(22, l0), (3, 0), (0, l2), (0, l3)] [] m (.inl (3, 0)) m' := by
  unfold X12_takesSignal_97 at h
  refine x_aload_n dX12_takesSignal_97 rfl rfl (Or.inr (by decide)) (?_ : Ex _ _ 98 _ _ _ _ _)
  refine x_iload_n dX12_takesSignal_98 rfl rfl (?_ : Ex _ _ 99 _ _ _ _ _)
  refine x_iload_n dX12_takesSignal_99 rfl rfl (?_ : Ex _ _ 100 _ _ _ _ _)
  obtain ⟨c1, h⟩ := chk_some h
  obtain ⟨v2, m3, g4, h⟩ := cal_some h
  refine cV2 (e_X12_gets d g4) (contV (?_ : Ex _ _ 103 _ _ _ _ _)) og_X12_gets rfl ml_RX12_317 12 rfl rfl c1 im_X12_gets se_X12_gets (Nat.le_of_ble_eq_true rfl) dX12_takesSignal_100
  cases h
  exact x_retv dX12_takesSignal_103
theorem e_X12_takesSignal_56 (d : Nat) {l0 l2 s0 : Int} {m : Mem} {v : Int} {m' : Mem} (h : X12_takesSignal_56 l0 l2 s0 m = some (v, m')) : Ex (d + 1) fm_X12_takesSignal 56 [(22, l0), (3, 0), (0, l2), (3, 0)] [(0, s0)] m (.inl (3, 0)) m' := by
  unfold X12_takesSignal_56 at h
  refine x_istore_n (ls2 := [(22, l0), (3, 0), (0, l2), (0, s0)]) dX12_takesSignal_56 rfl (Nat.le_of_ble_eq_true rfl) rfl (?_ : Ex _ _ 57 _ _ _ _ _)
  refine x_iload_n dX12_takesSignal_57 rfl rfl (?_ : Ex _ _ 58 _ _ _ _ _)
  refine x_iconst dX12_takesSignal_58 rfl (by decide) (?_ : Ex _ _ 59 _ _ _ _ _)
  rcases ite_some h with ⟨b1, h⟩ | ⟨b1, h⟩
  · refine x_icmp_eq (tgt := 103) dX12_takesSignal_59 rfl b1 (?_ : Ex _ _ 103 _ _ _ _ _)
    cases h
    exact x_retv dX12_takesSignal_103
  · refine x_icmp_eqN dX12_takesSignal_59 (by decide) b1 (?_ : Ex _ _ 62 _ _ _ _ _)
    refine x_aload_n dX12_takesSignal_62 rfl rfl (Or.inr (by decide)) (?_ : Ex _ _ 63 _ _ _ _ _)
    obtain ⟨c2, h⟩ := chk_some h
    refine gt_12_67 c2 fl_RX12_149 dX12_takesSignal_63 (?_ : Ex _ _ 66 _ _ _ _ _)
    refine x_aload_n dX12_takesSignal_66 rfl rfl (Or.inr (by decide)) (?_ : Ex _ _ 67 _ _ _ _ _)
    refine gt_12_68 c2 fl_RX12_277 dX12_takesSignal_67 (?_ : Ex _ _ 70 _ _ _ _ _)
    refine x_iconst dX12_takesSignal_70 rfl (by decide) (?_ : Ex _ _ 71 _ _ _ _ _)
    obtain ⟨c3, h⟩ := chk_some h
    refine x_isub dX12_takesSignal_71 c3 (?_ : Ex _ _ 72 _ _ _ _ _)
    refine x_iconst dX12_takesSignal_72 rfl (by decide) (?_ : Ex _ _ 73 _ _ _ _ _)
    obtain ⟨⟨c4, c5, c6⟩, h⟩ := chk_some h
    obtain ⟨m7, hm7, h⟩ := st_some h
    refine sd_b_80 c4 c5 c6 (by decide) dX12_takesSignal_73 (?_ : Ex _ _ 74 _ _ _ _ _)
    rw [← hm7]
    refine x_aload_n dX12_takesSignal_74 rfl rfl (Or.inr (by decide)) (?_ : Ex _ _ 75 _ _ _ _ _)
    refine gt_12_59 c2 fl_RX12_128 dX12_takesSignal_75 (?_ : Ex _ _ 78 _ _ _ _ _)
    refine x_iload_n dX12_takesSignal_78 rfl rfl (?_ : Ex _ _ 79 _ _ _ _ _)
    obtain ⟨⟨c8, c9, c10⟩, h⟩ := chk_some h
    refine ld_i_3 c8 c9 c10 dX12_takesSignal_79 (?_ : Ex _ _ 80 _ _ _ _ _)
    refine x_iconst dX12_takesSignal_80 rfl (by decide) (?_ : Ex _ _ 81 _ _ _ _ _)
    rcases ite_some h with ⟨b11, h⟩ | ⟨b11, h⟩
    · refine x_icmp_eq (tgt := 97) dX12_takesSignal_81 rfl b11 (?_ : Ex _ _ 97 _ _ _ _ _)
      exact e_X12_takesSignal_97 d h
    · refine x_icmp_eqN dX12_takesSignal_81 (by decide) b11 (?_ : Ex _ _ 84 _ _ _ _ _)
      refine x_aload_n dX12_takesSignal_84 rfl rfl (Or.inr (by decide)) (?_ : Ex _ _ 85 _ _ _ _ _)
      refine x_bipush dX12_takesSignal_85 kb_11 (by decide) (?_ : Ex _ _ 87 _ _ _ _ _)
      refine x_aload_n dX12_takesSignal_87 rfl rfl (Or.inr (by decide)) (?_ : Ex _ _ 88 _ _ _ _ _)
      refine gt_12_59 c2 fl_RX12_128 dX12_takesSignal_88 (?_ : Ex _ _ 91 _ _ _ _ _)
      refine x_iload_n dX12_takesSignal_91 rfl rfl (?_ : Ex _ _ 92 _ _ _ _ _)
      obtain ⟨⟨c12, c13⟩, h⟩ := chk_some h
      refine ld_i_3 c8 c12 c13 dX12_takesSignal_92 (?_ : Ex _ _ 93 _ _ _ _ _)
      refine x_iconst dX12_takesSignal_93 rfl (by decide) (?_ : Ex _ _ 94 _ _ _ _ _)
      obtain ⟨v14, m15, g16, h⟩ := cal_some h
      refine cV3 (e_X12_decides d g16) (contV (?_ : Ex _ _ 97 _ _ _ _ _)) og_X12_decides rfl ml_RX12_292 12 rfl rfl c2 im_X12_decides se_X12_decides (Nat.le_of_ble_eq_true rfl) dX12_takesSignal_94
      exact e_X12_takesSignal_97 d h
theorem e_X12_takesSignal_0 (d : Nat) {l0 l1 l2 : Int} {m : Mem} {v : Int} {m' : Mem} (h : X12_takesSignal_0 l0 l1 l2 m = some (v, m')) : Ex (d + 1) fm_X12_takesSignal 0 [(22, l0), (0, l1), (0, l2), (3, 0)] [] m (.inl (3, 0)) m' := by
  unfold X12_takesSignal_0 at h
  refine x_aload_n dX12_takesSignal_0 rfl rfl (Or.inr (by decide)) (?_ : Ex _ _ 1 _ _ _ _ _)
  obtain ⟨c1, h⟩ := chk_some h
  refine gt_12_65 c1 fl_RX12_143 dX12_takesSignal_1 (?_ : Ex _ _ 4 _ _ _ _ _)
  refine x_aload_n dX12_takesSignal_4 rfl rfl (Or.inr (by decide)) (?_ : Ex _ _ 5 _ _ _ _ _)
  refine gt_12_68 c1 fl_RX12_277 dX12_takesSignal_5 (?_ : Ex _ _ 8 _ _ _ _ _)
  refine x_iload_n dX12_takesSignal_8 rfl rfl (?_ : Ex _ _ 9 _ _ _ _ _)
  obtain ⟨⟨c2, c3, c4⟩, h⟩ := chk_some h
  obtain ⟨m5, hm5, h⟩ := st_some h
  refine sd_i_80 c2 c3 c4 dX12_takesSignal_9 (?_ : Ex _ _ 10 _ _ _ _ _)
  rw [← hm5]
  refine x_aload_n dX12_takesSignal_10 rfl rfl (Or.inr (by decide)) (?_ : Ex _ _ 11 _ _ _ _ _)
  refine gt_12_66 c1 fl_RX12_146 dX12_takesSignal_11 (?_ : Ex _ _ 14 _ _ _ _ _)
  refine x_aload_n dX12_takesSignal_14 rfl rfl (Or.inr (by decide)) (?_ : Ex _ _ 15 _ _ _ _ _)
  refine gt_12_68 c1 fl_RX12_277 dX12_takesSignal_15 (?_ : Ex _ _ 18 _ _ _ _ _)
  refine x_iload_n dX12_takesSignal_18 rfl rfl (?_ : Ex _ _ 19 _ _ _ _ _)
  obtain ⟨⟨c6, c7, c8⟩, h⟩ := chk_some h
  obtain ⟨m9, hm9, h⟩ := st_some h
  refine sd_i_80 c6 c7 c8 dX12_takesSignal_19 (?_ : Ex _ _ 20 _ _ _ _ _)
  rw [← hm9]
  refine x_aload_n dX12_takesSignal_20 rfl rfl (Or.inr (by decide)) (?_ : Ex _ _ 21 _ _ _ _ _)
  refine gt_12_67 c1 fl_RX12_149 dX12_takesSignal_21 (?_ : Ex _ _ 24 _ _ _ _ _)
  refine x_aload_n dX12_takesSignal_24 rfl rfl (Or.inr (by decide)) (?_ : Ex _ _ 25 _ _ _ _ _)
  refine gt_12_68 c1 fl_RX12_277 dX12_takesSignal_25 (?_ : Ex _ _ 28 _ _ _ _ _)
  refine x_iconst dX12_takesSignal_28 rfl (by decide) (?_ : Ex _ _ 29 _ _ _ _ _)
  obtain ⟨⟨c10, c11, c12⟩, h⟩ := chk_some h
  obtain ⟨m13, hm13, h⟩ := st_some h
  refine sd_b_80 c10 c11 c12 (by decide) dX12_takesSignal_29 (?_ : Ex _ _ 30 _ _ _ _ _)
  rw [← hm13]
  refine x_aload_n dX12_takesSignal_30 rfl rfl (Or.inr (by decide)) (?_ : Ex _ _ 31 _ _ _ _ _)
  refine x_dup (by decide : (22 : Int) ≠ 2) dX12_takesSignal_31 (?_ : Ex _ _ 32 _ _ _ _ _)
  refine gt_12_68 c1 fl_RX12_277 dX12_takesSignal_32 (?_ : Ex _ _ 35 _ _ _ _ _)
  refine x_iconst dX12_takesSignal_35 rfl (by decide) (?_ : Ex _ _ 36 _ _ _ _ _)
  obtain ⟨c14, h⟩ := chk_some h
  refine x_iadd dX12_takesSignal_36 c14 (?_ : Ex _ _ 37 _ _ _ _ _)
  obtain ⟨m15, hm15, h⟩ := st_some h
  refine pt_12_68  c1 fl_RX12_277 dX12_takesSignal_37 (?_ : Ex _ _ 40 _ _ _ _ _)
  rw [← hm15]
  refine x_aload_n dX12_takesSignal_40 rfl rfl (Or.inr (by decide)) (?_ : Ex _ _ 41 _ _ _ _ _)
  refine gt_12_42 c1 fl_RX12_243 dX12_takesSignal_41 (?_ : Ex _ _ 44 _ _ _ _ _)
  rcases ite_some h with ⟨b16, h⟩ | ⟨b16, h⟩
  · refine x_if_neN dX12_takesSignal_44 (by decide) (fun hh => hh b16) (?_ : Ex _ _ 47 _ _ _ _ _)
    refine x_aload_n dX12_takesSignal_47 rfl rfl (Or.inr (by decide)) (?_ : Ex _ _ 48 _ _ _ _ _)
    refine x_iload_n dX12_takesSignal_48 rfl rfl (?_ : Ex _ _ 49 _ _ _ _ _)
    obtain ⟨v17, m18, g19, h⟩ := cal_some h
    refine cV1 (e_X12_waitingSignal d g19) (contN (by decide) (?_ : Ex _ _ 52 _ _ _ _ _)) og_X12_waitingSignal rfl ml_RX12_359 12 rfl rfl c1 im_X12_waitingSignal se_X12_waitingSignal (Nat.le_of_ble_eq_true rfl) dX12_takesSignal_49
    refine x_goto (tgt := 56) dX12_takesSignal_52 rfl (?_ : Ex _ _ 56 _ _ _ _ _)
    refine Ex.wk (ls2 := [(22, l0), (3, 0), (0, l2), (3, 0)]) ⟨Or.inr rfl, Or.inl rfl, Or.inr rfl, Or.inl rfl, trivial⟩ ?_
    exact e_X12_takesSignal_56 d h
  · refine x_if_ne (tgt := 55) dX12_takesSignal_44 rfl b16 (?_ : Ex _ _ 55 _ _ _ _ _)
    refine x_iconst dX12_takesSignal_55 rfl (by decide) (?_ : Ex _ _ 56 _ _ _ _ _)
    refine Ex.wk (ls2 := [(22, l0), (3, 0), (0, l2), (3, 0)]) ⟨Or.inr rfl, Or.inl rfl, Or.inr rfl, Or.inl rfl, trivial⟩ ?_
    exact e_X12_takesSignal_56 d h
theorem e_X12_takesSignal (d : Nat) {a0 a1 a2 : Int} {m : Mem} {v : Int} {m' : Mem} (h : X12_takesSignal a0 a1 a2 m = some (v, m')) : ExM (d + 1) fm_X12_takesSignal [(22, a0), (0, a1), (0, a2)] m (.inl (3, 0)) m' := by
  exact ExM.of (by decide +kernel) (Nat.le_of_ble_eq_true rfl) (cat9 rfl) retV (e_X12_takesSignal_0 d h)
theorem dX12_takesOver_0 : decode cX12_takesOver 0 = .ok (.iload_n 1, 1) := by decide +kernel
theorem dX12_takesOver_1 : decode cX12_takesOver 1 = .ok (.iconst 3, 1) := by decide +kernel
theorem dX12_takesOver_2 : decode cX12_takesOver 2 = .ok (.if_icmp .ne 11, 3) := by decide +kernel
theorem dX12_takesOver_5 : decode cX12_takesOver 5 = .ok (.aload_n 0, 1) := by decide +kernel
theorem dX12_takesOver_6 : decode cX12_takesOver 6 = .ok (.iload_n 2, 1) := by decide +kernel
theorem dX12_takesOver_7 : decode cX12_takesOver 7 = .ok (.invokevirtual 362, 3) := by decide +kernel
theorem dX12_takesOver_10 : decode cX12_takesOver 10 = .ok (.goto 18, 3) := by decide +kernel
theorem dX12_takesOver_13 : decode cX12_takesOver 13 = .ok (.aload_n 0, 1) := by decide +kernel
theorem dX12_takesOver_14 : decode cX12_takesOver 14 = .ok (.iload_n 1, 1) := by decide +kernel
theorem dX12_takesOver_15 : decode cX12_takesOver 15 = .ok (.iconst 5, 1) := by decide +kernel
theorem dX12_takesOver_16 : decode cX12_takesOver 16 = .ok (.if_icmp .ne 7, 3) := by decide +kernel
theorem dX12_takesOver_19 : decode cX12_takesOver 19 = .ok (.iconst 3, 1) := by decide +kernel
theorem dX12_takesOver_20 : decode cX12_takesOver 20 = .ok (.goto 4, 3) := by decide +kernel
theorem dX12_takesOver_23 : decode cX12_takesOver 23 = .ok (.iconst 0, 1) := by decide +kernel
theorem dX12_takesOver_24 : decode cX12_takesOver 24 = .ok (.iload_n 2, 1) := by decide +kernel
theorem dX12_takesOver_25 : decode cX12_takesOver 25 = .ok (.invokevirtual 365, 3) := by decide +kernel
theorem dX12_takesOver_28 : decode cX12_takesOver 28 = .ok (.istore 4, 2) := by decide +kernel
theorem dX12_takesOver_30 : decode cX12_takesOver 30 = .ok (.iload 4, 2) := by decide +kernel
theorem dX12_takesOver_32 : decode cX12_takesOver 32 = .ok (.iconst (-1), 1) := by decide +kernel
theorem dX12_takesOver_33 : decode cX12_takesOver 33 = .ok (.if_icmp .ne 4, 3) := by decide +kernel
theorem dX12_takesOver_36 : decode cX12_takesOver 36 = .ok (.return_, 1) := by decide +kernel
theorem dX12_takesOver_37 : decode cX12_takesOver 37 = .ok (.iload_n 1, 1) := by decide +kernel
theorem dX12_takesOver_38 : decode cX12_takesOver 38 = .ok (.iconst 2, 1) := by decide +kernel
theorem dX12_takesOver_39 : decode cX12_takesOver 39 = .ok (.if_icmp .ne 22, 3) := by decide +kernel
theorem dX12_takesOver_42 : decode cX12_takesOver 42 = .ok (.aload_n 0, 1) := by decide +kernel
theorem dX12_takesOver_43 : decode cX12_takesOver 43 = .ok (.getfield 131, 3) := by decide +kernel
theorem dX12_takesOver_46 : decode cX12_takesOver 46 = .ok (.iload 4, 2) := by decide +kernel
theorem dX12_takesOver_48 : decode cX12_takesOver 48 = .ok (.iconst 1, 1) := by decide +kernel
theorem dX12_takesOver_49 : decode cX12_takesOver 49 = .ok (.bastore, 1) := by decide +kernel
theorem dX12_takesOver_50 : decode cX12_takesOver 50 = .ok (.aload_n 0, 1) := by decide +kernel
theorem dX12_takesOver_51 : decode cX12_takesOver 51 = .ok (.getfield 134, 3) := by decide +kernel
theorem dX12_takesOver_54 : decode cX12_takesOver 54 = .ok (.iload 4, 2) := by decide +kernel
theorem dX12_takesOver_56 : decode cX12_takesOver 56 = .ok (.iconst 1, 1) := by decide +kernel
theorem dX12_takesOver_57 : decode cX12_takesOver 57 = .ok (.bastore, 1) := by decide +kernel
theorem dX12_takesOver_58 : decode cX12_takesOver 58 = .ok (.goto 47, 3) := by decide +kernel
theorem dX12_takesOver_61 : decode cX12_takesOver 61 = .ok (.iload_n 1, 1) := by decide +kernel
theorem dX12_takesOver_62 : decode cX12_takesOver 62 = .ok (.iconst 3, 1) := by decide +kernel
theorem dX12_takesOver_63 : decode cX12_takesOver 63 = .ok (.if_icmp .eq 13, 3) := by decide +kernel
theorem dX12_takesOver_66 : decode cX12_takesOver 66 = .ok (.aload_n 0, 1) := by decide +kernel
theorem dX12_takesOver_67 : decode cX12_takesOver 67 = .ok (.iload 4, 2) := by decide +kernel
theorem dX12_takesOver_69 : decode cX12_takesOver 69 = .ok (.iload_n 3, 1) := by decide +kernel
theorem dX12_takesOver_70 : decode cX12_takesOver 70 = .ok (.invokevirtual 317, 3) := by decide +kernel
theorem dX12_takesOver_73 : decode cX12_takesOver 73 = .ok (.goto 32, 3) := by decide +kernel
theorem dX12_takesOver_76 : decode cX12_takesOver 76 = .ok (.aload_n 0, 1) := by decide +kernel
theorem dX12_takesOver_77 : decode cX12_takesOver 77 = .ok (.getfield 119, 3) := by decide +kernel
theorem dX12_takesOver_80 : decode cX12_takesOver 80 = .ok (.iload 4, 2) := by decide +kernel
theorem dX12_takesOver_82 : decode cX12_takesOver 82 = .ok (.iaload, 1) := by decide +kernel
theorem dX12_takesOver_83 : decode cX12_takesOver 83 = .ok (.iconst 2, 1) := by decide +kernel
theorem dX12_takesOver_84 : decode cX12_takesOver 84 = .ok (.if_icmp .ne 13, 3) := by decide +kernel
theorem dX12_takesOver_87 : decode cX12_takesOver 87 = .ok (.aload_n 0, 1) := by decide +kernel
theorem dX12_takesOver_88 : decode cX12_takesOver 88 = .ok (.iload 4, 2) := by decide +kernel
theorem dX12_takesOver_90 : decode cX12_takesOver 90 = .ok (.iconst (-1), 1) := by decide +kernel
theorem dX12_takesOver_91 : decode cX12_takesOver 91 = .ok (.invokevirtual 317, 3) := by decide +kernel
theorem dX12_takesOver_94 : decode cX12_takesOver 94 = .ok (.goto 11, 3) := by decide +kernel
theorem dX12_takesOver_97 : decode cX12_takesOver 97 = .ok (.aload_n 0, 1) := by decide +kernel
theorem dX12_takesOver_98 : decode cX12_takesOver 98 = .ok (.getfield 131, 3) := by decide +kernel
theorem dX12_takesOver_101 : decode cX12_takesOver 101 = .ok (.iload 4, 2) := by decide +kernel
theorem dX12_takesOver_103 : decode cX12_takesOver 103 = .ok (.iconst 1, 1) := by decide +kernel
theorem dX12_takesOver_104 : decode cX12_takesOver 104 = .ok (.bastore, 1) := by decide +kernel
theorem dX12_takesOver_105 : decode cX12_takesOver 105 = .ok (.return_, 1) := by decide +kernel
theorem e_X12_takesOver_28 (d : Nat) {l0 l1 l3 s0 : Int} {m : Mem} {v : Int} {m' : Mem} (h : X12_takesOver_28 l0 l1 l3 s0 m = some (v, m')) : Ex (d + 1) fm_X12_takesOver 28 [(22, l0), (0, l1), (3, 0), (0, l3), (3, 0)] [(0, s0)] m (.inl (3, 0)) m' := by
  unfold X12_takesOver_28 at h
  refine x_istore (ls2 := [(22, l0), (0, l1), (3, 0), (0, l3), (0, s0)]) dX12_takesOver_28 (Nat.le_of_ble_eq_true rfl) rfl (?_ : Ex _ _ 30 _ _ _ _ _)
  refine x_iload dX12_takesOver_30 rfl (?_ : Ex _ _ 32 _ _ _ _ _)
  refine x_iconst dX12_takesOver_32 rfl (by decide) (?_ : Ex _ _ 33 _ _ _ _ _)
  rcases ite_some h with ⟨b1, h⟩ | ⟨b1, h⟩
  · refine x_icmp_neN dX12_takesOver_33 (by decide) (fun hh => hh b1) (?_ : Ex _ _ 36 _ _ _ _ _)
    cases h
    exact x_retv dX12_takesOver_36
  · refine x_icmp_ne (tgt := 37) dX12_takesOver_33 rfl b1 (?_ : Ex _ _ 37 _ _ _ _ _)
    refine x_iload_n dX12_takesOver_37 rfl rfl (?_ : Ex _ _ 38 _ _ _ _ _)
    refine x_iconst dX12_takesOver_38 rfl (by decide) (?_ : Ex _ _ 39 _ _ _ _ _)
    rcases ite_some h with ⟨b2, h⟩ | ⟨b2, h⟩
    · refine x_icmp_neN dX12_takesOver_39 (by decide) (fun hh => hh b2) (?_ : Ex _ _ 42 _ _ _ _ _)
      refine x_aload_n dX12_takesOver_42 rfl rfl (Or.inr (by decide)) (?_ : Ex _ _ 43 _ _ _ _ _)
      obtain ⟨c20, h⟩ := chk_some h
      refine gt_12_60 c20 fl_RX12_131 dX12_takesOver_43 (?_ : Ex _ _ 46 _ _ _ _ _)
      refine x_iload dX12_takesOver_46 rfl (?_ : Ex _ _ 48 _ _ _ _ _)
      refine x_iconst dX12_takesOver_48 rfl (by decide) (?_ : Ex _ _ 49 _ _ _ _ _)
      obtain ⟨⟨c21, c22, c23⟩, h⟩ := chk_some h
      obtain ⟨m24, hm24, h⟩ := st_some h
      refine sd_b_3 c21 c22 c23 (by decide) dX12_takesOver_49 (?_ : Ex _ _ 50 _ _ _ _ _)
      rw [← hm24]
      refine x_aload_n dX12_takesOver_50 rfl rfl (Or.inr (by decide)) (?_ : Ex _ _ 51 _ _ _ _ _)
      refine gt_12_61 c20 fl_RX12_134 dX12_takesOver_51 (?_ : Ex _ _ 54 _ _ _ _ _)
      refine x_iload dX12_takesOver_54 rfl (?_ : Ex _ _ 56 _ _ _ _ _)
      refine x_iconst dX12_takesOver_56 rfl (by decide) (?_ : Ex _ _ 57 _ _ _ _ _)
      obtain ⟨⟨c25, c26, c27⟩, h⟩ := chk_some h
      obtain ⟨m28, hm28, h⟩ := st_some h
      refine sd_b_3 c25 c26 c27 (by decide) dX12_takesOver_57 (?_ : Ex _ _ 58 _ _ _ _ _)
      rw [← hm28]
      refine x_goto (tgt := 105) dX12_takesOver_58 rfl (?_ : Ex _ _ 105 _ _ _ _ _)
      cases h
      exact x_retv dX12_takesOver_105
    · refine x_icmp_ne (tgt := 61) dX12_takesOver_39 rfl b2 (?_ : Ex _ _ 61 _ _ _ _ _)
      refine x_iload_n dX12_takesOver_61 rfl rfl (?_ : Ex _ _ 62 _ _ _ _ _)
      refine x_iconst dX12_takesOver_62 rfl (by decide) (?_ : Ex _ _ 63 _ _ _ _ _)
      rcases ite_some h with ⟨b3, h⟩ | ⟨b3, h⟩
      · refine x_icmp_eq (tgt := 76) dX12_takesOver_63 rfl b3 (?_ : Ex _ _ 76 _ _ _ _ _)
        refine x_aload_n dX12_takesOver_76 rfl rfl (Or.inr (by decide)) (?_ : Ex _ _ 77 _ _ _ _ _)
        obtain ⟨c4, h⟩ := chk_some h
        refine gt_12_56 c4 fl_RX12_119 dX12_takesOver_77 (?_ : Ex _ _ 80 _ _ _ _ _)
        refine x_iload dX12_takesOver_80 rfl (?_ : Ex _ _ 82 _ _ _ _ _)
        obtain ⟨⟨c5, c6, c7⟩, h⟩ := chk_some h
        refine ld_i_3 c5 c6 c7 dX12_takesOver_82 (?_ : Ex _ _ 83 _ _ _ _ _)
        refine x_iconst dX12_takesOver_83 rfl (by decide) (?_ : Ex _ _ 84 _ _ _ _ _)
        rcases ite_some h with ⟨b8, h⟩ | ⟨b8, h⟩
        · refine x_icmp_neN dX12_takesOver_84 (by decide) (fun hh => hh b8) (?_ : Ex _ _ 87 _ _ _ _ _)
          refine x_aload_n dX12_takesOver_87 rfl rfl (Or.inr (by decide)) (?_ : Ex _ _ 88 _ _ _ _ _)
          refine x_iload dX12_takesOver_88 rfl (?_ : Ex _ _ 90 _ _ _ _ _)
          refine x_iconst dX12_takesOver_90 rfl (by decide) (?_ : Ex _ _ 91 _ _ _ _ _)
          obtain ⟨v13, m14, g15, h⟩ := cal_some h
          refine cV2 (e_X12_gets d g15) (contV (?_ : Ex _ _ 94 _ _ _ _ _)) og_X12_gets rfl ml_RX12_317 12 rfl rfl c4 im_X12_gets se_X12_gets (Nat.le_of_ble_eq_true rfl) dX12_takesOver_91
          refine x_goto (tgt := 105) dX12_takesOver_94 rfl (?_ : Ex _ _ 105 _ _ _ _ _)
          cases h
          exact x_retv dX12_takesOver_105
        · refine x_icmp_ne (tgt := 97) dX12_takesOver_84 rfl b8 (?_ : Ex _ _ 97 _ _ _ _ _)
          refine x_aload_n dX12_takesOver_97 rfl rfl (Or.inr (by decide)) (?_ : Ex _ _ 98 _ _ _ _ _)
          refine gt_12_60 c4 fl_RX12_131 dX12_takesOver_98 (?_ : Ex _ _ 101 _ _ _ _ _)
          refine x_iload dX12_takesOver_101 rfl (?_ : Ex _ _ 103 _ _ _ _ _)
          refine x_iconst dX12_takesOver_103 rfl (by decide) (?_ : Ex _ _ 104 _ _ _ _ _)
          obtain ⟨⟨c9, c10, c11⟩, h⟩ := chk_some h
          obtain ⟨m12, hm12, h⟩ := st_some h
          refine sd_b_3 c9 c10 c11 (by decide) dX12_takesOver_104 (?_ : Ex _ _ 105 _ _ _ _ _)
          rw [← hm12]
          cases h
          exact x_retv dX12_takesOver_105
      · refine x_icmp_eqN dX12_takesOver_63 (by decide) b3 (?_ : Ex _ _ 66 _ _ _ _ _)
        refine x_aload_n dX12_takesOver_66 rfl rfl (Or.inr (by decide)) (?_ : Ex _ _ 67 _ _ _ _ _)
        refine x_iload dX12_takesOver_67 rfl (?_ : Ex _ _ 69 _ _ _ _ _)
        refine x_iload_n dX12_takesOver_69 rfl rfl (?_ : Ex _ _ 70 _ _ _ _ _)
        obtain ⟨c16, h⟩ := chk_some h
        obtain ⟨v17, m18, g19, h⟩ := cal_some h
        refine cV2 (e_X12_gets d g19) (contV (?_ : Ex _ _ 73 _ _ _ _ _)) og_X12_gets rfl ml_RX12_317 12 rfl rfl c16 im_X12_gets se_X12_gets (Nat.le_of_ble_eq_true rfl) dX12_takesOver_70
        refine x_goto (tgt := 105) dX12_takesOver_73 rfl (?_ : Ex _ _ 105 _ _ _ _ _)
        cases h
        exact x_retv dX12_takesOver_105
theorem e_X12_takesOver_24 (d : Nat) {l0 l1 l2 l3 s0 s1 : Int} {m : Mem} {v : Int} {m' : Mem} (h : X12_takesOver_24 l0 l1 l2 l3 s0 s1 m = some (v, m')) : Ex (d + 1) fm_X12_takesOver 24 [(22, l0), (0, l1), (0, l2), (0, l3), (3, 0)] [(0, s0), (22, s1)] m (.inl (3, 0)) m' := by
  unfold X12_takesOver_24 at h
  refine x_iload_n dX12_takesOver_24 rfl rfl (?_ : Ex _ _ 25 _ _ _ _ _)
  obtain ⟨c1, h⟩ := chk_some h
  obtain ⟨v2, m3, g4, h⟩ := cal_some h
  refine cV2 (e_X12_waiting d g4) (contN (by decide) (?_ : Ex _ _ 28 _ _ _ _ _)) og_X12_waiting rfl ml_RX12_365 12 rfl rfl c1 im_X12_waiting se_X12_waiting (Nat.le_of_ble_eq_true rfl) dX12_takesOver_25
  refine Ex.wk (ls2 := [(22, l0), (0, l1), (3, 0), (0, l3), (3, 0)]) ⟨Or.inr rfl, Or.inr rfl, Or.inl rfl, Or.inr rfl, Or.inl rfl, trivial⟩ ?_
  exact e_X12_takesOver_28 d h
theorem e_X12_takesOver_0 (d : Nat) {l0 l1 l2 l3 : Int} {m : Mem} {v : Int} {m' : Mem} (h : X12_takesOver_0 l0 l1 l2 l3 m = some (v, m')) : Ex (d + 1) fm_X12_takesOver 0 [(22, l0), (0, l1), (0, l2), (0, l3), (3, 0)] [] m (.inl (3, 0)) m' := by
  unfold X12_takesOver_0 at h
  refine x_iload_n dX12_takesOver_0 rfl rfl (?_ : Ex _ _ 1 _ _ _ _ _)
  refine x_iconst dX12_takesOver_1 rfl (by decide) (?_ : Ex _ _ 2 _ _ _ _ _)
  rcases ite_some h with ⟨b1, h⟩ | ⟨b1, h⟩
  · refine x_icmp_neN dX12_takesOver_2 (by decide) (fun hh => hh b1) (?_ : Ex _ _ 5 _ _ _ _ _)
    refine x_aload_n dX12_takesOver_5 rfl rfl (Or.inr (by decide)) (?_ : Ex _ _ 6 _ _ _ _ _)
    refine x_iload_n dX12_takesOver_6 rfl rfl (?_ : Ex _ _ 7 _ _ _ _ _)
    obtain ⟨c3, h⟩ := chk_some h
    obtain ⟨v4, m5, g6, h⟩ := cal_some h
    refine cV1 (e_X12_waitingTimer d g6) (contN (by decide) (?_ : Ex _ _ 10 _ _ _ _ _)) og_X12_waitingTimer rfl ml_RX12_362 12 rfl rfl c3 im_X12_waitingTimer se_X12_waitingTimer (Nat.le_of_ble_eq_true rfl) dX12_takesOver_7
    refine x_goto (tgt := 28) dX12_takesOver_10 rfl (?_ : Ex _ _ 28 _ _ _ _ _)
    refine Ex.wk (ls2 := [(22, l0), (0, l1), (3, 0), (0, l3), (3, 0)]) ⟨Or.inr rfl, Or.inr rfl, Or.inl rfl, Or.inr rfl, Or.inl rfl, trivial⟩ ?_
    exact e_X12_takesOver_28 d h
  · refine x_icmp_ne (tgt := 13) dX12_takesOver_2 rfl b1 (?_ : Ex _ _ 13 _ _ _ _ _)
    refine x_aload_n dX12_takesOver_13 rfl rfl (Or.inr (by decide)) (?_ : Ex _ _ 14 _ _ _ _ _)
    refine x_iload_n dX12_takesOver_14 rfl rfl (?_ : Ex _ _ 15 _ _ _ _ _)
    refine x_iconst dX12_takesOver_15 rfl (by decide) (?_ : Ex _ _ 16 _ _ _ _ _)
    rcases ite_some h with ⟨b2, h⟩ | ⟨b2, h⟩
    · refine x_icmp_neN dX12_takesOver_16 (by decide) (fun hh => hh b2) (?_ : Ex _ _ 19 _ _ _ _ _)
      refine x_iconst dX12_takesOver_19 rfl (by decide) (?_ : Ex _ _ 20 _ _ _ _ _)
      refine x_goto (tgt := 24) dX12_takesOver_20 rfl (?_ : Ex _ _ 24 _ _ _ _ _)
      exact e_X12_takesOver_24 d h
    · refine x_icmp_ne (tgt := 23) dX12_takesOver_16 rfl b2 (?_ : Ex _ _ 23 _ _ _ _ _)
      refine x_iconst dX12_takesOver_23 rfl (by decide) (?_ : Ex _ _ 24 _ _ _ _ _)
      exact e_X12_takesOver_24 d h
theorem e_X12_takesOver (d : Nat) {a0 a1 a2 a3 : Int} {m : Mem} {v : Int} {m' : Mem} (h : X12_takesOver a0 a1 a2 a3 m = some (v, m')) : ExM (d + 1) fm_X12_takesOver [(22, a0), (0, a1), (0, a2), (0, a3)] m (.inl (3, 0)) m' := by
  exact ExM.of (by decide +kernel) (Nat.le_of_ble_eq_true rfl) (cat9 rfl) retV (e_X12_takesOver_0 d h)
theorem dX12_takes_0 : decode cX12_takes 0 = .ok (.aload_n 0, 1) := by decide +kernel
theorem dX12_takes_1 : decode cX12_takes 1 = .ok (.iconst 0, 1) := by decide +kernel
theorem dX12_takes_2 : decode cX12_takes 2 = .ok (.putfield 249, 3) := by decide +kernel
theorem dX12_takes_5 : decode cX12_takes 5 = .ok (.iload_n 1, 1) := by decide +kernel
theorem dX12_takes_6 : decode cX12_takes 6 = .ok (.ifCond .ne 11, 3) := by decide +kernel
theorem dX12_takes_9 : decode cX12_takes 9 = .ok (.aload_n 0, 1) := by decide +kernel
theorem dX12_takes_10 : decode cX12_takes 10 = .ok (.iload_n 2, 1) := by decide +kernel
theorem dX12_takes_11 : decode cX12_takes 11 = .ok (.putfield 240, 3) := by decide +kernel
theorem dX12_takes_14 : decode cX12_takes 14 = .ok (.goto 103, 3) := by decide +kernel
theorem dX12_takes_17 : decode cX12_takes 17 = .ok (.iload_n 1, 1) := by decide +kernel
theorem dX12_takes_18 : decode cX12_takes 18 = .ok (.iconst 4, 1) := by decide +kernel
theorem dX12_takes_19 : decode cX12_takes 19 = .ok (.if_icmp .ne 12, 3) := by decide +kernel
theorem dX12_takes_22 : decode cX12_takes 22 = .ok (.aload_n 0, 1) := by decide +kernel
theorem dX12_takes_23 : decode cX12_takes 23 = .ok (.iload_n 2, 1) := by decide +kernel
theorem dX12_takes_24 : decode cX12_takes 24 = .ok (.iload_n 3, 1) := by decide +kernel
theorem dX12_takes_25 : decode cX12_takes 25 = .ok (.invokevirtual 368, 3) := by decide +kernel
theorem dX12_takes_28 : decode cX12_takes 28 = .ok (.goto 89, 3) := by decide +kernel
theorem dX12_takes_31 : decode cX12_takes 31 = .ok (.iload_n 1, 1) := by decide +kernel
theorem dX12_takes_32 : decode cX12_takes 32 = .ok (.bipush 6, 2) := by decide +kernel
theorem dX12_takes_34 : decode cX12_takes 34 = .ok (.if_icmp .ne 36, 3) := by decide +kernel
theorem dX12_takes_37 : decode cX12_takes 37 = .ok (.aload_n 0, 1) := by decide +kernel
theorem dX12_takes_38 : decode cX12_takes 38 = .ok (.iconst 1, 1) := by decide +kernel
theorem dX12_takes_39 : decode cX12_takes 39 = .ok (.putfield 259, 3) := by decide +kernel
theorem dX12_takes_42 : decode cX12_takes 42 = .ok (.aload_n 0, 1) := by decide +kernel
theorem dX12_takes_43 : decode cX12_takes 43 = .ok (.getfield 243, 3) := by decide +kernel
theorem dX12_takes_46 : decode cX12_takes 46 = .ok (.ifCond .ne 71, 3) := by decide +kernel
theorem dX12_takes_49 : decode cX12_takes 49 = .ok (.aload_n 0, 1) := by decide +kernel
theorem dX12_takes_50 : decode cX12_takes 50 = .ok (.getfield 274, 3) := by decide +kernel
theorem dX12_takes_53 : decode cX12_takes 53 = .ok (.ifCond .le 64, 3) := by decide +kernel
theorem dX12_takes_56 : decode cX12_takes 56 = .ok (.aload_n 0, 1) := by decide +kernel
theorem dX12_takes_57 : decode cX12_takes 57 = .ok (.getfield 255, 3) := by decide +kernel
theorem dX12_takes_60 : decode cX12_takes 60 = .ok (.ifCond .ne 57, 3) := by decide +kernel
theorem dX12_takes_63 : decode cX12_takes 63 = .ok (.aload_n 0, 1) := by decide +kernel
theorem dX12_takes_64 : decode cX12_takes 64 = .ok (.invokevirtual 371, 3) := by decide +kernel
theorem dX12_takes_67 : decode cX12_takes 67 = .ok (.goto 50, 3) := by decide +kernel
theorem dX12_takes_70 : decode cX12_takes 70 = .ok (.aload_n 0, 1) := by decide +kernel
theorem dX12_takes_71 : decode cX12_takes 71 = .ok (.getfield 243, 3) := by decide +kernel
theorem dX12_takes_74 : decode cX12_takes 74 = .ok (.iconst 1, 1) := by decide +kernel
theorem dX12_takes_75 : decode cX12_takes 75 = .ok (.if_icmp .ne 28, 3) := by decide +kernel
theorem dX12_takes_78 : decode cX12_takes 78 = .ok (.iload_n 1, 1) := by decide +kernel
theorem dX12_takes_79 : decode cX12_takes 79 = .ok (.iconst 1, 1) := by decide +kernel
theorem dX12_takes_80 : decode cX12_takes 80 = .ok (.if_icmp .eq 8, 3) := by decide +kernel
theorem dX12_takes_83 : decode cX12_takes 83 = .ok (.iload_n 1, 1) := by decide +kernel
theorem dX12_takes_84 : decode cX12_takes 84 = .ok (.iconst 2, 1) := by decide +kernel
theorem dX12_takes_85 : decode cX12_takes 85 = .ok (.if_icmp .ne 18, 3) := by decide +kernel
theorem dX12_takes_88 : decode cX12_takes 88 = .ok (.iload_n 2, 1) := by decide +kernel
theorem dX12_takes_89 : decode cX12_takes 89 = .ok (.aload_n 0, 1) := by decide +kernel
theorem dX12_takes_90 : decode cX12_takes 90 = .ok (.getfield 296, 3) := by decide +kernel
theorem dX12_takes_93 : decode cX12_takes 93 = .ok (.if_icmp .ne 10, 3) := by decide +kernel
theorem dX12_takes_96 : decode cX12_takes 96 = .ok (.aload_n 0, 1) := by decide +kernel
theorem dX12_takes_97 : decode cX12_takes 97 = .ok (.invokevirtual 301, 3) := by decide +kernel
theorem dX12_takes_100 : decode cX12_takes 100 = .ok (.goto 17, 3) := by decide +kernel
theorem dX12_takes_103 : decode cX12_takes 103 = .ok (.aload_n 0, 1) := by decide +kernel
theorem dX12_takes_104 : decode cX12_takes 104 = .ok (.getfield 243, 3) := by decide +kernel
theorem dX12_takes_107 : decode cX12_takes 107 = .ok (.ifCond .ne 10, 3) := by decide +kernel
theorem dX12_takes_110 : decode cX12_takes 110 = .ok (.aload_n 0, 1) := by decide +kernel
theorem dX12_takes_111 : decode cX12_takes 111 = .ok (.iload_n 1, 1) := by decide +kernel
theorem dX12_takes_112 : decode cX12_takes 112 = .ok (.iload_n 2, 1) := by decide +kernel
theorem dX12_takes_113 : decode cX12_takes 113 = .ok (.iload_n 3, 1) := by decide +kernel
theorem dX12_takes_114 : decode cX12_takes 114 = .ok (.invokevirtual 374, 3) := by decide +kernel
theorem dX12_takes_117 : decode cX12_takes 117 = .ok (.aload_n 0, 1) := by decide +kernel
theorem dX12_takes_118 : decode cX12_takes 118 = .ok (.getfield 243, 3) := by decide +kernel
theorem dX12_takes_121 : decode cX12_takes 121 = .ok (.ifCond .ne 21, 3) := by decide +kernel
theorem dX12_takes_124 : decode cX12_takes 124 = .ok (.aload_n 0, 1) := by decide +kernel
theorem dX12_takes_125 : decode cX12_takes 125 = .ok (.getfield 274, 3) := by decide +kernel
theorem dX12_takes_128 : decode cX12_takes 128 = .ok (.ifCond .le 14, 3) := by decide +kernel
theorem dX12_takes_131 : decode cX12_takes 131 = .ok (.aload_n 0, 1) := by decide +kernel
theorem dX12_takes_132 : decode cX12_takes 132 = .ok (.invokevirtual 326, 3) := by decide +kernel
theorem dX12_takes_135 : decode cX12_takes 135 = .ok (.ifCond .eq 7, 3) := by decide +kernel
theorem dX12_takes_138 : decode cX12_takes 138 = .ok (.aload_n 0, 1) := by decide +kernel
theorem dX12_takes_139 : decode cX12_takes 139 = .ok (.invokevirtual 330, 3) := by decide +kernel
theorem dX12_takes_142 : decode cX12_takes 142 = .ok (.aload_n 0, 1) := by decide +kernel
theorem dX12_takes_143 : decode cX12_takes 143 = .ok (.invokevirtual 377, 3) := by decide +kernel
theorem dX12_takes_146 : decode cX12_takes 146 = .ok (.return_, 1) := by decide +kernel
theorem e_X12_takes_142 (d : Nat) {l0 : Int} {m : Mem} {v : Int} {m' : Mem} (h : X12_takes_142 l0 m = some (v, m')) : Ex (d + 8) fm_X12_takes 142 [(22, l0), (3, 0), (3, 0), (3, 0)] [] m (.inl (3, 0)) m' := by
  unfold X12_takes_142 at h
  refine x_aload_n dX12_takes_142 rfl rfl (Or.inr (by decide)) (?_ : Ex _ _ 143 _ _ _ _ _)
  obtain ⟨c1, h⟩ := chk_some h
  obtain ⟨v2, m3, g4, h⟩ := cal_some h
  refine cV0 (e_X12_goesOn d g4) (contV (?_ : Ex _ _ 146 _ _ _ _ _)) og_X12_goesOn rfl ml_RX12_377 12 rfl rfl c1 im_X12_goesOn se_X12_goesOn (Nat.le_of_ble_eq_true rfl) dX12_takes_143
  cases h
  exact x_retv dX12_takes_146
theorem e_X12_takes_117 (d : Nat) {l0 : Int} {m : Mem} {v : Int} {m' : Mem} (h : X12_takes_117 l0 m = some (v, m')) : Ex (d + 8) fm_X12_takes 117 [(22, l0), (3, 0), (3, 0), (3, 0)] [] m (.inl (3, 0)) m' := by
  unfold X12_takes_117 at h
  refine x_aload_n dX12_takes_117 rfl rfl (Or.inr (by decide)) (?_ : Ex _ _ 118 _ _ _ _ _)
  obtain ⟨c1, h⟩ := chk_some h
  refine gt_12_42 c1 fl_RX12_243 dX12_takes_118 (?_ : Ex _ _ 121 _ _ _ _ _)
  rcases ite_some h with ⟨b2, h⟩ | ⟨b2, h⟩
  · refine x_if_neN dX12_takes_121 (by decide) (fun hh => hh b2) (?_ : Ex _ _ 124 _ _ _ _ _)
    refine x_aload_n dX12_takes_124 rfl rfl (Or.inr (by decide)) (?_ : Ex _ _ 125 _ _ _ _ _)
    refine gt_12_55 c1 fl_RX12_274 dX12_takes_125 (?_ : Ex _ _ 128 _ _ _ _ _)
    rcases ite_some h with ⟨b3, h⟩ | ⟨b3, h⟩
    · refine x_if_le (tgt := 142) dX12_takes_128 rfl b3 (?_ : Ex _ _ 142 _ _ _ _ _)
      exact e_X12_takes_142 d h
    · refine x_if_leN dX12_takes_128 (by decide) b3 (?_ : Ex _ _ 131 _ _ _ _ _)
      refine x_aload_n dX12_takes_131 rfl rfl (Or.inr (by decide)) (?_ : Ex _ _ 132 _ _ _ _ _)
      obtain ⟨v4, m5, g6, h⟩ := cal_some h
      refine cV0 (e_X12_areDone (d + 7) g6) (contN (by decide) (?_ : Ex _ _ 135 _ _ _ _ _)) og_X12_areDone rfl ml_RX12_326 12 rfl rfl c1 im_X12_areDone se_X12_areDone (Nat.le_of_ble_eq_true rfl) dX12_takes_132
      rcases ite_some h with ⟨b7, h⟩ | ⟨b7, h⟩
      · refine x_if_eq (tgt := 142) dX12_takes_135 rfl b7 (?_ : Ex _ _ 142 _ _ _ _ _)
        exact e_X12_takes_142 d h
      · refine x_if_eqN dX12_takes_135 (by decide) b7 (?_ : Ex _ _ 138 _ _ _ _ _)
        refine x_aload_n dX12_takes_138 rfl rfl (Or.inr (by decide)) (?_ : Ex _ _ 139 _ _ _ _ _)
        obtain ⟨v8, m9, g10, h⟩ := cal_some h
        refine cV0 (e_X12_finishes (d + 3) g10) (contV (?_ : Ex _ _ 142 _ _ _ _ _)) og_X12_finishes rfl ml_RX12_330 12 rfl rfl c1 im_X12_finishes se_X12_finishes (Nat.le_of_ble_eq_true rfl) dX12_takes_139
        exact e_X12_takes_142 d h
  · refine x_if_ne (tgt := 142) dX12_takes_121 rfl b2 (?_ : Ex _ _ 142 _ _ _ _ _)
    exact e_X12_takes_142 d h
theorem e_X12_takes_103 (d : Nat) {l0 l1 l2 l3 : Int} {m : Mem} {v : Int} {m' : Mem} (h : X12_takes_103 l0 l1 l2 l3 m = some (v, m')) : Ex (d + 8) fm_X12_takes 103 [(22, l0), (0, l1), (0, l2), (0, l3)] [] m (.inl (3, 0)) m' := by
  unfold X12_takes_103 at h
  refine x_aload_n dX12_takes_103 rfl rfl (Or.inr (by decide)) (?_ : Ex _ _ 104 _ _ _ _ _)
  obtain ⟨c1, h⟩ := chk_some h
  refine gt_12_42 c1 fl_RX12_243 dX12_takes_104 (?_ : Ex _ _ 107 _ _ _ _ _)
  rcases ite_some h with ⟨b2, h⟩ | ⟨b2, h⟩
  · refine x_if_neN dX12_takes_107 (by decide) (fun hh => hh b2) (?_ : Ex _ _ 110 _ _ _ _ _)
    refine x_aload_n dX12_takes_110 rfl rfl (Or.inr (by decide)) (?_ : Ex _ _ 111 _ _ _ _ _)
    refine x_iload_n dX12_takes_111 rfl rfl (?_ : Ex _ _ 112 _ _ _ _ _)
    refine x_iload_n dX12_takes_112 rfl rfl (?_ : Ex _ _ 113 _ _ _ _ _)
    refine x_iload_n dX12_takes_113 rfl rfl (?_ : Ex _ _ 114 _ _ _ _ _)
    obtain ⟨v3, m4, g5, h⟩ := cal_some h
    refine cV3 (e_X12_takesOver (d + 6) g5) (contV (?_ : Ex _ _ 117 _ _ _ _ _)) og_X12_takesOver rfl ml_RX12_374 12 rfl rfl c1 im_X12_takesOver se_X12_takesOver (Nat.le_of_ble_eq_true rfl) dX12_takes_114
    refine Ex.wk (ls2 := [(22, l0), (3, 0), (3, 0), (3, 0)]) ⟨Or.inr rfl, Or.inl rfl, Or.inl rfl, Or.inl rfl, trivial⟩ ?_
    exact e_X12_takes_117 d h
  · refine x_if_ne (tgt := 117) dX12_takes_107 rfl b2 (?_ : Ex _ _ 117 _ _ _ _ _)
    refine Ex.wk (ls2 := [(22, l0), (3, 0), (3, 0), (3, 0)]) ⟨Or.inr rfl, Or.inl rfl, Or.inl rfl, Or.inl rfl, trivial⟩ ?_
    exact e_X12_takes_117 d h
theorem e_X12_takes_88 (d : Nat) {l0 l1 l2 l3 : Int} {m : Mem} {v : Int} {m' : Mem} (h : X12_takes_88 l0 l1 l2 l3 m = some (v, m')) : Ex (d + 8) fm_X12_takes 88 [(22, l0), (0, l1), (0, l2), (0, l3)] [] m (.inl (3, 0)) m' := by
  unfold X12_takes_88 at h
  refine x_iload_n dX12_takes_88 rfl rfl (?_ : Ex _ _ 89 _ _ _ _ _)
  refine x_aload_n dX12_takes_89 rfl rfl (Or.inr (by decide)) (?_ : Ex _ _ 90 _ _ _ _ _)
  obtain ⟨c1, h⟩ := chk_some h
  refine gt_12_54 c1 fl_RX12_296 dX12_takes_90 (?_ : Ex _ _ 93 _ _ _ _ _)
  rcases ite_some h with ⟨b2, h⟩ | ⟨b2, h⟩
  · refine x_icmp_neN dX12_takes_93 (by decide) (fun hh => hh b2) (?_ : Ex _ _ 96 _ _ _ _ _)
    refine x_aload_n dX12_takes_96 rfl rfl (Or.inr (by decide)) (?_ : Ex _ _ 97 _ _ _ _ _)
    obtain ⟨v3, m4, g5, h⟩ := cal_some h
    refine cV0 (e_X12_undoesNext (d + 5) g5) (contV (?_ : Ex _ _ 100 _ _ _ _ _)) og_X12_undoesNext rfl ml_RX12_301 12 rfl rfl c1 im_X12_undoesNext se_X12_undoesNext (Nat.le_of_ble_eq_true rfl) dX12_takes_97
    refine x_goto (tgt := 117) dX12_takes_100 rfl (?_ : Ex _ _ 117 _ _ _ _ _)
    refine Ex.wk (ls2 := [(22, l0), (3, 0), (3, 0), (3, 0)]) ⟨Or.inr rfl, Or.inl rfl, Or.inl rfl, Or.inl rfl, trivial⟩ ?_
    exact e_X12_takes_117 d h
  · refine x_icmp_ne (tgt := 103) dX12_takes_93 rfl b2 (?_ : Ex _ _ 103 _ _ _ _ _)
    exact e_X12_takes_103 d h
theorem e_X12_takes_0 (d : Nat) {l0 l1 l2 l3 : Int} {m : Mem} {v : Int} {m' : Mem} (h : X12_takes_0 l0 l1 l2 l3 m = some (v, m')) : Ex (d + 8) fm_X12_takes 0 [(22, l0), (0, l1), (0, l2), (0, l3)] [] m (.inl (3, 0)) m' := by
  unfold X12_takes_0 at h
  refine x_aload_n dX12_takes_0 rfl rfl (Or.inr (by decide)) (?_ : Ex _ _ 1 _ _ _ _ _)
  refine x_iconst dX12_takes_1 rfl (by decide) (?_ : Ex _ _ 2 _ _ _ _ _)
  obtain ⟨c1, h⟩ := chk_some h
  obtain ⟨m2, hm2, h⟩ := st_some h
  refine pt_12_44  c1 fl_RX12_249 dX12_takes_2 (?_ : Ex _ _ 5 _ _ _ _ _)
  rw [← hm2]
  refine x_iload_n dX12_takes_5 rfl rfl (?_ : Ex _ _ 6 _ _ _ _ _)
  rcases ite_some h with ⟨b3, h⟩ | ⟨b3, h⟩
  · refine x_if_neN dX12_takes_6 (by decide) (fun hh => hh b3) (?_ : Ex _ _ 9 _ _ _ _ _)
    refine x_aload_n dX12_takes_9 rfl rfl (Or.inr (by decide)) (?_ : Ex _ _ 10 _ _ _ _ _)
    refine x_iload_n dX12_takes_10 rfl rfl (?_ : Ex _ _ 11 _ _ _ _ _)
    obtain ⟨m19, hm19, h⟩ := st_some h
    refine pt_12_41  c1 fl_RX12_240 dX12_takes_11 (?_ : Ex _ _ 14 _ _ _ _ _)
    rw [← hm19]
    refine x_goto (tgt := 117) dX12_takes_14 rfl (?_ : Ex _ _ 117 _ _ _ _ _)
    refine Ex.wk (ls2 := [(22, l0), (3, 0), (3, 0), (3, 0)]) ⟨Or.inr rfl, Or.inl rfl, Or.inl rfl, Or.inl rfl, trivial⟩ ?_
    exact e_X12_takes_117 d h
  · refine x_if_ne (tgt := 17) dX12_takes_6 rfl b3 (?_ : Ex _ _ 17 _ _ _ _ _)
    refine x_iload_n dX12_takes_17 rfl rfl (?_ : Ex _ _ 18 _ _ _ _ _)
    refine x_iconst dX12_takes_18 rfl (by decide) (?_ : Ex _ _ 19 _ _ _ _ _)
    rcases ite_some h with ⟨b4, h⟩ | ⟨b4, h⟩
    · refine x_icmp_neN dX12_takes_19 (by decide) (fun hh => hh b4) (?_ : Ex _ _ 22 _ _ _ _ _)
      refine x_aload_n dX12_takes_22 rfl rfl (Or.inr (by decide)) (?_ : Ex _ _ 23 _ _ _ _ _)
      refine x_iload_n dX12_takes_23 rfl rfl (?_ : Ex _ _ 24 _ _ _ _ _)
      refine x_iload_n dX12_takes_24 rfl rfl (?_ : Ex _ _ 25 _ _ _ _ _)
      obtain ⟨v16, m17, g18, h⟩ := cal_some h
      refine cV2 (e_X12_takesSignal (d + 6) g18) (contV (?_ : Ex _ _ 28 _ _ _ _ _)) og_X12_takesSignal rfl ml_RX12_368 12 rfl rfl c1 im_X12_takesSignal se_X12_takesSignal (Nat.le_of_ble_eq_true rfl) dX12_takes_25
      refine x_goto (tgt := 117) dX12_takes_28 rfl (?_ : Ex _ _ 117 _ _ _ _ _)
      refine Ex.wk (ls2 := [(22, l0), (3, 0), (3, 0), (3, 0)]) ⟨Or.inr rfl, Or.inl rfl, Or.inl rfl, Or.inl rfl, trivial⟩ ?_
      exact e_X12_takes_117 d h
    · refine x_icmp_ne (tgt := 31) dX12_takes_19 rfl b4 (?_ : Ex _ _ 31 _ _ _ _ _)
      refine x_iload_n dX12_takes_31 rfl rfl (?_ : Ex _ _ 32 _ _ _ _ _)
      refine x_bipush dX12_takes_32 kb_6 (by decide) (?_ : Ex _ _ 34 _ _ _ _ _)
      rcases ite_some h with ⟨b5, h⟩ | ⟨b5, h⟩
      · refine x_icmp_neN dX12_takes_34 (by decide) (fun hh => hh b5) (?_ : Ex _ _ 37 _ _ _ _ _)
        refine x_aload_n dX12_takes_37 rfl rfl (Or.inr (by decide)) (?_ : Ex _ _ 38 _ _ _ _ _)
        refine x_iconst dX12_takes_38 rfl (by decide) (?_ : Ex _ _ 39 _ _ _ _ _)
        obtain ⟨m9, hm9, h⟩ := st_some h
        refine pt_12_47  c1 (by decide) fl_RX12_259 dX12_takes_39 (?_ : Ex _ _ 42 _ _ _ _ _)
        rw [← hm9]
        refine x_aload_n dX12_takes_42 rfl rfl (Or.inr (by decide)) (?_ : Ex _ _ 43 _ _ _ _ _)
        refine gt_12_42 c1 fl_RX12_243 dX12_takes_43 (?_ : Ex _ _ 46 _ _ _ _ _)
        rcases ite_some h with ⟨b10, h⟩ | ⟨b10, h⟩
        · refine x_if_neN dX12_takes_46 (by decide) (fun hh => hh b10) (?_ : Ex _ _ 49 _ _ _ _ _)
          refine x_aload_n dX12_takes_49 rfl rfl (Or.inr (by decide)) (?_ : Ex _ _ 50 _ _ _ _ _)
          refine gt_12_55 c1 fl_RX12_274 dX12_takes_50 (?_ : Ex _ _ 53 _ _ _ _ _)
          rcases ite_some h with ⟨b11, h⟩ | ⟨b11, h⟩
          · refine x_if_le (tgt := 117) dX12_takes_53 rfl b11 (?_ : Ex _ _ 117 _ _ _ _ _)
            refine Ex.wk (ls2 := [(22, l0), (3, 0), (3, 0), (3, 0)]) ⟨Or.inr rfl, Or.inl rfl, Or.inl rfl, Or.inl rfl, trivial⟩ ?_
            exact e_X12_takes_117 d h
          · refine x_if_leN dX12_takes_53 (by decide) b11 (?_ : Ex _ _ 56 _ _ _ _ _)
            refine x_aload_n dX12_takes_56 rfl rfl (Or.inr (by decide)) (?_ : Ex _ _ 57 _ _ _ _ _)
            refine gt_12_46 c1 fl_RX12_255 dX12_takes_57 (?_ : Ex _ _ 60 _ _ _ _ _)
            rcases ite_some h with ⟨b12, h⟩ | ⟨b12, h⟩
            · refine x_if_neN dX12_takes_60 (by decide) (fun hh => hh b12) (?_ : Ex _ _ 63 _ _ _ _ _)
              refine x_aload_n dX12_takes_63 rfl rfl (Or.inr (by decide)) (?_ : Ex _ _ 64 _ _ _ _ _)
              obtain ⟨v13, m14, g15, h⟩ := cal_some h
              refine cV0 (e_X12_cuts (d + 3) g15) (contV (?_ : Ex _ _ 67 _ _ _ _ _)) og_X12_cuts rfl ml_RX12_371 12 rfl rfl c1 im_X12_cuts se_X12_cuts (Nat.le_of_ble_eq_true rfl) dX12_takes_64
              refine x_goto (tgt := 117) dX12_takes_67 rfl (?_ : Ex _ _ 117 _ _ _ _ _)
              refine Ex.wk (ls2 := [(22, l0), (3, 0), (3, 0), (3, 0)]) ⟨Or.inr rfl, Or.inl rfl, Or.inl rfl, Or.inl rfl, trivial⟩ ?_
              exact e_X12_takes_117 d h
            · refine x_if_ne (tgt := 117) dX12_takes_60 rfl b12 (?_ : Ex _ _ 117 _ _ _ _ _)
              refine Ex.wk (ls2 := [(22, l0), (3, 0), (3, 0), (3, 0)]) ⟨Or.inr rfl, Or.inl rfl, Or.inl rfl, Or.inl rfl, trivial⟩ ?_
              exact e_X12_takes_117 d h
        · refine x_if_ne (tgt := 117) dX12_takes_46 rfl b10 (?_ : Ex _ _ 117 _ _ _ _ _)
          refine Ex.wk (ls2 := [(22, l0), (3, 0), (3, 0), (3, 0)]) ⟨Or.inr rfl, Or.inl rfl, Or.inl rfl, Or.inl rfl, trivial⟩ ?_
          exact e_X12_takes_117 d h
      · refine x_icmp_ne (tgt := 70) dX12_takes_34 rfl b5 (?_ : Ex _ _ 70 _ _ _ _ _)
        refine x_aload_n dX12_takes_70 rfl rfl (Or.inr (by decide)) (?_ : Ex _ _ 71 _ _ _ _ _)
        refine gt_12_42 c1 fl_RX12_243 dX12_takes_71 (?_ : Ex _ _ 74 _ _ _ _ _)
        refine x_iconst dX12_takes_74 rfl (by decide) (?_ : Ex _ _ 75 _ _ _ _ _)
        rcases ite_some h with ⟨b6, h⟩ | ⟨b6, h⟩
        · refine x_icmp_neN dX12_takes_75 (by decide) (fun hh => hh b6) (?_ : Ex _ _ 78 _ _ _ _ _)
          refine x_iload_n dX12_takes_78 rfl rfl (?_ : Ex _ _ 79 _ _ _ _ _)
          refine x_iconst dX12_takes_79 rfl (by decide) (?_ : Ex _ _ 80 _ _ _ _ _)
          rcases ite_some h with ⟨b7, h⟩ | ⟨b7, h⟩
          · refine x_icmp_eq (tgt := 88) dX12_takes_80 rfl b7 (?_ : Ex _ _ 88 _ _ _ _ _)
            exact e_X12_takes_88 d h
          · refine x_icmp_eqN dX12_takes_80 (by decide) b7 (?_ : Ex _ _ 83 _ _ _ _ _)
            refine x_iload_n dX12_takes_83 rfl rfl (?_ : Ex _ _ 84 _ _ _ _ _)
            refine x_iconst dX12_takes_84 rfl (by decide) (?_ : Ex _ _ 85 _ _ _ _ _)
            rcases ite_some h with ⟨b8, h⟩ | ⟨b8, h⟩
            · refine x_icmp_neN dX12_takes_85 (by decide) (fun hh => hh b8) (?_ : Ex _ _ 88 _ _ _ _ _)
              exact e_X12_takes_88 d h
            · refine x_icmp_ne (tgt := 103) dX12_takes_85 rfl b8 (?_ : Ex _ _ 103 _ _ _ _ _)
              exact e_X12_takes_103 d h
        · refine x_icmp_ne (tgt := 103) dX12_takes_75 rfl b6 (?_ : Ex _ _ 103 _ _ _ _ _)
          exact e_X12_takes_103 d h
theorem e_X12_takes (d : Nat) {a0 a1 a2 a3 : Int} {m : Mem} {v : Int} {m' : Mem} (h : X12_takes a0 a1 a2 a3 m = some (v, m')) : ExM (d + 8) fm_X12_takes [(22, a0), (0, a1), (0, a2), (0, a3)] m (.inl (3, 0)) m' := by
  exact ExM.of (by decide +kernel) (Nat.le_of_ble_eq_true rfl) (cat9 rfl) retV (e_X12_takes_0 d h)
theorem dX12_takesAll_0 : decode cX12_takesAll 0 = .ok (.aload_n 0, 1) := by decide +kernel
theorem dX12_takesAll_1 : decode cX12_takesAll 1 = .ok (.iconst 0, 1) := by decide +kernel
theorem dX12_takesAll_2 : decode cX12_takesAll 2 = .ok (.putfield 283, 3) := by decide +kernel
theorem dX12_takesAll_5 : decode cX12_takesAll 5 = .ok (.iload_n 1, 1) := by decide +kernel
theorem dX12_takesAll_6 : decode cX12_takesAll 6 = .ok (.istore_n 3, 1) := by decide +kernel
theorem dX12_takesAll_7 : decode cX12_takesAll 7 = .ok (.iload_n 3, 1) := by decide +kernel
theorem dX12_takesAll_8 : decode cX12_takesAll 8 = .ok (.iload_n 2, 1) := by decide +kernel
theorem dX12_takesAll_9 : decode cX12_takesAll 9 = .ok (.if_icmp .ge 42, 3) := by decide +kernel
theorem dX12_takesAll_12 : decode cX12_takesAll 12 = .ok (.aload_n 0, 1) := by decide +kernel
theorem dX12_takesAll_13 : decode cX12_takesAll 13 = .ok (.getfield 58, 3) := by decide +kernel
theorem dX12_takesAll_16 : decode cX12_takesAll 16 = .ok (.iload_n 3, 1) := by decide +kernel
theorem dX12_takesAll_17 : decode cX12_takesAll 17 = .ok (.iaload, 1) := by decide +kernel
theorem dX12_takesAll_18 : decode cX12_takesAll 18 = .ok (.bipush 7, 2) := by decide +kernel
theorem dX12_takesAll_20 : decode cX12_takesAll 20 = .ok (.if_icmp .ge 25, 3) := by decide +kernel
theorem dX12_takesAll_23 : decode cX12_takesAll 23 = .ok (.aload_n 0, 1) := by decide +kernel
theorem dX12_takesAll_24 : decode cX12_takesAll 24 = .ok (.aload_n 0, 1) := by decide +kernel
theorem dX12_takesAll_25 : decode cX12_takesAll 25 = .ok (.getfield 58, 3) := by decide +kernel
theorem dX12_takesAll_28 : decode cX12_takesAll 28 = .ok (.iload_n 3, 1) := by decide +kernel
theorem dX12_takesAll_29 : decode cX12_takesAll 29 = .ok (.iaload, 1) := by decide +kernel
theorem dX12_takesAll_30 : decode cX12_takesAll 30 = .ok (.aload_n 0, 1) := by decide +kernel
theorem dX12_takesAll_31 : decode cX12_takesAll 31 = .ok (.getfield 61, 3) := by decide +kernel
theorem dX12_takesAll_34 : decode cX12_takesAll 34 = .ok (.iload_n 3, 1) := by decide +kernel
theorem dX12_takesAll_35 : decode cX12_takesAll 35 = .ok (.iaload, 1) := by decide +kernel
theorem dX12_takesAll_36 : decode cX12_takesAll 36 = .ok (.aload_n 0, 1) := by decide +kernel
theorem dX12_takesAll_37 : decode cX12_takesAll 37 = .ok (.getfield 64, 3) := by decide +kernel
theorem dX12_takesAll_40 : decode cX12_takesAll 40 = .ok (.iload_n 3, 1) := by decide +kernel
theorem dX12_takesAll_41 : decode cX12_takesAll 41 = .ok (.iaload, 1) := by decide +kernel
theorem dX12_takesAll_42 : decode cX12_takesAll 42 = .ok (.invokevirtual 380, 3) := by decide +kernel
theorem dX12_takesAll_45 : decode cX12_takesAll 45 = .ok (.iinc 3 1, 3) := by decide +kernel
theorem dX12_takesAll_48 : decode cX12_takesAll 48 = .ok (.goto (-41), 3) := by decide +kernel
theorem dX12_takesAll_51 : decode cX12_takesAll 51 = .ok (.return_, 1) := by decide +kernel
theorem e_X12_takesAll_7 (d : Nat) : ∀ (n : Nat) {l0 l2 l3 : Int} {m : Mem} {v : Int} {m' : Mem}, X12_takesAll_7 n l0 l2 l3 m = some (v, m') → Ex (d + 9) fm_X12_takesAll 7 [(22, l0), (3, 0), (0, l2), (0, l3)] [] m (.inl (3, 0)) m' := by
  intro n
  induction n with
  | zero =>
    intro l0 l2 l3 m v m' h
    have h : (none : Option R2) = some _ := h
    cases h
  | succ n ih =>
    intro l0 l2 l3 m v m' h
    rw [X12_takesAll_7] at h
    refine x_iload_n dX12_takesAll_7 rfl rfl (?_ : Ex _ _ 8 _ _ _ _ _)
    refine x_iload_n dX12_takesAll_8 rfl rfl (?_ : Ex _ _ 9 _ _ _ _ _)
    rcases ite_some h with ⟨b1, h⟩ | ⟨b1, h⟩
    · refine x_icmp_ge (tgt := 51) dX12_takesAll_9 rfl b1 (?_ : Ex _ _ 51 _ _ _ _ _)
      cases h
      exact x_retv dX12_takesAll_51
    · refine x_icmp_geN dX12_takesAll_9 (by decide) b1 (?_ : Ex _ _ 12 _ _ _ _ _)
      refine x_aload_n dX12_takesAll_12 rfl rfl (Or.inr (by decide)) (?_ : Ex _ _ 13 _ _ _ _ _)
      obtain ⟨c2, h⟩ := chk_some h
      refine gt_12_19 c2 fl_RX12_58 dX12_takesAll_13 (?_ : Ex _ _ 16 _ _ _ _ _)
      refine x_iload_n dX12_takesAll_16 rfl rfl (?_ : Ex _ _ 17 _ _ _ _ _)
      obtain ⟨⟨c3, c4, c5⟩, h⟩ := chk_some h
      refine ld_i_7200 c3 c4 c5 dX12_takesAll_17 (?_ : Ex _ _ 18 _ _ _ _ _)
      refine x_bipush dX12_takesAll_18 kb_7 (by decide) (?_ : Ex _ _ 20 _ _ _ _ _)
      rcases ite_some h with ⟨b6, h⟩ | ⟨b6, h⟩
      · refine x_icmp_ge (tgt := 45) dX12_takesAll_20 rfl b6 (?_ : Ex _ _ 45 _ _ _ _ _)
        obtain ⟨c7, h⟩ := chk_some h
        refine x_iinc (ls2 := [(22, l0), (3, 0), (0, l2), (0, (l3 + 1))]) dX12_takesAll_45 rfl c7 rfl (?_ : Ex _ _ 48 _ _ _ _ _)
        refine x_goto (tgt := 7) dX12_takesAll_48 rfl (?_ : Ex _ _ 7 _ _ _ _ _)
        exact ih h
      · refine x_icmp_geN dX12_takesAll_20 (by decide) b6 (?_ : Ex _ _ 23 _ _ _ _ _)
        refine x_aload_n dX12_takesAll_23 rfl rfl (Or.inr (by decide)) (?_ : Ex _ _ 24 _ _ _ _ _)
        refine x_aload_n dX12_takesAll_24 rfl rfl (Or.inr (by decide)) (?_ : Ex _ _ 25 _ _ _ _ _)
        refine gt_12_19 c2 fl_RX12_58 dX12_takesAll_25 (?_ : Ex _ _ 28 _ _ _ _ _)
        refine x_iload_n dX12_takesAll_28 rfl rfl (?_ : Ex _ _ 29 _ _ _ _ _)
        obtain ⟨⟨c8, c9⟩, h⟩ := chk_some h
        refine ld_i_7200 c3 c8 c9 dX12_takesAll_29 (?_ : Ex _ _ 30 _ _ _ _ _)
        refine x_aload_n dX12_takesAll_30 rfl rfl (Or.inr (by decide)) (?_ : Ex _ _ 31 _ _ _ _ _)
        refine gt_12_20 c2 fl_RX12_61 dX12_takesAll_31 (?_ : Ex _ _ 34 _ _ _ _ _)
        refine x_iload_n dX12_takesAll_34 rfl rfl (?_ : Ex _ _ 35 _ _ _ _ _)
        obtain ⟨⟨c10, c11, c12⟩, h⟩ := chk_some h
        refine ld_i_7200 c10 c11 c12 dX12_takesAll_35 (?_ : Ex _ _ 36 _ _ _ _ _)
        refine x_aload_n dX12_takesAll_36 rfl rfl (Or.inr (by decide)) (?_ : Ex _ _ 37 _ _ _ _ _)
        refine gt_12_21 c2 fl_RX12_64 dX12_takesAll_37 (?_ : Ex _ _ 40 _ _ _ _ _)
        refine x_iload_n dX12_takesAll_40 rfl rfl (?_ : Ex _ _ 41 _ _ _ _ _)
        obtain ⟨⟨c13, c14, c15⟩, h⟩ := chk_some h
        refine ld_i_7200 c13 c14 c15 dX12_takesAll_41 (?_ : Ex _ _ 42 _ _ _ _ _)
        obtain ⟨v16, m17, g18, h⟩ := cal_some h
        refine cV3 (e_X12_takes d g18) (contV (?_ : Ex _ _ 45 _ _ _ _ _)) og_X12_takes rfl ml_RX12_380 12 rfl rfl c2 im_X12_takes se_X12_takes (Nat.le_of_ble_eq_true rfl) dX12_takesAll_42
        obtain ⟨c19, h⟩ := chk_some h
        refine x_iinc (ls2 := [(22, l0), (3, 0), (0, l2), (0, (l3 + 1))]) dX12_takesAll_45 rfl c19 rfl (?_ : Ex _ _ 48 _ _ _ _ _)
        refine x_goto (tgt := 7) dX12_takesAll_48 rfl (?_ : Ex _ _ 7 _ _ _ _ _)
        exact ih h
theorem e_X12_takesAll_0 (d : Nat) {l0 l1 l2 : Int} {m : Mem} {v : Int} {m' : Mem} (h : X12_takesAll_0 l0 l1 l2 m = some (v, m')) : Ex (d + 9) fm_X12_takesAll 0 [(22, l0), (0, l1), (0, l2), (3, 0)] [] m (.inl (3, 0)) m' := by
  unfold X12_takesAll_0 at h
  refine x_aload_n dX12_takesAll_0 rfl rfl (Or.inr (by decide)) (?_ : Ex _ _ 1 _ _ _ _ _)
  refine x_iconst dX12_takesAll_1 rfl (by decide) (?_ : Ex _ _ 2 _ _ _ _ _)
  obtain ⟨c1, h⟩ := chk_some h
  obtain ⟨m2, hm2, h⟩ := st_some h
  refine pt_12_76  c1 fl_RX12_283 dX12_takesAll_2 (?_ : Ex _ _ 5 _ _ _ _ _)
  rw [← hm2]
  refine x_iload_n dX12_takesAll_5 rfl rfl (?_ : Ex _ _ 6 _ _ _ _ _)
  refine x_istore_n (ls2 := [(22, l0), (0, l1), (0, l2), (0, l1)]) dX12_takesAll_6 rfl (Nat.le_of_ble_eq_true rfl) rfl (?_ : Ex _ _ 7 _ _ _ _ _)
  refine Ex.wk (ls2 := [(22, l0), (3, 0), (0, l2), (0, l1)]) ⟨Or.inr rfl, Or.inl rfl, Or.inr rfl, Or.inr rfl, trivial⟩ ?_
  exact e_X12_takesAll_7 d fuel9 h
theorem e_X12_takesAll (d : Nat) {a0 a1 a2 : Int} {m : Mem} {v : Int} {m' : Mem} (h : X12_takesAll a0 a1 a2 m = some (v, m')) : ExM (d + 9) fm_X12_takesAll [(22, a0), (0, a1), (0, a2)] m (.inl (3, 0)) m' := by
  exact ExM.of (by decide +kernel) (Nat.le_of_ble_eq_true rfl) (cat9 rfl) retV (e_X12_takesAll_0 d h)
theorem dX12_endOf_0 : decode cX12_endOf 0 = .ok (.iload_n 1, 1) := by decide +kernel
theorem dX12_endOf_1 : decode cX12_endOf 1 = .ok (.iconst 1, 1) := by decide +kernel
theorem dX12_endOf_2 : decode cX12_endOf 2 = .ok (.iadd, 1) := by decide +kernel
theorem dX12_endOf_3 : decode cX12_endOf 3 = .ok (.istore_n 3, 1) := by decide +kernel
theorem dX12_endOf_4 : decode cX12_endOf 4 = .ok (.iload_n 3, 1) := by decide +kernel
theorem dX12_endOf_5 : decode cX12_endOf 5 = .ok (.iload_n 2, 1) := by decide +kernel
theorem dX12_endOf_6 : decode cX12_endOf 6 = .ok (.if_icmp .ge 20, 3) := by decide +kernel
theorem dX12_endOf_9 : decode cX12_endOf 9 = .ok (.aload_n 0, 1) := by decide +kernel
theorem dX12_endOf_10 : decode cX12_endOf 10 = .ok (.getfield 58, 3) := by decide +kernel
theorem dX12_endOf_13 : decode cX12_endOf 13 = .ok (.iload_n 3, 1) := by decide +kernel
theorem dX12_endOf_14 : decode cX12_endOf 14 = .ok (.iaload, 1) := by decide +kernel
theorem dX12_endOf_15 : decode cX12_endOf 15 = .ok (.bipush 7, 2) := by decide +kernel
theorem dX12_endOf_17 : decode cX12_endOf 17 = .ok (.if_icmp .le 9, 3) := by decide +kernel
theorem dX12_endOf_20 : decode cX12_endOf 20 = .ok (.iinc 3 1, 3) := by decide +kernel
theorem dX12_endOf_23 : decode cX12_endOf 23 = .ok (.goto (-19), 3) := by decide +kernel
theorem dX12_endOf_26 : decode cX12_endOf 26 = .ok (.iload_n 3, 1) := by decide +kernel
theorem dX12_endOf_27 : decode cX12_endOf 27 = .ok (.ireturn, 1) := by decide +kernel
theorem e_X12_endOf_4 (d : Nat) : ∀ (n : Nat) {l0 l2 l3 : Int} {m : Mem} {v : Int} {m' : Mem}, X12_endOf_4 n l0 l2 l3 m = some (v, m') → Ex d fm_X12_endOf 4 [(22, l0), (3, 0), (0, l2), (0, l3)] [] m (.inl (0, v)) m' := by
  intro n
  induction n with
  | zero =>
    intro l0 l2 l3 m v m' h
    have h : (none : Option R2) = some _ := h
    cases h
  | succ n ih =>
    intro l0 l2 l3 m v m' h
    rw [X12_endOf_4] at h
    refine x_iload_n dX12_endOf_4 rfl rfl (?_ : Ex _ _ 5 _ _ _ _ _)
    refine x_iload_n dX12_endOf_5 rfl rfl (?_ : Ex _ _ 6 _ _ _ _ _)
    rcases ite_some h with ⟨b1, h⟩ | ⟨b1, h⟩
    · refine x_icmp_ge (tgt := 26) dX12_endOf_6 rfl b1 (?_ : Ex _ _ 26 _ _ _ _ _)
      refine x_iload_n dX12_endOf_26 rfl rfl (?_ : Ex _ _ 27 _ _ _ _ _)
      cases h
      exact x_ret dX12_endOf_27 (by decide : (0 : Int) ≠ 3)
    · refine x_icmp_geN dX12_endOf_6 (by decide) b1 (?_ : Ex _ _ 9 _ _ _ _ _)
      refine x_aload_n dX12_endOf_9 rfl rfl (Or.inr (by decide)) (?_ : Ex _ _ 10 _ _ _ _ _)
      obtain ⟨c2, h⟩ := chk_some h
      refine gt_12_19 c2 fl_RX12_58 dX12_endOf_10 (?_ : Ex _ _ 13 _ _ _ _ _)
      refine x_iload_n dX12_endOf_13 rfl rfl (?_ : Ex _ _ 14 _ _ _ _ _)
      obtain ⟨⟨c3, c4, c5⟩, h⟩ := chk_some h
      refine ld_i_7200 c3 c4 c5 dX12_endOf_14 (?_ : Ex _ _ 15 _ _ _ _ _)
      refine x_bipush dX12_endOf_15 kb_7 (by decide) (?_ : Ex _ _ 17 _ _ _ _ _)
      rcases ite_some h with ⟨b6, h⟩ | ⟨b6, h⟩
      · refine x_icmp_le (tgt := 26) dX12_endOf_17 rfl b6 (?_ : Ex _ _ 26 _ _ _ _ _)
        refine x_iload_n dX12_endOf_26 rfl rfl (?_ : Ex _ _ 27 _ _ _ _ _)
        cases h
        exact x_ret dX12_endOf_27 (by decide : (0 : Int) ≠ 3)
      · refine x_icmp_leN dX12_endOf_17 (by decide) b6 (?_ : Ex _ _ 20 _ _ _ _ _)
        obtain ⟨c7, h⟩ := chk_some h
        refine x_iinc (ls2 := [(22, l0), (3, 0), (0, l2), (0, (l3 + 1))]) dX12_endOf_20 rfl c7 rfl (?_ : Ex _ _ 23 _ _ _ _ _)
        refine x_goto (tgt := 4) dX12_endOf_23 rfl (?_ : Ex _ _ 4 _ _ _ _ _)
        exact ih h
theorem e_X12_endOf_0 (d : Nat) {l0 l1 l2 : Int} {m : Mem} {v : Int} {m' : Mem} (h : X12_endOf_0 l0 l1 l2 m = some (v, m')) : Ex d fm_X12_endOf 0 [(22, l0), (0, l1), (0, l2), (3, 0)] [] m (.inl (0, v)) m' := by
  unfold X12_endOf_0 at h
  refine x_iload_n dX12_endOf_0 rfl rfl (?_ : Ex _ _ 1 _ _ _ _ _)
  refine x_iconst dX12_endOf_1 rfl (by decide) (?_ : Ex _ _ 2 _ _ _ _ _)
  obtain ⟨c1, h⟩ := chk_some h
  refine x_iadd dX12_endOf_2 c1 (?_ : Ex _ _ 3 _ _ _ _ _)
  refine x_istore_n (ls2 := [(22, l0), (0, l1), (0, l2), (0, (l1 + 1))]) dX12_endOf_3 rfl (Nat.le_of_ble_eq_true rfl) rfl (?_ : Ex _ _ 4 _ _ _ _ _)
  refine Ex.wk (ls2 := [(22, l0), (3, 0), (0, l2), (0, (l1 + 1))]) ⟨Or.inr rfl, Or.inl rfl, Or.inr rfl, Or.inr rfl, trivial⟩ ?_
  exact e_X12_endOf_4 d fuel9 h
theorem e_X12_endOf (d : Nat) {a0 a1 a2 : Int} {m : Mem} {v : Int} {m' : Mem} (h : X12_endOf a0 a1 a2 m = some (v, m')) : ExM d fm_X12_endOf [(22, a0), (0, a1), (0, a2)] m (.inl (0, v)) m' := by
  exact ExM.of (by decide +kernel) (Nat.le_of_ble_eq_true rfl) (cat9 rfl) retI (e_X12_endOf_0 d h)
theorem dX12_isAsTold_0 : decode cX12_isAsTold 0 = .ok (.aload_n 0, 1) := by decide +kernel
theorem dX12_isAsTold_1 : decode cX12_isAsTold 1 = .ok (.getfield 283, 3) := by decide +kernel
theorem dX12_isAsTold_4 : decode cX12_isAsTold 4 = .ok (.aload_n 0, 1) := by decide +kernel
theorem dX12_isAsTold_5 : decode cX12_isAsTold 5 = .ok (.getfield 339, 3) := by decide +kernel
theorem dX12_isAsTold_8 : decode cX12_isAsTold 8 = .ok (.aload_n 0, 1) := by decide +kernel
theorem dX12_isAsTold_9 : decode cX12_isAsTold 9 = .ok (.getfield 333, 3) := by decide +kernel
theorem dX12_isAsTold_12 : decode cX12_isAsTold 12 = .ok (.isub, 1) := by decide +kernel
theorem dX12_isAsTold_13 : decode cX12_isAsTold 13 = .ok (.if_icmp .ne 7, 3) := by decide +kernel
theorem dX12_isAsTold_16 : decode cX12_isAsTold 16 = .ok (.iconst 1, 1) := by decide +kernel
theorem dX12_isAsTold_17 : decode cX12_isAsTold 17 = .ok (.goto 4, 3) := by decide +kernel
theorem dX12_isAsTold_20 : decode cX12_isAsTold 20 = .ok (.iconst 0, 1) := by decide +kernel
theorem dX12_isAsTold_21 : decode cX12_isAsTold 21 = .ok (.istore_n 1, 1) := by decide +kernel
theorem dX12_isAsTold_22 : decode cX12_isAsTold 22 = .ok (.iconst 0, 1) := by decide +kernel
theorem dX12_isAsTold_23 : decode cX12_isAsTold 23 = .ok (.istore_n 2, 1) := by decide +kernel
theorem dX12_isAsTold_24 : decode cX12_isAsTold 24 = .ok (.iload_n 2, 1) := by decide +kernel
theorem dX12_isAsTold_25 : decode cX12_isAsTold 25 = .ok (.aload_n 0, 1) := by decide +kernel
theorem dX12_isAsTold_26 : decode cX12_isAsTold 26 = .ok (.getfield 283, 3) := by decide +kernel
theorem dX12_isAsTold_29 : decode cX12_isAsTold 29 = .ok (.if_icmp .ge 79, 3) := by decide +kernel
theorem dX12_isAsTold_32 : decode cX12_isAsTold 32 = .ok (.iload_n 1, 1) := by decide +kernel
theorem dX12_isAsTold_33 : decode cX12_isAsTold 33 = .ok (.ifCond .eq 75, 3) := by decide +kernel
theorem dX12_isAsTold_36 : decode cX12_isAsTold 36 = .ok (.aload_n 0, 1) := by decide +kernel
theorem dX12_isAsTold_37 : decode cX12_isAsTold 37 = .ok (.getfield 158, 3) := by decide +kernel
theorem dX12_isAsTold_40 : decode cX12_isAsTold 40 = .ok (.iload_n 2, 1) := by decide +kernel
theorem dX12_isAsTold_41 : decode cX12_isAsTold 41 = .ok (.iaload, 1) := by decide +kernel
theorem dX12_isAsTold_42 : decode cX12_isAsTold 42 = .ok (.aload_n 0, 1) := by decide +kernel
theorem dX12_isAsTold_43 : decode cX12_isAsTold 43 = .ok (.getfield 58, 3) := by decide +kernel
theorem dX12_isAsTold_46 : decode cX12_isAsTold 46 = .ok (.aload_n 0, 1) := by decide +kernel
theorem dX12_isAsTold_47 : decode cX12_isAsTold 47 = .ok (.getfield 333, 3) := by decide +kernel
theorem dX12_isAsTold_50 : decode cX12_isAsTold 50 = .ok (.iload_n 2, 1) := by decide +kernel
theorem dX12_isAsTold_51 : decode cX12_isAsTold 51 = .ok (.iadd, 1) := by decide +kernel
theorem dX12_isAsTold_52 : decode cX12_isAsTold 52 = .ok (.iaload, 1) := by decide +kernel
theorem dX12_isAsTold_53 : decode cX12_isAsTold 53 = .ok (.if_icmp .ne 47, 3) := by decide +kernel
theorem dX12_isAsTold_56 : decode cX12_isAsTold 56 = .ok (.aload_n 0, 1) := by decide +kernel
theorem dX12_isAsTold_57 : decode cX12_isAsTold 57 = .ok (.getfield 161, 3) := by decide +kernel
theorem dX12_isAsTold_60 : decode cX12_isAsTold 60 = .ok (.iload_n 2, 1) := by decide +kernel
theorem dX12_isAsTold_61 : decode cX12_isAsTold 61 = .ok (.iaload, 1) := by decide +kernel
theorem dX12_isAsTold_62 : decode cX12_isAsTold 62 = .ok (.aload_n 0, 1) := by decide +kernel
theorem dX12_isAsTold_63 : decode cX12_isAsTold 63 = .ok (.getfield 61, 3) := by decide +kernel
theorem dX12_isAsTold_66 : decode cX12_isAsTold 66 = .ok (.aload_n 0, 1) := by decide +kernel
theorem dX12_isAsTold_67 : decode cX12_isAsTold 67 = .ok (.getfield 333, 3) := by decide +kernel
theorem dX12_isAsTold_70 : decode cX12_isAsTold 70 = .ok (.iload_n 2, 1) := by decide +kernel
theorem dX12_isAsTold_71 : decode cX12_isAsTold 71 = .ok (.iadd, 1) := by decide +kernel
theorem dX12_isAsTold_72 : decode cX12_isAsTold 72 = .ok (.iaload, 1) := by decide +kernel
theorem dX12_isAsTold_73 : decode cX12_isAsTold 73 = .ok (.if_icmp .ne 27, 3) := by decide +kernel
theorem dX12_isAsTold_76 : decode cX12_isAsTold 76 = .ok (.aload_n 0, 1) := by decide +kernel
theorem dX12_isAsTold_77 : decode cX12_isAsTold 77 = .ok (.getfield 164, 3) := by decide +kernel
theorem dX12_isAsTold_80 : decode cX12_isAsTold 80 = .ok (.iload_n 2, 1) := by decide +kernel
theorem dX12_isAsTold_81 : decode cX12_isAsTold 81 = .ok (.iaload, 1) := by decide +kernel
theorem dX12_isAsTold_82 : decode cX12_isAsTold 82 = .ok (.aload_n 0, 1) := by decide +kernel
theorem dX12_isAsTold_83 : decode cX12_isAsTold 83 = .ok (.getfield 64, 3) := by decide +kernel
theorem dX12_isAsTold_86 : decode cX12_isAsTold 86 = .ok (.aload_n 0, 1) := by decide +kernel
theorem dX12_isAsTold_87 : decode cX12_isAsTold 87 = .ok (.getfield 333, 3) := by decide +kernel
theorem dX12_isAsTold_90 : decode cX12_isAsTold 90 = .ok (.iload_n 2, 1) := by decide +kernel
theorem dX12_isAsTold_91 : decode cX12_isAsTold 91 = .ok (.iadd, 1) := by decide +kernel
theorem dX12_isAsTold_92 : decode cX12_isAsTold 92 = .ok (.iaload, 1) := by decide +kernel
theorem dX12_isAsTold_93 : decode cX12_isAsTold 93 = .ok (.if_icmp .ne 7, 3) := by decide +kernel
theorem dX12_isAsTold_96 : decode cX12_isAsTold 96 = .ok (.iconst 1, 1) := by decide +kernel
theorem dX12_isAsTold_97 : decode cX12_isAsTold 97 = .ok (.goto 4, 3) := by decide +kernel
theorem dX12_isAsTold_100 : decode cX12_isAsTold 100 = .ok (.iconst 0, 1) := by decide +kernel
theorem dX12_isAsTold_101 : decode cX12_isAsTold 101 = .ok (.istore_n 1, 1) := by decide +kernel
theorem dX12_isAsTold_102 : decode cX12_isAsTold 102 = .ok (.iinc 2 1, 3) := by decide +kernel
theorem dX12_isAsTold_105 : decode cX12_isAsTold 105 = .ok (.goto (-81), 3) := by decide +kernel
theorem dX12_isAsTold_108 : decode cX12_isAsTold 108 = .ok (.iload_n 1, 1) := by decide +kernel
theorem dX12_isAsTold_109 : decode cX12_isAsTold 109 = .ok (.ireturn, 1) := by decide +kernel
theorem e_X12_isAsTold_24 (d : Nat) : ∀ (n : Nat) {l0 l1 l2 : Int} {m : Mem} {v : Int} {m' : Mem}, X12_isAsTold_24 n l0 l1 l2 m = some (v, m') → Ex d fm_X12_isAsTold 24 [(22, l0), (0, l1), (0, l2)] [] m (.inl (0, v)) m' := by
  intro n
  induction n with
  | zero =>
    intro l0 l1 l2 m v m' h
    have h : (none : Option R2) = some _ := h
    cases h
  | succ n ih =>
    intro l0 l1 l2 m v m' h
    rw [X12_isAsTold_24] at h
    refine x_iload_n dX12_isAsTold_24 rfl rfl (?_ : Ex _ _ 25 _ _ _ _ _)
    refine x_aload_n dX12_isAsTold_25 rfl rfl (Or.inr (by decide)) (?_ : Ex _ _ 26 _ _ _ _ _)
    obtain ⟨c1, h⟩ := chk_some h
    refine gt_12_76 c1 fl_RX12_283 dX12_isAsTold_26 (?_ : Ex _ _ 29 _ _ _ _ _)
    rcases ite_some h with ⟨b2, h⟩ | ⟨b2, h⟩
    · refine x_icmp_ge (tgt := 108) dX12_isAsTold_29 rfl b2 (?_ : Ex _ _ 108 _ _ _ _ _)
      refine x_iload_n dX12_isAsTold_108 rfl rfl (?_ : Ex _ _ 109 _ _ _ _ _)
      cases h
      exact x_ret dX12_isAsTold_109 (by decide : (0 : Int) ≠ 3)
    · refine x_icmp_geN dX12_isAsTold_29 (by decide) b2 (?_ : Ex _ _ 32 _ _ _ _ _)
      refine x_iload_n dX12_isAsTold_32 rfl rfl (?_ : Ex _ _ 33 _ _ _ _ _)
      rcases ite_some h with ⟨b3, h⟩ | ⟨b3, h⟩
      · refine x_if_eq (tgt := 108) dX12_isAsTold_33 rfl b3 (?_ : Ex _ _ 108 _ _ _ _ _)
        refine x_iload_n dX12_isAsTold_108 rfl rfl (?_ : Ex _ _ 109 _ _ _ _ _)
        cases h
        exact x_ret dX12_isAsTold_109 (by decide : (0 : Int) ≠ 3)
      · refine x_if_eqN dX12_isAsTold_33 (by decide) b3 (?_ : Ex _ _ 36 _ _ _ _ _)
        refine x_aload_n dX12_isAsTold_36 rfl rfl (Or.inr (by decide)) (?_ : Ex _ _ 37 _ _ _ _ _)
        refine gt_12_72 c1 fl_RX12_158 dX12_isAsTold_37 (?_ : Ex _ _ 40 _ _ _ _ _)
        refine x_iload_n dX12_isAsTold_40 rfl rfl (?_ : Ex _ _ 41 _ _ _ _ _)
        obtain ⟨⟨c4, c5, c6⟩, h⟩ := chk_some h
        refine ld_i_5200 c4 c5 c6 dX12_isAsTold_41 (?_ : Ex _ _ 42 _ _ _ _ _)
        refine x_aload_n dX12_isAsTold_42 rfl rfl (Or.inr (by decide)) (?_ : Ex _ _ 43 _ _ _ _ _)
        refine gt_12_19 c1 fl_RX12_58 dX12_isAsTold_43 (?_ : Ex _ _ 46 _ _ _ _ _)
        refine x_aload_n dX12_isAsTold_46 rfl rfl (Or.inr (by decide)) (?_ : Ex _ _ 47 _ _ _ _ _)
        refine gt_12_78 c1 fl_RX12_333 dX12_isAsTold_47 (?_ : Ex _ _ 50 _ _ _ _ _)
        refine x_iload_n dX12_isAsTold_50 rfl rfl (?_ : Ex _ _ 51 _ _ _ _ _)
        obtain ⟨c7, h⟩ := chk_some h
        refine x_iadd dX12_isAsTold_51 c7 (?_ : Ex _ _ 52 _ _ _ _ _)
        obtain ⟨⟨c8, c9, c10⟩, h⟩ := chk_some h
        refine ld_i_7200 c8 c9 c10 dX12_isAsTold_52 (?_ : Ex _ _ 53 _ _ _ _ _)
        rcases ite_some h with ⟨b11, h⟩ | ⟨b11, h⟩
        · refine x_icmp_neN dX12_isAsTold_53 (by decide) (fun hh => hh b11) (?_ : Ex _ _ 56 _ _ _ _ _)
          refine x_aload_n dX12_isAsTold_56 rfl rfl (Or.inr (by decide)) (?_ : Ex _ _ 57 _ _ _ _ _)
          refine gt_12_73 c1 fl_RX12_161 dX12_isAsTold_57 (?_ : Ex _ _ 60 _ _ _ _ _)
          refine x_iload_n dX12_isAsTold_60 rfl rfl (?_ : Ex _ _ 61 _ _ _ _ _)
          obtain ⟨⟨c13, c14, c15⟩, h⟩ := chk_some h
          refine ld_i_5200 c13 c14 c15 dX12_isAsTold_61 (?_ : Ex _ _ 62 _ _ _ _ _)
          refine x_aload_n dX12_isAsTold_62 rfl rfl (Or.inr (by decide)) (?_ : Ex _ _ 63 _ _ _ _ _)
          refine gt_12_20 c1 fl_RX12_61 dX12_isAsTold_63 (?_ : Ex _ _ 66 _ _ _ _ _)
          refine x_aload_n dX12_isAsTold_66 rfl rfl (Or.inr (by decide)) (?_ : Ex _ _ 67 _ _ _ _ _)
          refine gt_12_78 c1 fl_RX12_333 dX12_isAsTold_67 (?_ : Ex _ _ 70 _ _ _ _ _)
          refine x_iload_n dX12_isAsTold_70 rfl rfl (?_ : Ex _ _ 71 _ _ _ _ _)
          obtain ⟨c16, h⟩ := chk_some h
          refine x_iadd dX12_isAsTold_71 c16 (?_ : Ex _ _ 72 _ _ _ _ _)
          obtain ⟨⟨c17, c18, c19⟩, h⟩ := chk_some h
          refine ld_i_7200 c17 c18 c19 dX12_isAsTold_72 (?_ : Ex _ _ 73 _ _ _ _ _)
          rcases ite_some h with ⟨b20, h⟩ | ⟨b20, h⟩
          · refine x_icmp_neN dX12_isAsTold_73 (by decide) (fun hh => hh b20) (?_ : Ex _ _ 76 _ _ _ _ _)
            refine x_aload_n dX12_isAsTold_76 rfl rfl (Or.inr (by decide)) (?_ : Ex _ _ 77 _ _ _ _ _)
            refine gt_12_74 c1 fl_RX12_164 dX12_isAsTold_77 (?_ : Ex _ _ 80 _ _ _ _ _)
            refine x_iload_n dX12_isAsTold_80 rfl rfl (?_ : Ex _ _ 81 _ _ _ _ _)
            obtain ⟨⟨c22, c23, c24⟩, h⟩ := chk_some h
            refine ld_i_5200 c22 c23 c24 dX12_isAsTold_81 (?_ : Ex _ _ 82 _ _ _ _ _)
            refine x_aload_n dX12_isAsTold_82 rfl rfl (Or.inr (by decide)) (?_ : Ex _ _ 83 _ _ _ _ _)
            refine gt_12_21 c1 fl_RX12_64 dX12_isAsTold_83 (?_ : Ex _ _ 86 _ _ _ _ _)
            refine x_aload_n dX12_isAsTold_86 rfl rfl (Or.inr (by decide)) (?_ : Ex _ _ 87 _ _ _ _ _)
            refine gt_12_78 c1 fl_RX12_333 dX12_isAsTold_87 (?_ : Ex _ _ 90 _ _ _ _ _)
            refine x_iload_n dX12_isAsTold_90 rfl rfl (?_ : Ex _ _ 91 _ _ _ _ _)
            obtain ⟨c25, h⟩ := chk_some h
            refine x_iadd dX12_isAsTold_91 c25 (?_ : Ex _ _ 92 _ _ _ _ _)
            obtain ⟨⟨c26, c27, c28⟩, h⟩ := chk_some h
            refine ld_i_7200 c26 c27 c28 dX12_isAsTold_92 (?_ : Ex _ _ 93 _ _ _ _ _)
            rcases ite_some h with ⟨b29, h⟩ | ⟨b29, h⟩
            · refine x_icmp_neN dX12_isAsTold_93 (by decide) (fun hh => hh b29) (?_ : Ex _ _ 96 _ _ _ _ _)
              refine x_iconst dX12_isAsTold_96 rfl (by decide) (?_ : Ex _ _ 97 _ _ _ _ _)
              refine x_goto (tgt := 101) dX12_isAsTold_97 rfl (?_ : Ex _ _ 101 _ _ _ _ _)
              refine x_istore_n (ls2 := [(22, l0), (0, 1), (0, l2)]) dX12_isAsTold_101 rfl (Nat.le_of_ble_eq_true rfl) rfl (?_ : Ex _ _ 102 _ _ _ _ _)
              obtain ⟨c31, h⟩ := chk_some h
              refine x_iinc (ls2 := [(22, l0), (0, 1), (0, (l2 + 1))]) dX12_isAsTold_102 rfl c31 rfl (?_ : Ex _ _ 105 _ _ _ _ _)
              refine x_goto (tgt := 24) dX12_isAsTold_105 rfl (?_ : Ex _ _ 24 _ _ _ _ _)
              exact ih h
            · refine x_icmp_ne (tgt := 100) dX12_isAsTold_93 rfl b29 (?_ : Ex _ _ 100 _ _ _ _ _)
              refine x_iconst dX12_isAsTold_100 rfl (by decide) (?_ : Ex _ _ 101 _ _ _ _ _)
              refine x_istore_n (ls2 := [(22, l0), (0, 0), (0, l2)]) dX12_isAsTold_101 rfl (Nat.le_of_ble_eq_true rfl) rfl (?_ : Ex _ _ 102 _ _ _ _ _)
              obtain ⟨c30, h⟩ := chk_some h
              refine x_iinc (ls2 := [(22, l0), (0, 0), (0, (l2 + 1))]) dX12_isAsTold_102 rfl c30 rfl (?_ : Ex _ _ 105 _ _ _ _ _)
              refine x_goto (tgt := 24) dX12_isAsTold_105 rfl (?_ : Ex _ _ 24 _ _ _ _ _)
              exact ih h
          · refine x_icmp_ne (tgt := 100) dX12_isAsTold_73 rfl b20 (?_ : Ex _ _ 100 _ _ _ _ _)
            refine x_iconst dX12_isAsTold_100 rfl (by decide) (?_ : Ex _ _ 101 _ _ _ _ _)
            refine x_istore_n (ls2 := [(22, l0), (0, 0), (0, l2)]) dX12_isAsTold_101 rfl (Nat.le_of_ble_eq_true rfl) rfl (?_ : Ex _ _ 102 _ _ _ _ _)
            obtain ⟨c21, h⟩ := chk_some h
            refine x_iinc (ls2 := [(22, l0), (0, 0), (0, (l2 + 1))]) dX12_isAsTold_102 rfl c21 rfl (?_ : Ex _ _ 105 _ _ _ _ _)
            refine x_goto (tgt := 24) dX12_isAsTold_105 rfl (?_ : Ex _ _ 24 _ _ _ _ _)
            exact ih h
        · refine x_icmp_ne (tgt := 100) dX12_isAsTold_53 rfl b11 (?_ : Ex _ _ 100 _ _ _ _ _)
          refine x_iconst dX12_isAsTold_100 rfl (by decide) (?_ : Ex _ _ 101 _ _ _ _ _)
          refine x_istore_n (ls2 := [(22, l0), (0, 0), (0, l2)]) dX12_isAsTold_101 rfl (Nat.le_of_ble_eq_true rfl) rfl (?_ : Ex _ _ 102 _ _ _ _ _)
          obtain ⟨c12, h⟩ := chk_some h
          refine x_iinc (ls2 := [(22, l0), (0, 0), (0, (l2 + 1))]) dX12_isAsTold_102 rfl c12 rfl (?_ : Ex _ _ 105 _ _ _ _ _)
          refine x_goto (tgt := 24) dX12_isAsTold_105 rfl (?_ : Ex _ _ 24 _ _ _ _ _)
          exact ih h
theorem e_X12_isAsTold_0 (d : Nat) {l0 : Int} {m : Mem} {v : Int} {m' : Mem} (h : X12_isAsTold_0 l0 m = some (v, m')) : Ex d fm_X12_isAsTold 0 [(22, l0), (3, 0), (3, 0)] [] m (.inl (0, v)) m' := by
  unfold X12_isAsTold_0 at h
  refine x_aload_n dX12_isAsTold_0 rfl rfl (Or.inr (by decide)) (?_ : Ex _ _ 1 _ _ _ _ _)
  obtain ⟨c1, h⟩ := chk_some h
  refine gt_12_76 c1 fl_RX12_283 dX12_isAsTold_1 (?_ : Ex _ _ 4 _ _ _ _ _)
  refine x_aload_n dX12_isAsTold_4 rfl rfl (Or.inr (by decide)) (?_ : Ex _ _ 5 _ _ _ _ _)
  refine gt_12_79 c1 fl_RX12_339 dX12_isAsTold_5 (?_ : Ex _ _ 8 _ _ _ _ _)
  refine x_aload_n dX12_isAsTold_8 rfl rfl (Or.inr (by decide)) (?_ : Ex _ _ 9 _ _ _ _ _)
  refine gt_12_78 c1 fl_RX12_333 dX12_isAsTold_9 (?_ : Ex _ _ 12 _ _ _ _ _)
  obtain ⟨c2, h⟩ := chk_some h
  refine x_isub dX12_isAsTold_12 c2 (?_ : Ex _ _ 13 _ _ _ _ _)
  rcases ite_some h with ⟨b3, h⟩ | ⟨b3, h⟩
  · refine x_icmp_neN dX12_isAsTold_13 (by decide) (fun hh => hh b3) (?_ : Ex _ _ 16 _ _ _ _ _)
    refine x_iconst dX12_isAsTold_16 rfl (by decide) (?_ : Ex _ _ 17 _ _ _ _ _)
    refine x_goto (tgt := 21) dX12_isAsTold_17 rfl (?_ : Ex _ _ 21 _ _ _ _ _)
    refine x_istore_n (ls2 := [(22, l0), (0, 1), (3, 0)]) dX12_isAsTold_21 rfl (Nat.le_of_ble_eq_true rfl) rfl (?_ : Ex _ _ 22 _ _ _ _ _)
    refine x_iconst dX12_isAsTold_22 rfl (by decide) (?_ : Ex _ _ 23 _ _ _ _ _)
    refine x_istore_n (ls2 := [(22, l0), (0, 1), (0, 0)]) dX12_isAsTold_23 rfl (Nat.le_of_ble_eq_true rfl) rfl (?_ : Ex _ _ 24 _ _ _ _ _)
    exact e_X12_isAsTold_24 d fuel9 h
  · refine x_icmp_ne (tgt := 20) dX12_isAsTold_13 rfl b3 (?_ : Ex _ _ 20 _ _ _ _ _)
    refine x_iconst dX12_isAsTold_20 rfl (by decide) (?_ : Ex _ _ 21 _ _ _ _ _)
    refine x_istore_n (ls2 := [(22, l0), (0, 0), (3, 0)]) dX12_isAsTold_21 rfl (Nat.le_of_ble_eq_true rfl) rfl (?_ : Ex _ _ 22 _ _ _ _ _)
    refine x_iconst dX12_isAsTold_22 rfl (by decide) (?_ : Ex _ _ 23 _ _ _ _ _)
    refine x_istore_n (ls2 := [(22, l0), (0, 0), (0, 0)]) dX12_isAsTold_23 rfl (Nat.le_of_ble_eq_true rfl) rfl (?_ : Ex _ _ 24 _ _ _ _ _)
    exact e_X12_isAsTold_24 d fuel9 h
theorem e_X12_isAsTold (d : Nat) {a0 : Int} {m : Mem} {v : Int} {m' : Mem} (h : X12_isAsTold a0 m = some (v, m')) : ExM d fm_X12_isAsTold [(22, a0)] m (.inl (0, v)) m' := by
  obtain ⟨hb, h⟩ := boolR_some h
  exact ExM.of (by decide +kernel) (Nat.le_of_ble_eq_true rfl) (cat9 rfl) (retZ hb) (e_X12_isAsTold_0 d h)
