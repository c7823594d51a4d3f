/-! the machine does what the functions say, printed -/
theorem dX12_decide_0 : decode cX12_decide 0 = .ok (.aload_n 0, 1) := by decide +kernel
theorem dX12_decide_1 : decode cX12_decide 1 = .ok (.iload_n 1, 1) := by decide +kernel
theorem dX12_decide_2 : decode cX12_decide 2 = .ok (.invokevirtual 224, 3) := by decide +kernel
theorem dX12_decide_5 : decode cX12_decide 5 = .ok (.ifCond .eq 26, 3) := by decide +kernel
theorem dX12_decide_8 : decode cX12_decide 8 = .ok (.iload_n 2, 1) := by decide +kernel
theorem dX12_decide_9 : decode cX12_decide 9 = .ok (.iconst 1, 1) := by decide +kernel
theorem dX12_decide_10 : decode cX12_decide 10 = .ok (.aload_n 0, 1) := by decide +kernel
theorem dX12_decide_11 : decode cX12_decide 11 = .ok (.getfield 22, 3) := by decide +kernel
theorem dX12_decide_14 : decode cX12_decide 14 = .ok (.aload_n 0, 1) := by decide +kernel
theorem dX12_decide_15 : decode cX12_decide 15 = .ok (.getfield 25, 3) := by decide +kernel
theorem dX12_decide_18 : decode cX12_decide 18 = .ok (.iload_n 1, 1) := by decide +kernel
theorem dX12_decide_19 : decode cX12_decide 19 = .ok (.iaload, 1) := by decide +kernel
theorem dX12_decide_20 : decode cX12_decide 20 = .ok (.iaload, 1) := by decide +kernel
theorem dX12_decide_21 : decode cX12_decide 21 = .ok (.invokestatic 177, 3) := by decide +kernel
theorem dX12_decide_24 : decode cX12_decide 24 = .ok (.ifCond .eq 7, 3) := by decide +kernel
theorem dX12_decide_27 : decode cX12_decide 27 = .ok (.iconst 1, 1) := by decide +kernel
theorem dX12_decide_28 : decode cX12_decide 28 = .ok (.goto 4, 3) := by decide +kernel
theorem dX12_decide_31 : decode cX12_decide 31 = .ok (.iconst 0, 1) := by decide +kernel
theorem dX12_decide_32 : decode cX12_decide 32 = .ok (.istore_n 3, 1) := by decide +kernel
theorem dX12_decide_33 : decode cX12_decide 33 = .ok (.aload_n 0, 1) := by decide +kernel
theorem dX12_decide_34 : decode cX12_decide 34 = .ok (.iload_n 3, 1) := by decide +kernel
theorem dX12_decide_35 : decode cX12_decide 35 = .ok (.ifCond .ne 7, 3) := by decide +kernel
theorem dX12_decide_38 : decode cX12_decide 38 = .ok (.iconst 1, 1) := by decide +kernel
theorem dX12_decide_39 : decode cX12_decide 39 = .ok (.goto 16, 3) := by decide +kernel
theorem dX12_decide_42 : decode cX12_decide 42 = .ok (.aload_n 0, 1) := by decide +kernel
theorem dX12_decide_43 : decode cX12_decide 43 = .ok (.iload_n 1, 1) := by decide +kernel
theorem dX12_decide_44 : decode cX12_decide 44 = .ok (.invokevirtual 209, 3) := by decide +kernel
theorem dX12_decide_47 : decode cX12_decide 47 = .ok (.ifCond .ne 7, 3) := by decide +kernel
theorem dX12_decide_50 : decode cX12_decide 50 = .ok (.iconst 2, 1) := by decide +kernel
theorem dX12_decide_51 : decode cX12_decide 51 = .ok (.goto 4, 3) := by decide +kernel
theorem dX12_decide_54 : decode cX12_decide 54 = .ok (.iconst 0, 1) := by decide +kernel
theorem dX12_decide_55 : decode cX12_decide 55 = .ok (.invokevirtual 198, 3) := by decide +kernel
theorem dX12_decide_58 : decode cX12_decide 58 = .ok (.ifCond .ne 5, 3) := by decide +kernel
theorem dX12_decide_61 : decode cX12_decide 61 = .ok (.iconst 0, 1) := by decide +kernel
theorem dX12_decide_62 : decode cX12_decide 62 = .ok (.ireturn, 1) := by decide +kernel
theorem dX12_decide_63 : decode cX12_decide 63 = .ok (.aload_n 0, 1) := by decide +kernel
theorem dX12_decide_64 : decode cX12_decide 64 = .ok (.iload_n 1, 1) := by decide +kernel
theorem dX12_decide_65 : decode cX12_decide 65 = .ok (.invokevirtual 425, 3) := by decide +kernel
theorem dX12_decide_68 : decode cX12_decide 68 = .ok (.ifCond .ne 5, 3) := by decide +kernel
theorem dX12_decide_71 : decode cX12_decide 71 = .ok (.iconst (-1), 1) := by decide +kernel
theorem dX12_decide_72 : decode cX12_decide 72 = .ok (.ireturn, 1) := by decide +kernel
theorem dX12_decide_73 : decode cX12_decide 73 = .ok (.aload_n 0, 1) := by decide +kernel
theorem dX12_decide_74 : decode cX12_decide 74 = .ok (.iload_n 1, 1) := by decide +kernel
theorem dX12_decide_75 : decode cX12_decide 75 = .ok (.iload_n 2, 1) := by decide +kernel
theorem dX12_decide_76 : decode cX12_decide 76 = .ok (.invokevirtual 428, 3) := by decide +kernel
theorem dX12_decide_79 : decode cX12_decide 79 = .ok (.istore 4, 2) := by decide +kernel
theorem dX12_decide_81 : decode cX12_decide 81 = .ok (.iload 4, 2) := by decide +kernel
theorem dX12_decide_83 : decode cX12_decide 83 = .ok (.iconst (-1), 1) := by decide +kernel
theorem dX12_decide_84 : decode cX12_decide 84 = .ok (.if_icmp .ne 6, 3) := by decide +kernel
theorem dX12_decide_87 : decode cX12_decide 87 = .ok (.bipush (-2), 2) := by decide +kernel
theorem dX12_decide_89 : decode cX12_decide 89 = .ok (.ireturn, 1) := by decide +kernel
theorem dX12_decide_90 : decode cX12_decide 90 = .ok (.aload_n 0, 1) := by decide +kernel
theorem dX12_decide_91 : decode cX12_decide 91 = .ok (.iload_n 1, 1) := by decide +kernel
theorem dX12_decide_92 : decode cX12_decide 92 = .ok (.invokevirtual 205, 3) := by decide +kernel
theorem dX12_decide_95 : decode cX12_decide 95 = .ok (.istore 5, 2) := by decide +kernel
theorem dX12_decide_97 : decode cX12_decide 97 = .ok (.aload_n 0, 1) := by decide +kernel
theorem dX12_decide_98 : decode cX12_decide 98 = .ok (.iconst 1, 1) := by decide +kernel
theorem dX12_decide_99 : decode cX12_decide 99 = .ok (.putfield 336, 3) := by decide +kernel
theorem dX12_decide_102 : decode cX12_decide 102 = .ok (.aload_n 0, 1) := by decide +kernel
theorem dX12_decide_103 : decode cX12_decide 103 = .ok (.iload 4, 2) := by decide +kernel
theorem dX12_decide_105 : decode cX12_decide 105 = .ok (.bipush 80, 2) := by decide +kernel
theorem dX12_decide_107 : decode cX12_decide 107 = .ok (.iload 5, 2) := by decide +kernel
theorem dX12_decide_109 : decode cX12_decide 109 = .ok (.imul, 1) := by decide +kernel
theorem dX12_decide_110 : decode cX12_decide 110 = .ok (.aload_n 0, 1) := by decide +kernel
theorem dX12_decide_111 : decode cX12_decide 111 = .ok (.getfield 55, 3) := by decide +kernel
theorem dX12_decide_114 : decode cX12_decide 114 = .ok (.iload 5, 2) := by decide +kernel
theorem dX12_decide_116 : decode cX12_decide 116 = .ok (.iaload, 1) := by decide +kernel
theorem dX12_decide_117 : decode cX12_decide 117 = .ok (.iadd, 1) := by decide +kernel
theorem dX12_decide_118 : decode cX12_decide 118 = .ok (.invokevirtual 389, 3) := by decide +kernel
theorem dX12_decide_121 : decode cX12_decide 121 = .ok (.aload_n 0, 1) := by decide +kernel
theorem dX12_decide_122 : decode cX12_decide 122 = .ok (.getfield 55, 3) := by decide +kernel
theorem dX12_decide_125 : decode cX12_decide 125 = .ok (.iload 5, 2) := by decide +kernel
theorem dX12_decide_127 : decode cX12_decide 127 = .ok (.iaload, 1) := by decide +kernel
theorem dX12_decide_128 : decode cX12_decide 128 = .ok (.iconst 1, 1) := by decide +kernel
theorem dX12_decide_129 : decode cX12_decide 129 = .ok (.iadd, 1) := by decide +kernel
theorem dX12_decide_130 : decode cX12_decide 130 = .ok (.aload_n 0, 1) := by decide +kernel
theorem dX12_decide_131 : decode cX12_decide 131 = .ok (.getfield 283, 3) := by decide +kernel
theorem dX12_decide_134 : decode cX12_decide 134 = .ok (.iadd, 1) := by decide +kernel
theorem dX12_decide_135 : decode cX12_decide 135 = .ok (.aload_n 0, 1) := by decide +kernel
theorem dX12_decide_136 : decode cX12_decide 136 = .ok (.getfield 243, 3) := by decide +kernel
theorem dX12_decide_139 : decode cX12_decide 139 = .ok (.iconst 2, 1) := by decide +kernel
theorem dX12_decide_140 : decode cX12_decide 140 = .ok (.if_icmp .ne 8, 3) := by decide +kernel
theorem dX12_decide_143 : decode cX12_decide 143 = .ok (.bipush 80, 2) := by decide +kernel
theorem dX12_decide_145 : decode cX12_decide 145 = .ok (.goto 5, 3) := by decide +kernel
theorem dX12_decide_148 : decode cX12_decide 148 = .ok (.bipush 77, 2) := by decide +kernel
theorem dX12_decide_150 : decode cX12_decide 150 = .ok (.if_icmp .le 7, 3) := by decide +kernel
theorem dX12_decide_153 : decode cX12_decide 153 = .ok (.iconst 1, 1) := by decide +kernel
theorem dX12_decide_154 : decode cX12_decide 154 = .ok (.goto 4, 3) := by decide +kernel
theorem dX12_decide_157 : decode cX12_decide 157 = .ok (.iconst 0, 1) := by decide +kernel
theorem dX12_decide_158 : decode cX12_decide 158 = .ok (.istore 6, 2) := by decide +kernel
theorem dX12_decide_160 : decode cX12_decide 160 = .ok (.iload 6, 2) := by decide +kernel
theorem dX12_decide_162 : decode cX12_decide 162 = .ok (.ifCond .eq 19, 3) := by decide +kernel
theorem dX12_decide_165 : decode cX12_decide 165 = .ok (.aload_n 0, 1) := by decide +kernel
theorem dX12_decide_166 : decode cX12_decide 166 = .ok (.iconst 0, 1) := by decide +kernel
theorem dX12_decide_167 : decode cX12_decide 167 = .ok (.putfield 283, 3) := by decide +kernel
theorem dX12_decide_170 : decode cX12_decide 170 = .ok (.aload_n 0, 1) := by decide +kernel
theorem dX12_decide_171 : decode cX12_decide 171 = .ok (.bipush 22, 2) := by decide +kernel
theorem dX12_decide_173 : decode cX12_decide 173 = .ok (.bipush 8, 2) := by decide +kernel
theorem dX12_decide_175 : decode cX12_decide 175 = .ok (.invokevirtual 299, 3) := by decide +kernel
theorem dX12_decide_178 : decode cX12_decide 178 = .ok (.goto 13, 3) := by decide +kernel
theorem dX12_decide_181 : decode cX12_decide 181 = .ok (.aload_n 0, 1) := by decide +kernel
theorem dX12_decide_182 : decode cX12_decide 182 = .ok (.getfield 46, 3) := by decide +kernel
theorem dX12_decide_185 : decode cX12_decide 185 = .ok (.iload_n 1, 1) := by decide +kernel
theorem dX12_decide_186 : decode cX12_decide 186 = .ok (.aload_n 0, 1) := by decide +kernel
theorem dX12_decide_187 : decode cX12_decide 187 = .ok (.getfield 240, 3) := by decide +kernel
theorem dX12_decide_190 : decode cX12_decide 190 = .ok (.iastore, 1) := by decide +kernel
theorem dX12_decide_191 : decode cX12_decide 191 = .ok (.aload_n 0, 1) := by decide +kernel
theorem dX12_decide_192 : decode cX12_decide 192 = .ok (.getfield 49, 3) := by decide +kernel
theorem dX12_decide_195 : decode cX12_decide 195 = .ok (.iload_n 1, 1) := by decide +kernel
theorem dX12_decide_196 : decode cX12_decide 196 = .ok (.aload_n 0, 1) := by decide +kernel
theorem dX12_decide_197 : decode cX12_decide 197 = .ok (.getfield 243, 3) := by decide +kernel
theorem dX12_decide_200 : decode cX12_decide 200 = .ok (.ifCond .ne 10, 3) := by decide +kernel
theorem dX12_decide_203 : decode cX12_decide 203 = .ok (.aload_n 0, 1) := by decide +kernel
theorem dX12_decide_204 : decode cX12_decide 204 = .ok (.getfield 237, 3) := by decide +kernel
theorem dX12_decide_207 : decode cX12_decide 207 = .ok (.goto 4, 3) := by decide +kernel
theorem dX12_decide_210 : decode cX12_decide 210 = .ok (.iconst (-1), 1) := by decide +kernel
theorem dX12_decide_211 : decode cX12_decide 211 = .ok (.iastore, 1) := by decide +kernel
theorem dX12_decide_212 : decode cX12_decide 212 = .ok (.aload_n 0, 1) := by decide +kernel
theorem dX12_decide_213 : decode cX12_decide 213 = .ok (.iload_n 1, 1) := by decide +kernel
theorem dX12_decide_214 : decode cX12_decide 214 = .ok (.bipush 7, 2) := by decide +kernel
theorem dX12_decide_216 : decode cX12_decide 216 = .ok (.iload_n 2, 1) := by decide +kernel
theorem dX12_decide_217 : decode cX12_decide 217 = .ok (.iconst 0, 1) := by decide +kernel
theorem dX12_decide_218 : decode cX12_decide 218 = .ok (.invokevirtual 212, 3) := by decide +kernel
theorem dX12_decide_221 : decode cX12_decide 221 = .ok (.iconst 0, 1) := by decide +kernel
theorem dX12_decide_222 : decode cX12_decide 222 = .ok (.istore 7, 2) := by decide +kernel
theorem dX12_decide_224 : decode cX12_decide 224 = .ok (.iload 7, 2) := by decide +kernel
theorem dX12_decide_226 : decode cX12_decide 226 = .ok (.aload_n 0, 1) := by decide +kernel
theorem dX12_decide_227 : decode cX12_decide 227 = .ok (.getfield 283, 3) := by decide +kernel
theorem dX12_decide_230 : decode cX12_decide 230 = .ok (.if_icmp .ge 35, 3) := by decide +kernel
theorem dX12_decide_233 : decode cX12_decide 233 = .ok (.aload_n 0, 1) := by decide +kernel
theorem dX12_decide_234 : decode cX12_decide 234 = .ok (.iload_n 1, 1) := by decide +kernel
theorem dX12_decide_235 : decode cX12_decide 235 = .ok (.aload_n 0, 1) := by decide +kernel
theorem dX12_decide_236 : decode cX12_decide 236 = .ok (.getfield 158, 3) := by decide +kernel
theorem dX12_decide_239 : decode cX12_decide 239 = .ok (.iload 7, 2) := by decide +kernel
theorem dX12_decide_241 : decode cX12_decide 241 = .ok (.iaload, 1) := by decide +kernel
theorem dX12_decide_242 : decode cX12_decide 242 = .ok (.aload_n 0, 1) := by decide +kernel
theorem dX12_decide_243 : decode cX12_decide 243 = .ok (.getfield 161, 3) := by decide +kernel
theorem dX12_decide_246 : decode cX12_decide 246 = .ok (.iload 7, 2) := by decide +kernel
theorem dX12_decide_248 : decode cX12_decide 248 = .ok (.iaload, 1) := by decide +kernel
theorem dX12_decide_249 : decode cX12_decide 249 = .ok (.aload_n 0, 1) := by decide +kernel
theorem dX12_decide_250 : decode cX12_decide 250 = .ok (.getfield 164, 3) := by decide +kernel
theorem dX12_decide_253 : decode cX12_decide 253 = .ok (.iload 7, 2) := by decide +kernel
theorem dX12_decide_255 : decode cX12_decide 255 = .ok (.iaload, 1) := by decide +kernel
theorem dX12_decide_256 : decode cX12_decide 256 = .ok (.invokevirtual 212, 3) := by decide +kernel
theorem dX12_decide_259 : decode cX12_decide 259 = .ok (.iinc 7 1, 3) := by decide +kernel
theorem dX12_decide_262 : decode cX12_decide 262 = .ok (.goto (-38), 3) := by decide +kernel
theorem dX12_decide_265 : decode cX12_decide 265 = .ok (.aload_n 0, 1) := by decide +kernel
theorem dX12_decide_266 : decode cX12_decide 266 = .ok (.getfield 283, 3) := by decide +kernel
theorem dX12_decide_269 : decode cX12_decide 269 = .ok (.istore 7, 2) := by decide +kernel
theorem dX12_decide_271 : decode cX12_decide 271 = .ok (.aload_n 0, 1) := by decide +kernel
theorem dX12_decide_272 : decode cX12_decide 272 = .ok (.iload_n 1, 1) := by decide +kernel
theorem dX12_decide_273 : decode cX12_decide 273 = .ok (.invokevirtual 431, 3) := by decide +kernel
theorem dX12_decide_276 : decode cX12_decide 276 = .ok (.iload 7, 2) := by decide +kernel
theorem dX12_decide_278 : decode cX12_decide 278 = .ok (.ireturn, 1) := by decide +kernel
theorem e_X12_decide_265 (d : Nat) {l0 l1 : Int} {m : Mem} {v : Int} {m' : Mem} (h : X12_decide_265 l0 l1 m = some (v, m')) : Ex (d + 11) fm_X12_decide 265 [(22, l0), (0, l1), (3, 0), (3, 0), (3, 0), (3, 0), (3, 0), (3, 0)] [] m (.inl (0, v)) m' := by
  unfold X12_decide_265 at h
  refine x_aload_n dX12_decide_265 rfl rfl (Or.inr (by decide)) (?_ : Ex _ _ 266 _ _ _ _ _)
  obtain ⟨c1, h⟩ := chk_some h
  refine gt_12_76 c1 fl_RX12_283 dX12_decide_266 (?_ : Ex _ _ 269 _ _ _ _ _)
  refine x_istore (ls2 := [(22, l0), (0, l1), (3, 0), (3, 0), (3, 0), (3, 0), (3, 0), (0, m l0 76)]) dX12_decide_269 (Nat.le_of_ble_eq_true rfl) rfl (?_ : Ex _ _ 271 _ _ _ _ _)
  refine x_aload_n dX12_decide_271 rfl rfl (Or.inr (by decide)) (?_ : Ex _ _ 272 _ _ _ _ _)
  refine x_iload_n dX12_decide_272 rfl rfl (?_ : Ex _ _ 273 _ _ _ _ _)
  obtain ⟨v2, m3, g4, h⟩ := cal_some h
  refine cV1 (e_X12_does (d + 3) g4) (contV (?_ : Ex _ _ 276 _ _ _ _ _)) og_X12_does rfl ml_RX12_431 12 rfl rfl c1 im_X12_does se_X12_does (Nat.le_of_ble_eq_true rfl) dX12_decide_273
  refine x_iload dX12_decide_276 rfl (?_ : Ex _ _ 278 _ _ _ _ _)
  cases h
  exact x_ret dX12_decide_278 (by decide : (0 : Int) ≠ 3)
theorem e_X12_decide_224 (d : Nat) {k265 : Int → Int → Mem → Option R2} (hk265 : ∀ {l0 l1 : Int} {m : Mem} {v : Int} {m' : Mem}, k265 l0 l1 m = some (v, m') → Ex (d + 11) fm_X12_decide 265 [(22, l0), (0, l1), (3, 0), (3, 0), (3, 0), (3, 0), (3, 0), (3, 0)] [] m (.inl (0, v)) m') : ∀ (n : Nat) {l0 l1 l7 : Int} {m : Mem} {v : Int} {m' : Mem}, X12_decide_224 k265 n l0 l1 l7 m = some (v, m') → Ex (d + 11) fm_X12_decide 224 [(22, l0), (0, l1), (3, 0), (3, 0), (3, 0), (3, 0), (3, 0), (0, l7)] [] m (.inl (0, v)) m' := by
  intro n
  induction n with
  | zero =>
    intro l0 l1 l7 m v m' h
    have h : (none : Option R2) = some _ := h
    cases h
  | succ n ih =>
    intro l0 l1 l7 m v m' h
    rw [X12_decide_224] at h
    refine x_iload dX12_decide_224 rfl (?_ : Ex _ _ 226 _ _ _ _ _)
    refine x_aload_n dX12_decide_226 rfl rfl (Or.inr (by decide)) (?_ : Ex _ _ 227 _ _ _ _ _)
    obtain ⟨c1, h⟩ := chk_some h
    refine gt_12_76 c1 fl_RX12_283 dX12_decide_227 (?_ : Ex _ _ 230 _ _ _ _ _)
    rcases ite_some h with ⟨b2, h⟩ | ⟨b2, h⟩
    · refine x_icmp_ge (tgt := 265) dX12_decide_230 rfl b2 (?_ : Ex _ _ 265 _ _ _ _ _)
      refine Ex.wk (ls2 := [(22, l0), (0, l1), (3, 0), (3, 0), (3, 0), (3, 0), (3, 0), (3, 0)]) ⟨Or.inr rfl, Or.inr rfl, Or.inl rfl, Or.inl rfl, Or.inl rfl, Or.inl rfl, Or.inl rfl, Or.inl rfl, trivial⟩ ?_
      exact hk265 h
    · refine x_icmp_geN dX12_decide_230 (by decide) b2 (?_ : Ex _ _ 233 _ _ _ _ _)
      refine x_aload_n dX12_decide_233 rfl rfl (Or.inr (by decide)) (?_ : Ex _ _ 234 _ _ _ _ _)
      refine x_iload_n dX12_decide_234 rfl rfl (?_ : Ex _ _ 235 _ _ _ _ _)
      refine x_aload_n dX12_decide_235 rfl rfl (Or.inr (by decide)) (?_ : Ex _ _ 236 _ _ _ _ _)
      refine gt_12_72 c1 fl_RX12_158 dX12_decide_236 (?_ : Ex _ _ 239 _ _ _ _ _)
      refine x_iload dX12_decide_239 rfl (?_ : Ex _ _ 241 _ _ _ _ _)
      obtain ⟨⟨c3, c4, c5⟩, h⟩ := chk_some h
      refine ld_i_5200 c3 c4 c5 dX12_decide_241 (?_ : Ex _ _ 242 _ _ _ _ _)
      refine x_aload_n dX12_decide_242 rfl rfl (Or.inr (by decide)) (?_ : Ex _ _ 243 _ _ _ _ _)
      refine gt_12_73 c1 fl_RX12_161 dX12_decide_243 (?_ : Ex _ _ 246 _ _ _ _ _)
      refine x_iload dX12_decide_246 rfl (?_ : Ex _ _ 248 _ _ _ _ _)
      obtain ⟨⟨c6, c7, c8⟩, h⟩ := chk_some h
      refine ld_i_5200 c6 c7 c8 dX12_decide_248 (?_ : Ex _ _ 249 _ _ _ _ _)
      refine x_aload_n dX12_decide_249 rfl rfl (Or.inr (by decide)) (?_ : Ex _ _ 250 _ _ _ _ _)
      refine gt_12_74 c1 fl_RX12_164 dX12_decide_250 (?_ : Ex _ _ 253 _ _ _ _ _)
      refine x_iload dX12_decide_253 rfl (?_ : Ex _ _ 255 _ _ _ _ _)
      obtain ⟨⟨c9, c10, c11⟩, h⟩ := chk_some h
      refine ld_i_5200 c9 c10 c11 dX12_decide_255 (?_ : Ex _ _ 256 _ _ _ _ _)
      obtain ⟨v12, m13, g14, h⟩ := cal_some h
      refine cV4 (e_X12_writes (d + 9) g14) (contV (?_ : Ex _ _ 259 _ _ _ _ _)) og_X12_writes rfl ml_RX12_212 12 rfl rfl c1 im_X12_writes se_X12_writes (Nat.le_of_ble_eq_true rfl) dX12_decide_256
      obtain ⟨c15, h⟩ := chk_some h
      refine x_iinc (ls2 := [(22, l0), (0, l1), (3, 0), (3, 0), (3, 0), (3, 0), (3, 0), (0, (l7 + 1))]) dX12_decide_259 rfl c15 rfl (?_ : Ex _ _ 262 _ _ _ _ _)
      refine x_goto (tgt := 224) dX12_decide_262 rfl (?_ : Ex _ _ 224 _ _ _ _ _)
      exact ih h
theorem e_X12_decide_211 (d : Nat) {l0 l1 l2 s0 s1 s2 : Int} {m : Mem} {v : Int} {m' : Mem} (h : X12_decide_211 l0 l1 l2 s0 s1 s2 m = some (v, m')) : Ex (d + 11) fm_X12_decide 211 [(22, l0), (0, l1), (0, l2), (3, 0), (3, 0), (3, 0), (3, 0), (3, 0)] [(0, s0), (0, s1), (100010, s2)] m (.inl (0, v)) m' := by
  unfold X12_decide_211 at h
  obtain ⟨⟨c1, c2, c3⟩, h⟩ := chk_some h
  obtain ⟨m4, hm4, h⟩ := st_some h
  refine sd_i_10 c1 c2 c3 dX12_decide_211 (?_ : Ex _ _ 212 _ _ _ _ _)
  rw [← hm4]
  refine x_aload_n dX12_decide_212 rfl rfl (Or.inr (by decide)) (?_ : Ex _ _ 213 _ _ _ _ _)
  refine x_iload_n dX12_decide_213 rfl rfl (?_ : Ex _ _ 214 _ _ _ _ _)
  refine x_bipush dX12_decide_214 kb_7 (by decide) (?_ : Ex _ _ 216 _ _ _ _ _)
  refine x_iload_n dX12_decide_216 rfl rfl (?_ : Ex _ _ 217 _ _ _ _ _)
  refine x_iconst dX12_decide_217 rfl (by decide) (?_ : Ex _ _ 218 _ _ _ _ _)
  obtain ⟨c5, h⟩ := chk_some h
  obtain ⟨v6, m7, g8, h⟩ := cal_some h
  refine cV4 (e_X12_writes (d + 9) g8) (contV (?_ : Ex _ _ 221 _ _ _ _ _)) og_X12_writes rfl ml_RX12_212 12 rfl rfl c5 im_X12_writes se_X12_writes (Nat.le_of_ble_eq_true rfl) dX12_decide_218
  refine x_iconst dX12_decide_221 rfl (by decide) (?_ : Ex _ _ 222 _ _ _ _ _)
  refine x_istore (ls2 := [(22, l0), (0, l1), (0, l2), (3, 0), (3, 0), (3, 0), (3, 0), (0, 0)]) dX12_decide_222 (Nat.le_of_ble_eq_true rfl) rfl (?_ : Ex _ _ 224 _ _ _ _ _)
  refine Ex.wk (ls2 := [(22, l0), (0, l1), (3, 0), (3, 0), (3, 0), (3, 0), (3, 0), (0, 0)]) ⟨Or.inr rfl, Or.inr rfl, Or.inl rfl, Or.inl rfl, Or.inl rfl, Or.inl rfl, Or.inl rfl, Or.inr rfl, trivial⟩ ?_
  exact e_X12_decide_224 d (fun h => e_X12_decide_265 d h) fuel9 h
theorem e_X12_decide_191 (d : Nat) {l0 l1 l2 : Int} {m : Mem} {v : Int} {m' : Mem} (h : X12_decide_191 l0 l1 l2 m = some (v, m')) : Ex (d + 11) fm_X12_decide 191 [(22, l0), (0, l1), (0, l2), (3, 0), (3, 0), (3, 0), (3, 0), (3, 0)] [] m (.inl (0, v)) m' := by
  unfold X12_decide_191 at h
  refine x_aload_n dX12_decide_191 rfl rfl (Or.inr (by decide)) (?_ : Ex _ _ 192 _ _ _ _ _)
  obtain ⟨c1, h⟩ := chk_some h
  refine gt_12_15 c1 fl_RX12_49 dX12_decide_192 (?_ : Ex _ _ 195 _ _ _ _ _)
  refine x_iload_n dX12_decide_195 rfl rfl (?_ : Ex _ _ 196 _ _ _ _ _)
  refine x_aload_n dX12_decide_196 rfl rfl (Or.inr (by decide)) (?_ : Ex _ _ 197 _ _ _ _ _)
  refine gt_12_42 c1 fl_RX12_243 dX12_decide_197 (?_ : Ex _ _ 200 _ _ _ _ _)
  rcases ite_some h with ⟨b2, h⟩ | ⟨b2, h⟩
  · refine x_if_neN dX12_decide_200 (by decide) (fun hh => hh b2) (?_ : Ex _ _ 203 _ _ _ _ _)
    refine x_aload_n dX12_decide_203 rfl rfl (Or.inr (by decide)) (?_ : Ex _ _ 204 _ _ _ _ _)
    refine gt_12_40 c1 fl_RX12_237 dX12_decide_204 (?_ : Ex _ _ 207 _ _ _ _ _)
    refine x_goto (tgt := 211) dX12_decide_207 rfl (?_ : Ex _ _ 211 _ _ _ _ _)
    exact e_X12_decide_211 d h
  · refine x_if_ne (tgt := 210) dX12_decide_200 rfl b2 (?_ : Ex _ _ 210 _ _ _ _ _)
    refine x_iconst dX12_decide_210 rfl (by decide) (?_ : Ex _ _ 211 _ _ _ _ _)
    exact e_X12_decide_211 d h
theorem e_X12_decide_158 (d : Nat) {l0 l1 l2 s0 : Int} {m : Mem} {v : Int} {m' : Mem} (h : X12_decide_158 l0 l1 l2 s0 m = some (v, m')) : Ex (d + 11) fm_X12_decide 158 [(22, l0), (0, l1), (0, l2), (3, 0), (3, 0), (3, 0), (3, 0), (3, 0)] [(0, s0)] m (.inl (0, v)) m' := by
  unfold X12_decide_158 at h
  refine x_istore (ls2 := [(22, l0), (0, l1), (0, l2), (3, 0), (3, 0), (3, 0), (0, s0), (3, 0)]) dX12_decide_158 (Nat.le_of_ble_eq_true rfl) rfl (?_ : Ex _ _ 160 _ _ _ _ _)
  refine x_iload dX12_decide_160 rfl (?_ : Ex _ _ 162 _ _ _ _ _)
  rcases ite_some h with ⟨b1, h⟩ | ⟨b1, h⟩
  · refine x_if_eq (tgt := 181) dX12_decide_162 rfl b1 (?_ : Ex _ _ 181 _ _ _ _ _)
    refine x_aload_n dX12_decide_181 rfl rfl (Or.inr (by decide)) (?_ : Ex _ _ 182 _ _ _ _ _)
    obtain ⟨c2, h⟩ := chk_some h
    refine gt_12_14 c2 fl_RX12_46 dX12_decide_182 (?_ : Ex _ _ 185 _ _ _ _ _)
    refine x_iload_n dX12_decide_185 rfl rfl (?_ : Ex _ _ 186 _ _ _ _ _)
    refine x_aload_n dX12_decide_186 rfl rfl (Or.inr (by decide)) (?_ : Ex _ _ 187 _ _ _ _ _)
    refine gt_12_41 c2 fl_RX12_240 dX12_decide_187 (?_ : Ex _ _ 190 _ _ _ _ _)
    obtain ⟨⟨c3, c4, c5⟩, h⟩ := chk_some h
    obtain ⟨m6, hm6, h⟩ := st_some h
    refine sd_i_10 c3 c4 c5 dX12_decide_190 (?_ : Ex _ _ 191 _ _ _ _ _)
    rw [← hm6]
    refine Ex.wk (ls2 := [(22, l0), (0, l1), (0, l2), (3, 0), (3, 0), (3, 0), (3, 0), (3, 0)]) ⟨Or.inr rfl, Or.inr rfl, Or.inr rfl, Or.inl rfl, Or.inl rfl, Or.inl rfl, Or.inl rfl, Or.inl rfl, trivial⟩ ?_
    exact e_X12_decide_191 d h
  · refine x_if_eqN dX12_decide_162 (by decide) b1 (?_ : Ex _ _ 165 _ _ _ _ _)
    refine x_aload_n dX12_decide_165 rfl rfl (Or.inr (by decide)) (?_ : Ex _ _ 166 _ _ _ _ _)
    refine x_iconst dX12_decide_166 rfl (by decide) (?_ : Ex _ _ 167 _ _ _ _ _)
    obtain ⟨c7, h⟩ := chk_some h
    obtain ⟨m8, hm8, h⟩ := st_some h
    refine pt_12_76  c7 fl_RX12_283 dX12_decide_167 (?_ : Ex _ _ 170 _ _ _ _ _)
    rw [← hm8]
    refine x_aload_n dX12_decide_170 rfl rfl (Or.inr (by decide)) (?_ : Ex _ _ 171 _ _ _ _ _)
    refine x_bipush dX12_decide_171 kb_22 (by decide) (?_ : Ex _ _ 173 _ _ _ _ _)
    refine x_bipush dX12_decide_173 kb_8 (by decide) (?_ : Ex _ _ 175 _ _ _ _ _)
    obtain ⟨v9, m10, g11, h⟩ := cal_some h
    refine cV2 (e_X12_ends (d + 9) g11) (contV (?_ : Ex _ _ 178 _ _ _ _ _)) og_X12_ends rfl ml_RX12_299 12 rfl rfl c7 im_X12_ends se_X12_ends (Nat.le_of_ble_eq_true rfl) dX12_decide_175
    refine x_goto (tgt := 191) dX12_decide_178 rfl (?_ : Ex _ _ 191 _ _ _ _ _)
    refine Ex.wk (ls2 := [(22, l0), (0, l1), (0, l2), (3, 0), (3, 0), (3, 0), (3, 0), (3, 0)]) ⟨Or.inr rfl, Or.inr rfl, Or.inr rfl, Or.inl rfl, Or.inl rfl, Or.inl rfl, Or.inl rfl, Or.inl rfl, trivial⟩ ?_
    exact e_X12_decide_191 d h
theorem e_X12_decide_150 (d : Nat) {l0 l1 l2 s0 s1 : Int} {m : Mem} {v : Int} {m' : Mem} (h : X12_decide_150 l0 l1 l2 s0 s1 m = some (v, m')) : Ex (d + 11) fm_X12_decide 150 [(22, l0), (0, l1), (0, l2), (3, 0), (3, 0), (3, 0), (3, 0), (3, 0)] [(0, s0), (0, s1)] m (.inl (0, v)) m' := by
  unfold X12_decide_150 at h
  rcases ite_some h with ⟨b1, h⟩ | ⟨b1, h⟩
  · refine x_icmp_le (tgt := 157) dX12_decide_150 rfl b1 (?_ : Ex _ _ 157 _ _ _ _ _)
    refine x_iconst dX12_decide_157 rfl (by decide) (?_ : Ex _ _ 158 _ _ _ _ _)
    exact e_X12_decide_158 d h
  · refine x_icmp_leN dX12_decide_150 (by decide) b1 (?_ : Ex _ _ 153 _ _ _ _ _)
    refine x_iconst dX12_decide_153 rfl (by decide) (?_ : Ex _ _ 154 _ _ _ _ _)
    refine x_goto (tgt := 158) dX12_decide_154 rfl (?_ : Ex _ _ 158 _ _ _ _ _)
    exact e_X12_decide_158 d h
theorem e_X12_decide_55 (d : Nat) {l0 l1 l2 s0 s1 : Int} {m : Mem} {v : Int} {m' : Mem} (h : X12_decide_55 l0 l1 l2 s0 s1 m = some (v, m')) : Ex (d + 11) fm_X12_decide 55 [(22, l0), (0, l1), (0, l2), (3, 0), (3, 0), (3, 0), (3, 0), (3, 0)] [(0, s0), (22, s1)] m (.inl (0, v)) m' := by
  unfold X12_decide_55 at h
  obtain ⟨c1, h⟩ := chk_some h
  obtain ⟨v2, m3, g4, h⟩ := cal_some h
  refine cV1 (e_X12_isFine (d + 10) g4) (contN (by decide) (?_ : Ex _ _ 58 _ _ _ _ _)) og_X12_isFine rfl ml_RX12_198 12 rfl rfl c1 im_X12_isFine se_X12_isFine (Nat.le_of_ble_eq_true rfl) dX12_decide_55
  rcases ite_some h with ⟨b5, h⟩ | ⟨b5, h⟩
  · refine x_if_neN dX12_decide_58 (by decide) (fun hh => hh b5) (?_ : Ex _ _ 61 _ _ _ _ _)
    refine x_iconst dX12_decide_61 rfl (by decide) (?_ : Ex _ _ 62 _ _ _ _ _)
    cases h
    exact x_ret dX12_decide_62 (by decide : (0 : Int) ≠ 3)
  · refine x_if_ne (tgt := 63) dX12_decide_58 rfl b5 (?_ : Ex _ _ 63 _ _ _ _ _)
    refine x_aload_n dX12_decide_63 rfl rfl (Or.inr (by decide)) (?_ : Ex _ _ 64 _ _ _ _ _)
    refine x_iload_n dX12_decide_64 rfl rfl (?_ : Ex _ _ 65 _ _ _ _ _)
    obtain ⟨c6, h⟩ := chk_some h
    obtain ⟨v7, m8, g9, h⟩ := cal_some h
    refine cV1 (e_X12_isDueNow (d + 8) g9) (contN (by decide) (?_ : Ex _ _ 68 _ _ _ _ _)) og_X12_isDueNow rfl ml_RX12_425 12 rfl rfl c6 im_X12_isDueNow se_X12_isDueNow (Nat.le_of_ble_eq_true rfl) dX12_decide_65
    rcases ite_some h with ⟨b10, h⟩ | ⟨b10, h⟩
    · refine x_if_neN dX12_decide_68 (by decide) (fun hh => hh b10) (?_ : Ex _ _ 71 _ _ _ _ _)
      refine x_iconst dX12_decide_71 rfl (by decide) (?_ : Ex _ _ 72 _ _ _ _ _)
      cases h
      exact x_ret dX12_decide_72 (by decide : (0 : Int) ≠ 3)
    · refine x_if_ne (tgt := 73) dX12_decide_68 rfl b10 (?_ : Ex _ _ 73 _ _ _ _ _)
      refine x_aload_n dX12_decide_73 rfl rfl (Or.inr (by decide)) (?_ : Ex _ _ 74 _ _ _ _ _)
      refine x_iload_n dX12_decide_74 rfl rfl (?_ : Ex _ _ 75 _ _ _ _ _)
      refine x_iload_n dX12_decide_75 rfl rfl (?_ : Ex _ _ 76 _ _ _ _ _)
      obtain ⟨v11, m12, g13, h⟩ := cal_some h
      refine cV2 (e_X12_plays d g13) (contN (by decide) (?_ : Ex _ _ 79 _ _ _ _ _)) og_X12_plays rfl ml_RX12_428 12 rfl rfl c6 im_X12_plays se_X12_plays (Nat.le_of_ble_eq_true rfl) dX12_decide_76
      refine x_istore (ls2 := [(22, l0), (0, l1), (0, l2), (3, 0), (0, v11), (3, 0), (3, 0), (3, 0)]) dX12_decide_79 (Nat.le_of_ble_eq_true rfl) rfl (?_ : Ex _ _ 81 _ _ _ _ _)
      refine x_iload dX12_decide_81 rfl (?_ : Ex _ _ 83 _ _ _ _ _)
      refine x_iconst dX12_decide_83 rfl (by decide) (?_ : Ex _ _ 84 _ _ _ _ _)
      rcases ite_some h with ⟨b14, h⟩ | ⟨b14, h⟩
      · refine x_icmp_neN dX12_decide_84 (by decide) (fun hh => hh b14) (?_ : Ex _ _ 87 _ _ _ _ _)
        refine x_bipush dX12_decide_87 kb_n2 (by decide) (?_ : Ex _ _ 89 _ _ _ _ _)
        cases h
        exact x_ret dX12_decide_89 (by decide : (0 : Int) ≠ 3)
      · refine x_icmp_ne (tgt := 90) dX12_decide_84 rfl b14 (?_ : Ex _ _ 90 _ _ _ _ _)
        refine x_aload_n dX12_decide_90 rfl rfl (Or.inr (by decide)) (?_ : Ex _ _ 91 _ _ _ _ _)
        refine x_iload_n dX12_decide_91 rfl rfl (?_ : Ex _ _ 92 _ _ _ _ _)
        obtain ⟨v15, m16, g17, h⟩ := cal_some h
        refine cV1 (e_X12_rowOfRun (d + 10) g17) (contN (by decide) (?_ : Ex _ _ 95 _ _ _ _ _)) og_X12_rowOfRun rfl ml_RX12_205 12 rfl rfl c6 im_X12_rowOfRun se_X12_rowOfRun (Nat.le_of_ble_eq_true rfl) dX12_decide_92
        refine x_istore (ls2 := [(22, l0), (0, l1), (0, l2), (3, 0), (0, v11), (0, v15), (3, 0), (3, 0)]) dX12_decide_95 (Nat.le_of_ble_eq_true rfl) rfl (?_ : Ex _ _ 97 _ _ _ _ _)
        refine x_aload_n dX12_decide_97 rfl rfl (Or.inr (by decide)) (?_ : Ex _ _ 98 _ _ _ _ _)
        refine x_iconst dX12_decide_98 rfl (by decide) (?_ : Ex _ _ 99 _ _ _ _ _)
        obtain ⟨m18, hm18, h⟩ := st_some h
        refine pt_12_80  c6 (by decide) fl_RX12_336 dX12_decide_99 (?_ : Ex _ _ 102 _ _ _ _ _)
        rw [← hm18]
        refine x_aload_n dX12_decide_102 rfl rfl (Or.inr (by decide)) (?_ : Ex _ _ 103 _ _ _ _ _)
        refine x_iload dX12_decide_103 rfl (?_ : Ex _ _ 105 _ _ _ _ _)
        refine x_bipush dX12_decide_105 kb_80 (by decide) (?_ : Ex _ _ 107 _ _ _ _ _)
        refine x_iload dX12_decide_107 rfl (?_ : Ex _ _ 109 _ _ _ _ _)
        obtain ⟨c19, h⟩ := chk_some h
        refine x_imul dX12_decide_109 c19 (?_ : Ex _ _ 110 _ _ _ _ _)
        refine x_aload_n dX12_decide_110 rfl rfl (Or.inr (by decide)) (?_ : Ex _ _ 111 _ _ _ _ _)
        refine gt_12_18 c6 fl_RX12_55 dX12_decide_111 (?_ : Ex _ _ 114 _ _ _ _ _)
        refine x_iload dX12_decide_114 rfl (?_ : Ex _ _ 116 _ _ _ _ _)
        obtain ⟨⟨c20, c21, c22⟩, h⟩ := chk_some h
        refine ld_i_90 c20 c21 c22 dX12_decide_116 (?_ : Ex _ _ 117 _ _ _ _ _)
        obtain ⟨c23, h⟩ := chk_some h
        refine x_iadd dX12_decide_117 c23 (?_ : Ex _ _ 118 _ _ _ _ _)
        obtain ⟨v24, m25, g26, h⟩ := cal_some h
        refine cV2 (e_X12_takesAll (d + 1) g26) (contV (?_ : Ex _ _ 121 _ _ _ _ _)) og_X12_takesAll rfl ml_RX12_389 12 rfl rfl c6 im_X12_takesAll se_X12_takesAll (Nat.le_of_ble_eq_true rfl) dX12_decide_118
        refine x_aload_n dX12_decide_121 rfl rfl (Or.inr (by decide)) (?_ : Ex _ _ 122 _ _ _ _ _)
        refine gt_12_18 c6 fl_RX12_55 dX12_decide_122 (?_ : Ex _ _ 125 _ _ _ _ _)
        refine x_iload dX12_decide_125 rfl (?_ : Ex _ _ 127 _ _ _ _ _)
        obtain ⟨⟨c27, c28, c29⟩, h⟩ := chk_some h
        refine ld_i_90 c27 c28 c29 dX12_decide_127 (?_ : Ex _ _ 128 _ _ _ _ _)
        refine x_iconst dX12_decide_128 rfl (by decide) (?_ : Ex _ _ 129 _ _ _ _ _)
        obtain ⟨c30, h⟩ := chk_some h
        refine x_iadd dX12_decide_129 c30 (?_ : Ex _ _ 130 _ _ _ _ _)
        refine x_aload_n dX12_decide_130 rfl rfl (Or.inr (by decide)) (?_ : Ex _ _ 131 _ _ _ _ _)
        refine gt_12_76 c6 fl_RX12_283 dX12_decide_131 (?_ : Ex _ _ 134 _ _ _ _ _)
        obtain ⟨c31, h⟩ := chk_some h
        refine x_iadd dX12_decide_134 c31 (?_ : Ex _ _ 135 _ _ _ _ _)
        refine x_aload_n dX12_decide_135 rfl rfl (Or.inr (by decide)) (?_ : Ex _ _ 136 _ _ _ _ _)
        refine gt_12_42 c6 fl_RX12_243 dX12_decide_136 (?_ : Ex _ _ 139 _ _ _ _ _)
        refine x_iconst dX12_decide_139 rfl (by decide) (?_ : Ex _ _ 140 _ _ _ _ _)
        rcases ite_some h with ⟨b32, h⟩ | ⟨b32, h⟩
        · refine x_icmp_neN dX12_decide_140 (by decide) (fun hh => hh b32) (?_ : Ex _ _ 143 _ _ _ _ _)
          refine x_bipush dX12_decide_143 kb_80 (by decide) (?_ : Ex _ _ 145 _ _ _ _ _)
          refine x_goto (tgt := 150) dX12_decide_145 rfl (?_ : Ex _ _ 150 _ _ _ _ _)
          refine Ex.wk (ls2 := [(22, l0), (0, l1), (0, l2), (3, 0), (3, 0), (3, 0), (3, 0), (3, 0)]) ⟨Or.inr rfl, Or.inr rfl, Or.inr rfl, Or.inl rfl, Or.inl rfl, Or.inl rfl, Or.inl rfl, Or.inl rfl, trivial⟩ ?_
          exact e_X12_decide_150 d h
        · refine x_icmp_ne (tgt := 148) dX12_decide_140 rfl b32 (?_ : Ex _ _ 148 _ _ _ _ _)
          refine x_bipush dX12_decide_148 kb_77 (by decide) (?_ : Ex _ _ 150 _ _ _ _ _)
          refine Ex.wk (ls2 := [(22, l0), (0, l1), (0, l2), (3, 0), (3, 0), (3, 0), (3, 0), (3, 0)]) ⟨Or.inr rfl, Or.inr rfl, Or.inr rfl, Or.inl rfl, Or.inl rfl, Or.inl rfl, Or.inl rfl, Or.inl rfl, trivial⟩ ?_
          exact e_X12_decide_150 d h
theorem e_X12_decide_32 (d : Nat) {l0 l1 l2 s0 : Int} {m : Mem} {v : Int} {m' : Mem} (h : X12_decide_32 l0 l1 l2 s0 m = some (v, m')) : Ex (d + 11) fm_X12_decide 32 [(22, l0), (0, l1), (0, l2), (3, 0), (3, 0), (3, 0), (3, 0), (3, 0)] [(0, s0)] m (.inl (0, v)) m' := by
  unfold X12_decide_32 at h
  refine x_istore_n (ls2 := [(22, l0), (0, l1), (0, l2), (0, s0), (3, 0), (3, 0), (3, 0), (3, 0)]) dX12_decide_32 rfl (Nat.le_of_ble_eq_true rfl) rfl (?_ : Ex _ _ 33 _ _ _ _ _)
  refine x_aload_n dX12_decide_33 rfl rfl (Or.inr (by decide)) (?_ : Ex _ _ 34 _ _ _ _ _)
  refine x_iload_n dX12_decide_34 rfl rfl (?_ : Ex _ _ 35 _ _ _ _ _)
  rcases ite_some h with ⟨b1, h⟩ | ⟨b1, h⟩
  · refine x_if_neN dX12_decide_35 (by decide) (fun hh => hh b1) (?_ : Ex _ _ 38 _ _ _ _ _)
    refine x_iconst dX12_decide_38 rfl (by decide) (?_ : Ex _ _ 39 _ _ _ _ _)
    refine x_goto (tgt := 55) dX12_decide_39 rfl (?_ : Ex _ _ 55 _ _ _ _ _)
    refine Ex.wk (ls2 := [(22, l0), (0, l1), (0, l2), (3, 0), (3, 0), (3, 0), (3, 0), (3, 0)]) ⟨Or.inr rfl, Or.inr rfl, Or.inr rfl, Or.inl rfl, Or.inl rfl, Or.inl rfl, Or.inl rfl, Or.inl rfl, trivial⟩ ?_
    exact e_X12_decide_55 d h
  · refine x_if_ne (tgt := 42) dX12_decide_35 rfl b1 (?_ : Ex _ _ 42 _ _ _ _ _)
    refine x_aload_n dX12_decide_42 rfl rfl (Or.inr (by decide)) (?_ : Ex _ _ 43 _ _ _ _ _)
    refine x_iload_n dX12_decide_43 rfl rfl (?_ : Ex _ _ 44 _ _ _ _ _)
    obtain ⟨c2, h⟩ := chk_some h
    obtain ⟨v3, m4, g5, h⟩ := cal_some h
    refine cV1 (e_X12_isRunning (d + 9) g5) (contN (by decide) (?_ : Ex _ _ 47 _ _ _ _ _)) og_X12_isRunning rfl ml_RX12_209 12 rfl rfl c2 im_X12_isRunning se_X12_isRunning (Nat.le_of_ble_eq_true rfl) dX12_decide_44
    rcases ite_some h with ⟨b6, h⟩ | ⟨b6, h⟩
    · refine x_if_neN dX12_decide_47 (by decide) (fun hh => hh b6) (?_ : Ex _ _ 50 _ _ _ _ _)
      refine x_iconst dX12_decide_50 rfl (by decide) (?_ : Ex _ _ 51 _ _ _ _ _)
      refine x_goto (tgt := 55) dX12_decide_51 rfl (?_ : Ex _ _ 55 _ _ _ _ _)
      refine Ex.wk (ls2 := [(22, l0), (0, l1), (0, l2), (3, 0), (3, 0), (3, 0), (3, 0), (3, 0)]) ⟨Or.inr rfl, Or.inr rfl, Or.inr rfl, Or.inl rfl, Or.inl rfl, Or.inl rfl, Or.inl rfl, Or.inl rfl, trivial⟩ ?_
      exact e_X12_decide_55 d h
    · refine x_if_ne (tgt := 54) dX12_decide_47 rfl b6 (?_ : Ex _ _ 54 _ _ _ _ _)
      refine x_iconst dX12_decide_54 rfl (by decide) (?_ : Ex _ _ 55 _ _ _ _ _)
      refine Ex.wk (ls2 := [(22, l0), (0, l1), (0, l2), (3, 0), (3, 0), (3, 0), (3, 0), (3, 0)]) ⟨Or.inr rfl, Or.inr rfl, Or.inr rfl, Or.inl rfl, Or.inl rfl, Or.inl rfl, Or.inl rfl, Or.inl rfl, trivial⟩ ?_
      exact e_X12_decide_55 d h
theorem e_X12_decide_0 (d : Nat) {l0 l1 l2 : Int} {m : Mem} {v : Int} {m' : Mem} (h : X12_decide_0 l0 l1 l2 m = some (v, m')) : Ex (d + 11) fm_X12_decide 0 [(22, l0), (0, l1), (0, l2), (3, 0), (3, 0), (3, 0), (3, 0), (3, 0)] [] m (.inl (0, v)) m' := by
  unfold X12_decide_0 at h
  refine x_aload_n dX12_decide_0 rfl rfl (Or.inr (by decide)) (?_ : Ex _ _ 1 _ _ _ _ _)
  refine x_iload_n dX12_decide_1 rfl rfl (?_ : Ex _ _ 2 _ _ _ _ _)
  obtain ⟨c1, h⟩ := chk_some h
  obtain ⟨v2, m3, g4, h⟩ := cal_some h
  refine cV1 (e_X12_isFlow (d + 9) g4) (contN (by decide) (?_ : Ex _ _ 5 _ _ _ _ _)) og_X12_isFlow rfl ml_RX12_224 12 rfl rfl c1 im_X12_isFlow se_X12_isFlow (Nat.le_of_ble_eq_true rfl) dX12_decide_2
  rcases ite_some h with ⟨b5, h⟩ | ⟨b5, h⟩
  · refine x_if_eq (tgt := 31) dX12_decide_5 rfl b5 (?_ : Ex _ _ 31 _ _ _ _ _)
    refine x_iconst dX12_decide_31 rfl (by decide) (?_ : Ex _ _ 32 _ _ _ _ _)
    exact e_X12_decide_32 d h
  · refine x_if_eqN dX12_decide_5 (by decide) b5 (?_ : Ex _ _ 8 _ _ _ _ _)
    refine x_iload_n dX12_decide_8 rfl rfl (?_ : Ex _ _ 9 _ _ _ _ _)
    refine x_iconst dX12_decide_9 rfl (by decide) (?_ : Ex _ _ 10 _ _ _ _ _)
    refine x_aload_n dX12_decide_10 rfl rfl (Or.inr (by decide)) (?_ : Ex _ _ 11 _ _ _ _ _)
    refine gt_12_6 c1 fl_RX12_22 dX12_decide_11 (?_ : Ex _ _ 14 _ _ _ _ _)
    refine x_aload_n dX12_decide_14 rfl rfl (Or.inr (by decide)) (?_ : Ex _ _ 15 _ _ _ _ _)
    refine gt_12_7 c1 fl_RX12_25 dX12_decide_15 (?_ : Ex _ _ 18 _ _ _ _ _)
    refine x_iload_n dX12_decide_18 rfl rfl (?_ : Ex _ _ 19 _ _ _ _ _)
    obtain ⟨⟨c6, c7, c8⟩, h⟩ := chk_some h
    refine ld_i_10 c6 c7 c8 dX12_decide_19 (?_ : Ex _ _ 20 _ _ _ _ _)
    obtain ⟨⟨c9, c10, c11⟩, h⟩ := chk_some h
    refine ld_i_3 c9 c10 c11 dX12_decide_20 (?_ : Ex _ _ 21 _ _ _ _ _)
    obtain ⟨v12, m13, g14, h⟩ := cal_some h
    refine cS3 (e_X12_isIn (d + 10) g14) (contN (by decide) (?_ : Ex _ _ 24 _ _ _ _ _)) og_X12_isIn rfl ml_RX12_177 sm_X12_isIn (Nat.le_of_ble_eq_true rfl) dX12_decide_21
    rcases ite_some h with ⟨b15, h⟩ | ⟨b15, h⟩
    · refine x_if_eq (tgt := 31) dX12_decide_24 rfl b15 (?_ : Ex _ _ 31 _ _ _ _ _)
      refine x_iconst dX12_decide_31 rfl (by decide) (?_ : Ex _ _ 32 _ _ _ _ _)
      exact e_X12_decide_32 d h
    · refine x_if_eqN dX12_decide_24 (by decide) b15 (?_ : Ex _ _ 27 _ _ _ _ _)
      refine x_iconst dX12_decide_27 rfl (by decide) (?_ : Ex _ _ 28 _ _ _ _ _)
      refine x_goto (tgt := 32) dX12_decide_28 rfl (?_ : Ex _ _ 32 _ _ _ _ _)
      exact e_X12_decide_32 d h
theorem e_X12_decide (d : Nat) {a0 a1 a2 : Int} {m : Mem} {v : Int} {m' : Mem} (h : X12_decide a0 a1 a2 m = some (v, m')) : ExM (d + 11) fm_X12_decide [(22, a0), (0, a1), (0, a2)] m (.inl (0, v)) m' := by
  exact ExM.of (by decide +kernel) (Nat.le_of_ble_eq_true rfl) (cat9 rfl) retI (e_X12_decide_0 d h)
theorem dX12_setRate_0 : decode cX12_setRate 0 = .ok (.aload_n 0, 1) := by decide +kernel
theorem dX12_setRate_1 : decode cX12_setRate 1 = .ok (.iload_n 1, 1) := by decide +kernel
theorem dX12_setRate_2 : decode cX12_setRate 2 = .ok (.invokestatic 434, 3) := by decide +kernel
theorem dX12_setRate_5 : decode cX12_setRate 5 = .ok (.ifCond .ne 7, 3) := by decide +kernel
theorem dX12_setRate_8 : decode cX12_setRate 8 = .ok (.iconst 1, 1) := by decide +kernel
theorem dX12_setRate_9 : decode cX12_setRate 9 = .ok (.goto 18, 3) := by decide +kernel
theorem dX12_setRate_12 : decode cX12_setRate 12 = .ok (.iload_n 2, 1) := by decide +kernel
theorem dX12_setRate_13 : decode cX12_setRate 13 = .ok (.iconst 1, 1) := by decide +kernel
theorem dX12_setRate_14 : decode cX12_setRate 14 = .ok (.bipush 9, 2) := by decide +kernel
theorem dX12_setRate_16 : decode cX12_setRate 16 = .ok (.invokestatic 177, 3) := by decide +kernel
theorem dX12_setRate_19 : decode cX12_setRate 19 = .ok (.ifCond .ne 7, 3) := by decide +kernel
theorem dX12_setRate_22 : decode cX12_setRate 22 = .ok (.iconst 2, 1) := by decide +kernel
theorem dX12_setRate_23 : decode cX12_setRate 23 = .ok (.goto 4, 3) := by decide +kernel
theorem dX12_setRate_26 : decode cX12_setRate 26 = .ok (.iconst 0, 1) := by decide +kernel
theorem dX12_setRate_27 : decode cX12_setRate 27 = .ok (.invokevirtual 198, 3) := by decide +kernel
theorem dX12_setRate_30 : decode cX12_setRate 30 = .ok (.ifCond .ne 5, 3) := by decide +kernel
theorem dX12_setRate_33 : decode cX12_setRate 33 = .ok (.iconst 0, 1) := by decide +kernel
theorem dX12_setRate_34 : decode cX12_setRate 34 = .ok (.ireturn, 1) := by decide +kernel
theorem dX12_setRate_35 : decode cX12_setRate 35 = .ok (.aload_n 0, 1) := by decide +kernel
theorem dX12_setRate_36 : decode cX12_setRate 36 = .ok (.getfield 103, 3) := by decide +kernel
theorem dX12_setRate_39 : decode cX12_setRate 39 = .ok (.iload_n 1, 1) := by decide +kernel
theorem dX12_setRate_40 : decode cX12_setRate 40 = .ok (.iaload, 1) := by decide +kernel
theorem dX12_setRate_41 : decode cX12_setRate 41 = .ok (.istore_n 3, 1) := by decide +kernel
theorem dX12_setRate_42 : decode cX12_setRate 42 = .ok (.aload_n 0, 1) := by decide +kernel
theorem dX12_setRate_43 : decode cX12_setRate 43 = .ok (.getfield 103, 3) := by decide +kernel
theorem dX12_setRate_46 : decode cX12_setRate 46 = .ok (.iload_n 1, 1) := by decide +kernel
theorem dX12_setRate_47 : decode cX12_setRate 47 = .ok (.iload_n 2, 1) := by decide +kernel
theorem dX12_setRate_48 : decode cX12_setRate 48 = .ok (.iastore, 1) := by decide +kernel
theorem dX12_setRate_49 : decode cX12_setRate 49 = .ok (.iload_n 3, 1) := by decide +kernel
theorem dX12_setRate_50 : decode cX12_setRate 50 = .ok (.ireturn, 1) := by decide +kernel
theorem e_X12_setRate_27 (d : Nat) {l0 l1 l2 s0 s1 : Int} {m : Mem} {v : Int} {m' : Mem} (h : X12_setRate_27 l0 l1 l2 s0 s1 m = some (v, m')) : Ex (d + 2) fm_X12_setRate 27 [(22, l0), (0, l1), (0, l2), (3, 0)] [(0, s0), (22, s1)] m (.inl (0, v)) m' := by
  unfold X12_setRate_27 at h
  obtain ⟨c1, h⟩ := chk_some h
  obtain ⟨v2, m3, g4, h⟩ := cal_some h
  refine cV1 (e_X12_isFine (d + 1) g4) (contN (by decide) (?_ : Ex _ _ 30 _ _ _ _ _)) og_X12_isFine rfl ml_RX12_198 12 rfl rfl c1 im_X12_isFine se_X12_isFine (Nat.le_of_ble_eq_true rfl) dX12_setRate_27
  rcases ite_some h with ⟨b5, h⟩ | ⟨b5, h⟩
  · refine x_if_neN dX12_setRate_30 (by decide) (fun hh => hh b5) (?_ : Ex _ _ 33 _ _ _ _ _)
    refine x_iconst dX12_setRate_33 rfl (by decide) (?_ : Ex _ _ 34 _ _ _ _ _)
    cases h
    exact x_ret dX12_setRate_34 (by decide : (0 : Int) ≠ 3)
  · refine x_if_ne (tgt := 35) dX12_setRate_30 rfl b5 (?_ : Ex _ _ 35 _ _ _ _ _)
    refine x_aload_n dX12_setRate_35 rfl rfl (Or.inr (by decide)) (?_ : Ex _ _ 36 _ _ _ _ _)
    obtain ⟨c6, h⟩ := chk_some h
    refine gt_12_35 c6 fl_RX12_103 dX12_setRate_36 (?_ : Ex _ _ 39 _ _ _ _ _)
    refine x_iload_n dX12_setRate_39 rfl rfl (?_ : Ex _ _ 40 _ _ _ _ _)
    obtain ⟨⟨c7, c8, c9⟩, h⟩ := chk_some h
    refine ld_i_2 c7 c8 c9 dX12_setRate_40 (?_ : Ex _ _ 41 _ _ _ _ _)
    refine x_istore_n (ls2 := [(22, l0), (0, l1), (0, l2), (0, m3 (m3 l0 35) l1)]) dX12_setRate_41 rfl (Nat.le_of_ble_eq_true rfl) rfl (?_ : Ex _ _ 42 _ _ _ _ _)
    refine x_aload_n dX12_setRate_42 rfl rfl (Or.inr (by decide)) (?_ : Ex _ _ 43 _ _ _ _ _)
    refine gt_12_35 c6 fl_RX12_103 dX12_setRate_43 (?_ : Ex _ _ 46 _ _ _ _ _)
    refine x_iload_n dX12_setRate_46 rfl rfl (?_ : Ex _ _ 47 _ _ _ _ _)
    refine x_iload_n dX12_setRate_47 rfl rfl (?_ : Ex _ _ 48 _ _ _ _ _)
    obtain ⟨⟨c10, c11⟩, h⟩ := chk_some h
    obtain ⟨m12, hm12, h⟩ := st_some h
    refine sd_i_2 c7 c10 c11 dX12_setRate_48 (?_ : Ex _ _ 49 _ _ _ _ _)
    rw [← hm12]
    refine x_iload_n dX12_setRate_49 rfl rfl (?_ : Ex _ _ 50 _ _ _ _ _)
    cases h
    exact x_ret dX12_setRate_50 (by decide : (0 : Int) ≠ 3)
theorem e_X12_setRate_0 (d : Nat) {l0 l1 l2 : Int} {m : Mem} {v : Int} {m' : Mem} (h : X12_setRate_0 l0 l1 l2 m = some (v, m')) : Ex (d + 2) fm_X12_setRate 0 [(22, l0), (0, l1), (0, l2), (3, 0)] [] m (.inl (0, v)) m' := by
  unfold X12_setRate_0 at h
  refine x_aload_n dX12_setRate_0 rfl rfl (Or.inr (by decide)) (?_ : Ex _ _ 1 _ _ _ _ _)
  refine x_iload_n dX12_setRate_1 rfl rfl (?_ : Ex _ _ 2 _ _ _ _ _)
  obtain ⟨v1, m2, g3, h⟩ := cal_some h
  refine cS1 (e_X12_isQueue d g3) (contN (by decide) (?_ : Ex _ _ 5 _ _ _ _ _)) og_X12_isQueue rfl ml_RX12_434 sm_X12_isQueue (Nat.le_of_ble_eq_true rfl) dX12_setRate_2
  rcases ite_some h with ⟨b4, h⟩ | ⟨b4, h⟩
  · refine x_if_neN dX12_setRate_5 (by decide) (fun hh => hh b4) (?_ : Ex _ _ 8 _ _ _ _ _)
    refine x_iconst dX12_setRate_8 rfl (by decide) (?_ : Ex _ _ 9 _ _ _ _ _)
    refine x_goto (tgt := 27) dX12_setRate_9 rfl (?_ : Ex _ _ 27 _ _ _ _ _)
    exact e_X12_setRate_27 d h
  · refine x_if_ne (tgt := 12) dX12_setRate_5 rfl b4 (?_ : Ex _ _ 12 _ _ _ _ _)
    refine x_iload_n dX12_setRate_12 rfl rfl (?_ : Ex _ _ 13 _ _ _ _ _)
    refine x_iconst dX12_setRate_13 rfl (by decide) (?_ : Ex _ _ 14 _ _ _ _ _)
    refine x_bipush dX12_setRate_14 kb_9 (by decide) (?_ : Ex _ _ 16 _ _ _ _ _)
    obtain ⟨v5, m6, g7, h⟩ := cal_some h
    refine cS3 (e_X12_isIn (d + 1) g7) (contN (by decide) (?_ : Ex _ _ 19 _ _ _ _ _)) og_X12_isIn rfl ml_RX12_177 sm_X12_isIn (Nat.le_of_ble_eq_true rfl) dX12_setRate_16
    rcases ite_some h with ⟨b8, h⟩ | ⟨b8, h⟩
    · refine x_if_neN dX12_setRate_19 (by decide) (fun hh => hh b8) (?_ : Ex _ _ 22 _ _ _ _ _)
      refine x_iconst dX12_setRate_22 rfl (by decide) (?_ : Ex _ _ 23 _ _ _ _ _)
      refine x_goto (tgt := 27) dX12_setRate_23 rfl (?_ : Ex _ _ 27 _ _ _ _ _)
      exact e_X12_setRate_27 d h
    · refine x_if_ne (tgt := 26) dX12_setRate_19 rfl b8 (?_ : Ex _ _ 26 _ _ _ _ _)
      refine x_iconst dX12_setRate_26 rfl (by decide) (?_ : Ex _ _ 27 _ _ _ _ _)
      exact e_X12_setRate_27 d h
theorem e_X12_setRate (d : Nat) {a0 a1 a2 : Int} {m : Mem} {v : Int} {m' : Mem} (h : X12_setRate a0 a1 a2 m = some (v, m')) : ExM (d + 2) fm_X12_setRate [(22, a0), (0, a1), (0, a2)] m (.inl (0, v)) m' := by
  exact ExM.of (by decide +kernel) (Nat.le_of_ble_eq_true rfl) (cat9 rfl) retI (e_X12_setRate_0 d h)
theorem dX12_told_0 : decode cX12_told 0 = .ok (.iload_n 1, 1) := by decide +kernel
theorem dX12_told_1 : decode cX12_told 1 = .ok (.bipush 80, 2) := by decide +kernel
theorem dX12_told_3 : decode cX12_told 3 = .ok (.idiv, 1) := by decide +kernel
theorem dX12_told_4 : decode cX12_told 4 = .ok (.istore_n 2, 1) := by decide +kernel
theorem dX12_told_5 : decode cX12_told 5 = .ok (.sipush 1000, 3) := by decide +kernel
theorem dX12_told_8 : decode cX12_told 8 = .ok (.iload_n 2, 1) := by decide +kernel
theorem dX12_told_9 : decode cX12_told 9 = .ok (.imul, 1) := by decide +kernel
theorem dX12_told_10 : decode cX12_told 10 = .ok (.bipush 100, 2) := by decide +kernel
theorem dX12_told_12 : decode cX12_told 12 = .ok (.aload_n 0, 1) := by decide +kernel
theorem dX12_told_13 : decode cX12_told 13 = .ok (.getfield 40, 3) := by decide +kernel
theorem dX12_told_16 : decode cX12_told 16 = .ok (.iload_n 2, 1) := by decide +kernel
theorem dX12_told_17 : decode cX12_told 17 = .ok (.iaload, 1) := by decide +kernel
theorem dX12_told_18 : decode cX12_told 18 = .ok (.imul, 1) := by decide +kernel
theorem dX12_told_19 : decode cX12_told 19 = .ok (.iadd, 1) := by decide +kernel
theorem dX12_told_20 : decode cX12_told 20 = .ok (.iload_n 1, 1) := by decide +kernel
theorem dX12_told_21 : decode cX12_told 21 = .ok (.bipush 80, 2) := by decide +kernel
theorem dX12_told_23 : decode cX12_told 23 = .ok (.irem, 1) := by decide +kernel
theorem dX12_told_24 : decode cX12_told 24 = .ok (.iadd, 1) := by decide +kernel
theorem dX12_told_25 : decode cX12_told 25 = .ok (.ireturn, 1) := by decide +kernel
theorem e_X12_told_0 (d : Nat) {l0 l1 : Int} {m : Mem} {v : Int} {m' : Mem} (h : X12_told_0 l0 l1 m = some (v, m')) : Ex d fm_X12_told 0 [(22, l0), (0, l1), (3, 0)] [] m (.inl (0, v)) m' := by
  unfold X12_told_0 at h
  refine x_iload_n dX12_told_0 rfl rfl (?_ : Ex _ _ 1 _ _ _ _ _)
  refine x_bipush dX12_told_1 kb_80 (by decide) (?_ : Ex _ _ 3 _ _ _ _ _)
  obtain ⟨c1, h⟩ := chk_some h
  refine x_idiv dX12_told_3 c1 (by decide) (?_ : Ex _ _ 4 _ _ _ _ _)
  refine x_istore_n (ls2 := [(22, l0), (0, l1), (0, (l1 / 80))]) dX12_told_4 rfl (Nat.le_of_ble_eq_true rfl) rfl (?_ : Ex _ _ 5 _ _ _ _ _)
  refine x_sipush dX12_told_5 ks_1000 (by decide) (?_ : Ex _ _ 8 _ _ _ _ _)
  refine x_iload_n dX12_told_8 rfl rfl (?_ : Ex _ _ 9 _ _ _ _ _)
  obtain ⟨c2, h⟩ := chk_some h
  refine x_imul dX12_told_9 c2 (?_ : Ex _ _ 10 _ _ _ _ _)
  refine x_bipush dX12_told_10 kb_100 (by decide) (?_ : Ex _ _ 12 _ _ _ _ _)
  refine x_aload_n dX12_told_12 rfl rfl (Or.inr (by decide)) (?_ : Ex _ _ 13 _ _ _ _ _)
  obtain ⟨c3, h⟩ := chk_some h
  refine gt_12_12 c3 fl_RX12_40 dX12_told_13 (?_ : Ex _ _ 16 _ _ _ _ _)
  refine x_iload_n dX12_told_16 rfl rfl (?_ : Ex _ _ 17 _ _ _ _ _)
  obtain ⟨⟨c4, c5, c6⟩, h⟩ := chk_some h
  refine ld_i_10 c4 c5 c6 dX12_told_17 (?_ : Ex _ _ 18 _ _ _ _ _)
  obtain ⟨c7, h⟩ := chk_some h
  refine x_imul dX12_told_18 c7 (?_ : Ex _ _ 19 _ _ _ _ _)
  obtain ⟨c8, h⟩ := chk_some h
  refine x_iadd dX12_told_19 c8 (?_ : Ex _ _ 20 _ _ _ _ _)
  refine x_iload_n dX12_told_20 rfl rfl (?_ : Ex _ _ 21 _ _ _ _ _)
  refine x_bipush dX12_told_21 kb_80 (by decide) (?_ : Ex _ _ 23 _ _ _ _ _)
  obtain ⟨c9, h⟩ := chk_some h
  refine x_irem dX12_told_23 c9 (by decide) (?_ : Ex _ _ 24 _ _ _ _ _)
  obtain ⟨c10, h⟩ := chk_some h
  refine x_iadd dX12_told_24 c10 (?_ : Ex _ _ 25 _ _ _ _ _)
  cases h
  exact x_ret dX12_told_25 (by decide : (0 : Int) ≠ 3)
theorem e_X12_told (d : Nat) {a0 a1 : Int} {m : Mem} {v : Int} {m' : Mem} (h : X12_told a0 a1 m = some (v, m')) : ExM d fm_X12_told [(22, a0), (0, a1)] m (.inl (0, v)) m' := by
  exact ExM.of (by decide +kernel) (Nat.le_of_ble_eq_true rfl) (cat9 rfl) retI (e_X12_told_0 d h)
theorem dX12_isAhead_0 : decode cX12_isAhead 0 = .ok (.aload_n 0, 1) := by decide +kernel
theorem dX12_isAhead_1 : decode cX12_isAhead 1 = .ok (.getfield 109, 3) := by decide +kernel
theorem dX12_isAhead_4 : decode cX12_isAhead 4 = .ok (.iconst 3, 1) := by decide +kernel
theorem dX12_isAhead_5 : decode cX12_isAhead 5 = .ok (.iload_n 3, 1) := by decide +kernel
theorem dX12_isAhead_6 : decode cX12_isAhead 6 = .ok (.imul, 1) := by decide +kernel
theorem dX12_isAhead_7 : decode cX12_isAhead 7 = .ok (.aload_n 0, 1) := by decide +kernel
theorem dX12_isAhead_8 : decode cX12_isAhead 8 = .ok (.getfield 28, 3) := by decide +kernel
theorem dX12_isAhead_11 : decode cX12_isAhead 11 = .ok (.iload_n 1, 1) := by decide +kernel
theorem dX12_isAhead_12 : decode cX12_isAhead 12 = .ok (.bipush 80, 2) := by decide +kernel
theorem dX12_isAhead_14 : decode cX12_isAhead 14 = .ok (.idiv, 1) := by decide +kernel
theorem dX12_isAhead_15 : decode cX12_isAhead 15 = .ok (.iaload, 1) := by decide +kernel
theorem dX12_isAhead_16 : decode cX12_isAhead 16 = .ok (.iadd, 1) := by decide +kernel
theorem dX12_isAhead_17 : decode cX12_isAhead 17 = .ok (.iaload, 1) := by decide +kernel
theorem dX12_isAhead_18 : decode cX12_isAhead 18 = .ok (.istore 4, 2) := by decide +kernel
theorem dX12_isAhead_20 : decode cX12_isAhead 20 = .ok (.aload_n 0, 1) := by decide +kernel
theorem dX12_isAhead_21 : decode cX12_isAhead 21 = .ok (.getfield 109, 3) := by decide +kernel
theorem dX12_isAhead_24 : decode cX12_isAhead 24 = .ok (.iconst 3, 1) := by decide +kernel
theorem dX12_isAhead_25 : decode cX12_isAhead 25 = .ok (.iload_n 3, 1) := by decide +kernel
theorem dX12_isAhead_26 : decode cX12_isAhead 26 = .ok (.imul, 1) := by decide +kernel
theorem dX12_isAhead_27 : decode cX12_isAhead 27 = .ok (.aload_n 0, 1) := by decide +kernel
theorem dX12_isAhead_28 : decode cX12_isAhead 28 = .ok (.getfield 28, 3) := by decide +kernel
theorem dX12_isAhead_31 : decode cX12_isAhead 31 = .ok (.iload_n 2, 1) := by decide +kernel
theorem dX12_isAhead_32 : decode cX12_isAhead 32 = .ok (.bipush 80, 2) := by decide +kernel
theorem dX12_isAhead_34 : decode cX12_isAhead 34 = .ok (.idiv, 1) := by decide +kernel
theorem dX12_isAhead_35 : decode cX12_isAhead 35 = .ok (.iaload, 1) := by decide +kernel
theorem dX12_isAhead_36 : decode cX12_isAhead 36 = .ok (.iadd, 1) := by decide +kernel
theorem dX12_isAhead_37 : decode cX12_isAhead 37 = .ok (.iaload, 1) := by decide +kernel
theorem dX12_isAhead_38 : decode cX12_isAhead 38 = .ok (.istore 5, 2) := by decide +kernel
theorem dX12_isAhead_40 : decode cX12_isAhead 40 = .ok (.aload_n 0, 1) := by decide +kernel
theorem dX12_isAhead_41 : decode cX12_isAhead 41 = .ok (.getfield 28, 3) := by decide +kernel
theorem dX12_isAhead_44 : decode cX12_isAhead 44 = .ok (.iload_n 1, 1) := by decide +kernel
theorem dX12_isAhead_45 : decode cX12_isAhead 45 = .ok (.bipush 80, 2) := by decide +kernel
theorem dX12_isAhead_47 : decode cX12_isAhead 47 = .ok (.idiv, 1) := by decide +kernel
theorem dX12_isAhead_48 : decode cX12_isAhead 48 = .ok (.iaload, 1) := by decide +kernel
theorem dX12_isAhead_49 : decode cX12_isAhead 49 = .ok (.aload_n 0, 1) := by decide +kernel
theorem dX12_isAhead_50 : decode cX12_isAhead 50 = .ok (.getfield 28, 3) := by decide +kernel
theorem dX12_isAhead_53 : decode cX12_isAhead 53 = .ok (.iload_n 2, 1) := by decide +kernel
theorem dX12_isAhead_54 : decode cX12_isAhead 54 = .ok (.bipush 80, 2) := by decide +kernel
theorem dX12_isAhead_56 : decode cX12_isAhead 56 = .ok (.idiv, 1) := by decide +kernel
theorem dX12_isAhead_57 : decode cX12_isAhead 57 = .ok (.iaload, 1) := by decide +kernel
theorem dX12_isAhead_58 : decode cX12_isAhead 58 = .ok (.if_icmp .eq 44, 3) := by decide +kernel
theorem dX12_isAhead_61 : decode cX12_isAhead 61 = .ok (.iload 4, 2) := by decide +kernel
theorem dX12_isAhead_63 : decode cX12_isAhead 63 = .ok (.iload 5, 2) := by decide +kernel
theorem dX12_isAhead_65 : decode cX12_isAhead 65 = .ok (.if_icmp .lt 31, 3) := by decide +kernel
theorem dX12_isAhead_68 : decode cX12_isAhead 68 = .ok (.iload 4, 2) := by decide +kernel
theorem dX12_isAhead_70 : decode cX12_isAhead 70 = .ok (.iload 5, 2) := by decide +kernel
theorem dX12_isAhead_72 : decode cX12_isAhead 72 = .ok (.if_icmp .ne 28, 3) := by decide +kernel
theorem dX12_isAhead_75 : decode cX12_isAhead 75 = .ok (.aload_n 0, 1) := by decide +kernel
theorem dX12_isAhead_76 : decode cX12_isAhead 76 = .ok (.getfield 28, 3) := by decide +kernel
theorem dX12_isAhead_79 : decode cX12_isAhead 79 = .ok (.iload_n 1, 1) := by decide +kernel
theorem dX12_isAhead_80 : decode cX12_isAhead 80 = .ok (.bipush 80, 2) := by decide +kernel
theorem dX12_isAhead_82 : decode cX12_isAhead 82 = .ok (.idiv, 1) := by decide +kernel
theorem dX12_isAhead_83 : decode cX12_isAhead 83 = .ok (.iaload, 1) := by decide +kernel
theorem dX12_isAhead_84 : decode cX12_isAhead 84 = .ok (.aload_n 0, 1) := by decide +kernel
theorem dX12_isAhead_85 : decode cX12_isAhead 85 = .ok (.getfield 28, 3) := by decide +kernel
theorem dX12_isAhead_88 : decode cX12_isAhead 88 = .ok (.iload_n 2, 1) := by decide +kernel
theorem dX12_isAhead_89 : decode cX12_isAhead 89 = .ok (.bipush 80, 2) := by decide +kernel
theorem dX12_isAhead_91 : decode cX12_isAhead 91 = .ok (.idiv, 1) := by decide +kernel
theorem dX12_isAhead_92 : decode cX12_isAhead 92 = .ok (.iaload, 1) := by decide +kernel
theorem dX12_isAhead_93 : decode cX12_isAhead 93 = .ok (.if_icmp .ge 7, 3) := by decide +kernel
theorem dX12_isAhead_96 : decode cX12_isAhead 96 = .ok (.iconst 1, 1) := by decide +kernel
theorem dX12_isAhead_97 : decode cX12_isAhead 97 = .ok (.goto 4, 3) := by decide +kernel
theorem dX12_isAhead_100 : decode cX12_isAhead 100 = .ok (.iconst 0, 1) := by decide +kernel
theorem dX12_isAhead_101 : decode cX12_isAhead 101 = .ok (.ireturn, 1) := by decide +kernel
theorem dX12_isAhead_102 : decode cX12_isAhead 102 = .ok (.aload_n 0, 1) := by decide +kernel
theorem dX12_isAhead_103 : decode cX12_isAhead 103 = .ok (.getfield 79, 3) := by decide +kernel
theorem dX12_isAhead_106 : decode cX12_isAhead 106 = .ok (.iload_n 1, 1) := by decide +kernel
theorem dX12_isAhead_107 : decode cX12_isAhead 107 = .ok (.iaload, 1) := by decide +kernel
theorem dX12_isAhead_108 : decode cX12_isAhead 108 = .ok (.aload_n 0, 1) := by decide +kernel
theorem dX12_isAhead_109 : decode cX12_isAhead 109 = .ok (.getfield 79, 3) := by decide +kernel
theorem dX12_isAhead_112 : decode cX12_isAhead 112 = .ok (.iload_n 2, 1) := by decide +kernel
theorem dX12_isAhead_113 : decode cX12_isAhead 113 = .ok (.iaload, 1) := by decide +kernel
theorem dX12_isAhead_114 : decode cX12_isAhead 114 = .ok (.if_icmp .lt 33, 3) := by decide +kernel
theorem dX12_isAhead_117 : decode cX12_isAhead 117 = .ok (.aload_n 0, 1) := by decide +kernel
theorem dX12_isAhead_118 : decode cX12_isAhead 118 = .ok (.getfield 79, 3) := by decide +kernel
theorem dX12_isAhead_121 : decode cX12_isAhead 121 = .ok (.iload_n 1, 1) := by decide +kernel
theorem dX12_isAhead_122 : decode cX12_isAhead 122 = .ok (.iaload, 1) := by decide +kernel
theorem dX12_isAhead_123 : decode cX12_isAhead 123 = .ok (.aload_n 0, 1) := by decide +kernel
theorem dX12_isAhead_124 : decode cX12_isAhead 124 = .ok (.getfield 79, 3) := by decide +kernel
theorem dX12_isAhead_127 : decode cX12_isAhead 127 = .ok (.iload_n 2, 1) := by decide +kernel
theorem dX12_isAhead_128 : decode cX12_isAhead 128 = .ok (.iaload, 1) := by decide +kernel
theorem dX12_isAhead_129 : decode cX12_isAhead 129 = .ok (.if_icmp .ne 22, 3) := by decide +kernel
theorem dX12_isAhead_132 : decode cX12_isAhead 132 = .ok (.aload_n 0, 1) := by decide +kernel
theorem dX12_isAhead_133 : decode cX12_isAhead 133 = .ok (.getfield 85, 3) := by decide +kernel
theorem dX12_isAhead_136 : decode cX12_isAhead 136 = .ok (.iload_n 1, 1) := by decide +kernel
theorem dX12_isAhead_137 : decode cX12_isAhead 137 = .ok (.iaload, 1) := by decide +kernel
theorem dX12_isAhead_138 : decode cX12_isAhead 138 = .ok (.aload_n 0, 1) := by decide +kernel
theorem dX12_isAhead_139 : decode cX12_isAhead 139 = .ok (.getfield 85, 3) := by decide +kernel
theorem dX12_isAhead_142 : decode cX12_isAhead 142 = .ok (.iload_n 2, 1) := by decide +kernel
theorem dX12_isAhead_143 : decode cX12_isAhead 143 = .ok (.iaload, 1) := by decide +kernel
theorem dX12_isAhead_144 : decode cX12_isAhead 144 = .ok (.if_icmp .ge 7, 3) := by decide +kernel
theorem dX12_isAhead_147 : decode cX12_isAhead 147 = .ok (.iconst 1, 1) := by decide +kernel
theorem dX12_isAhead_148 : decode cX12_isAhead 148 = .ok (.goto 4, 3) := by decide +kernel
theorem dX12_isAhead_151 : decode cX12_isAhead 151 = .ok (.iconst 0, 1) := by decide +kernel
theorem dX12_isAhead_152 : decode cX12_isAhead 152 = .ok (.ireturn, 1) := by decide +kernel
theorem e_X12_isAhead_0 (d : Nat) {l0 l1 l2 l3 : Int} {m : Mem} {v : Int} {m' : Mem} (h : X12_isAhead_0 l0 l1 l2 l3 m = some (v, m')) : Ex d fm_X12_isAhead 0 [(22, l0), (0, l1), (0, l2), (0, l3), (3, 0), (3, 0)] [] m (.inl (0, v)) m' := by
  unfold X12_isAhead_0 at h
  refine x_aload_n dX12_isAhead_0 rfl rfl (Or.inr (by decide)) (?_ : Ex _ _ 1 _ _ _ _ _)
  obtain ⟨c1, h⟩ := chk_some h
  refine gt_12_37 c1 fl_RX12_109 dX12_isAhead_1 (?_ : Ex _ _ 4 _ _ _ _ _)
  refine x_iconst dX12_isAhead_4 rfl (by decide) (?_ : Ex _ _ 5 _ _ _ _ _)
  refine x_iload_n dX12_isAhead_5 rfl rfl (?_ : Ex _ _ 6 _ _ _ _ _)
  obtain ⟨c2, h⟩ := chk_some h
  refine x_imul dX12_isAhead_6 c2 (?_ : Ex _ _ 7 _ _ _ _ _)
  refine x_aload_n dX12_isAhead_7 rfl rfl (Or.inr (by decide)) (?_ : Ex _ _ 8 _ _ _ _ _)
  refine gt_12_8 c1 fl_RX12_28 dX12_isAhead_8 (?_ : Ex _ _ 11 _ _ _ _ _)
  refine x_iload_n dX12_isAhead_11 rfl rfl (?_ : Ex _ _ 12 _ _ _ _ _)
  refine x_bipush dX12_isAhead_12 kb_80 (by decide) (?_ : Ex _ _ 14 _ _ _ _ _)
  obtain ⟨c3, h⟩ := chk_some h
  refine x_idiv dX12_isAhead_14 c3 (by decide) (?_ : Ex _ _ 15 _ _ _ _ _)
  obtain ⟨⟨c4, c5, c6⟩, h⟩ := chk_some h
  refine ld_i_10 c4 c5 c6 dX12_isAhead_15 (?_ : Ex _ _ 16 _ _ _ _ _)
  obtain ⟨c7, h⟩ := chk_some h
  refine x_iadd dX12_isAhead_16 c7 (?_ : Ex _ _ 17 _ _ _ _ _)
  obtain ⟨⟨c8, c9, c10⟩, h⟩ := chk_some h
  refine ld_i_6 c8 c9 c10 dX12_isAhead_17 (?_ : Ex _ _ 18 _ _ _ _ _)
  refine x_istore (ls2 := [(22, l0), (0, l1), (0, l2), (0, l3), (0, m (m l0 37) ((3 * l3) + m (m l0 8) (l1 / 80))), (3, 0)]) dX12_isAhead_18 (Nat.le_of_ble_eq_true rfl) rfl (?_ : Ex _ _ 20 _ _ _ _ _)
  refine x_aload_n dX12_isAhead_20 rfl rfl (Or.inr (by decide)) (?_ : Ex _ _ 21 _ _ _ _ _)
  refine gt_12_37 c1 fl_RX12_109 dX12_isAhead_21 (?_ : Ex _ _ 24 _ _ _ _ _)
  refine x_iconst dX12_isAhead_24 rfl (by decide) (?_ : Ex _ _ 25 _ _ _ _ _)
  refine x_iload_n dX12_isAhead_25 rfl rfl (?_ : Ex _ _ 26 _ _ _ _ _)
  obtain ⟨c11, h⟩ := chk_some h
  refine x_imul dX12_isAhead_26 c11 (?_ : Ex _ _ 27 _ _ _ _ _)
  refine x_aload_n dX12_isAhead_27 rfl rfl (Or.inr (by decide)) (?_ : Ex _ _ 28 _ _ _ _ _)
  refine gt_12_8 c1 fl_RX12_28 dX12_isAhead_28 (?_ : Ex _ _ 31 _ _ _ _ _)
  refine x_iload_n dX12_isAhead_31 rfl rfl (?_ : Ex _ _ 32 _ _ _ _ _)
  refine x_bipush dX12_isAhead_32 kb_80 (by decide) (?_ : Ex _ _ 34 _ _ _ _ _)
  obtain ⟨c12, h⟩ := chk_some h
  refine x_idiv dX12_isAhead_34 c12 (by decide) (?_ : Ex _ _ 35 _ _ _ _ _)
  obtain ⟨⟨c13, c14⟩, h⟩ := chk_some h
  refine ld_i_10 c4 c13 c14 dX12_isAhead_35 (?_ : Ex _ _ 36 _ _ _ _ _)
  obtain ⟨c15, h⟩ := chk_some h
  refine x_iadd dX12_isAhead_36 c15 (?_ : Ex _ _ 37 _ _ _ _ _)
  obtain ⟨⟨c16, c17⟩, h⟩ := chk_some h
  refine ld_i_6 c8 c16 c17 dX12_isAhead_37 (?_ : Ex _ _ 38 _ _ _ _ _)
  refine x_istore (ls2 := [(22, l0), (0, l1), (0, l2), (0, l3), (0, m (m l0 37) ((3 * l3) + m (m l0 8) (l1 / 80))), (0, m (m l0 37) ((3 * l3) + m (m l0 8) (l2 / 80)))]) dX12_isAhead_38 (Nat.le_of_ble_eq_true rfl) rfl (?_ : Ex _ _ 40 _ _ _ _ _)
  refine x_aload_n dX12_isAhead_40 rfl rfl (Or.inr (by decide)) (?_ : Ex _ _ 41 _ _ _ _ _)
  refine gt_12_8 c1 fl_RX12_28 dX12_isAhead_41 (?_ : Ex _ _ 44 _ _ _ _ _)
  refine x_iload_n dX12_isAhead_44 rfl rfl (?_ : Ex _ _ 45 _ _ _ _ _)
  refine x_bipush dX12_isAhead_45 kb_80 (by decide) (?_ : Ex _ _ 47 _ _ _ _ _)
  obtain ⟨c18, h⟩ := chk_some h
  refine x_idiv dX12_isAhead_47 c18 (by decide) (?_ : Ex _ _ 48 _ _ _ _ _)
  obtain ⟨⟨c19, c20⟩, h⟩ := chk_some h
  refine ld_i_10 c4 c19 c20 dX12_isAhead_48 (?_ : Ex _ _ 49 _ _ _ _ _)
  refine x_aload_n dX12_isAhead_49 rfl rfl (Or.inr (by decide)) (?_ : Ex _ _ 50 _ _ _ _ _)
  refine gt_12_8 c1 fl_RX12_28 dX12_isAhead_50 (?_ : Ex _ _ 53 _ _ _ _ _)
  refine x_iload_n dX12_isAhead_53 rfl rfl (?_ : Ex _ _ 54 _ _ _ _ _)
  refine x_bipush dX12_isAhead_54 kb_80 (by decide) (?_ : Ex _ _ 56 _ _ _ _ _)
  obtain ⟨c21, h⟩ := chk_some h
  refine x_idiv dX12_isAhead_56 c21 (by decide) (?_ : Ex _ _ 57 _ _ _ _ _)
  obtain ⟨⟨c22, c23⟩, h⟩ := chk_some h
  refine ld_i_10 c4 c22 c23 dX12_isAhead_57 (?_ : Ex _ _ 58 _ _ _ _ _)
  rcases ite_some h with ⟨b24, h⟩ | ⟨b24, h⟩
  · refine x_icmp_eq (tgt := 102) dX12_isAhead_58 rfl b24 (?_ : Ex _ _ 102 _ _ _ _ _)
    refine x_aload_n dX12_isAhead_102 rfl rfl (Or.inr (by decide)) (?_ : Ex _ _ 103 _ _ _ _ _)
    refine gt_12_26 c1 fl_RX12_79 dX12_isAhead_103 (?_ : Ex _ _ 106 _ _ _ _ _)
    refine x_iload_n dX12_isAhead_106 rfl rfl (?_ : Ex _ _ 107 _ _ _ _ _)
    obtain ⟨⟨c25, c26, c27⟩, h⟩ := chk_some h
    refine ld_i_800 c25 c26 c27 dX12_isAhead_107 (?_ : Ex _ _ 108 _ _ _ _ _)
    refine x_aload_n dX12_isAhead_108 rfl rfl (Or.inr (by decide)) (?_ : Ex _ _ 109 _ _ _ _ _)
    refine gt_12_26 c1 fl_RX12_79 dX12_isAhead_109 (?_ : Ex _ _ 112 _ _ _ _ _)
    refine x_iload_n dX12_isAhead_112 rfl rfl (?_ : Ex _ _ 113 _ _ _ _ _)
    obtain ⟨⟨c28, c29⟩, h⟩ := chk_some h
    refine ld_i_800 c25 c28 c29 dX12_isAhead_113 (?_ : Ex _ _ 114 _ _ _ _ _)
    rcases ite_some h with ⟨b30, h⟩ | ⟨b30, h⟩
    · refine x_icmp_lt (tgt := 147) dX12_isAhead_114 rfl b30 (?_ : Ex _ _ 147 _ _ _ _ _)
      refine x_iconst dX12_isAhead_147 rfl (by decide) (?_ : Ex _ _ 148 _ _ _ _ _)
      refine x_goto (tgt := 152) dX12_isAhead_148 rfl (?_ : Ex _ _ 152 _ _ _ _ _)
      cases h
      exact x_ret dX12_isAhead_152 (by decide : (0 : Int) ≠ 3)
    · refine x_icmp_ltN dX12_isAhead_114 (by decide) b30 (?_ : Ex _ _ 117 _ _ _ _ _)
      refine x_aload_n dX12_isAhead_117 rfl rfl (Or.inr (by decide)) (?_ : Ex _ _ 118 _ _ _ _ _)
      refine gt_12_26 c1 fl_RX12_79 dX12_isAhead_118 (?_ : Ex _ _ 121 _ _ _ _ _)
      refine x_iload_n dX12_isAhead_121 rfl rfl (?_ : Ex _ _ 122 _ _ _ _ _)
      obtain ⟨⟨c31, c32⟩, h⟩ := chk_some h
      refine ld_i_800 c25 c31 c32 dX12_isAhead_122 (?_ : Ex _ _ 123 _ _ _ _ _)
      refine x_aload_n dX12_isAhead_123 rfl rfl (Or.inr (by decide)) (?_ : Ex _ _ 124 _ _ _ _ _)
      refine gt_12_26 c1 fl_RX12_79 dX12_isAhead_124 (?_ : Ex _ _ 127 _ _ _ _ _)
      refine x_iload_n dX12_isAhead_127 rfl rfl (?_ : Ex _ _ 128 _ _ _ _ _)
      obtain ⟨⟨c33, c34⟩, h⟩ := chk_some h
      refine ld_i_800 c25 c33 c34 dX12_isAhead_128 (?_ : Ex _ _ 129 _ _ _ _ _)
      rcases ite_some h with ⟨b35, h⟩ | ⟨b35, h⟩
      · refine x_icmp_neN dX12_isAhead_129 (by decide) (fun hh => hh b35) (?_ : Ex _ _ 132 _ _ _ _ _)
        refine x_aload_n dX12_isAhead_132 rfl rfl (Or.inr (by decide)) (?_ : Ex _ _ 133 _ _ _ _ _)
        refine gt_12_28 c1 fl_RX12_85 dX12_isAhead_133 (?_ : Ex _ _ 136 _ _ _ _ _)
        refine x_iload_n dX12_isAhead_136 rfl rfl (?_ : Ex _ _ 137 _ _ _ _ _)
        obtain ⟨⟨c36, c37, c38⟩, h⟩ := chk_some h
        refine ld_i_800 c36 c37 c38 dX12_isAhead_137 (?_ : Ex _ _ 138 _ _ _ _ _)
        refine x_aload_n dX12_isAhead_138 rfl rfl (Or.inr (by decide)) (?_ : Ex _ _ 139 _ _ _ _ _)
        refine gt_12_28 c1 fl_RX12_85 dX12_isAhead_139 (?_ : Ex _ _ 142 _ _ _ _ _)
        refine x_iload_n dX12_isAhead_142 rfl rfl (?_ : Ex _ _ 143 _ _ _ _ _)
        obtain ⟨⟨c39, c40⟩, h⟩ := chk_some h
        refine ld_i_800 c36 c39 c40 dX12_isAhead_143 (?_ : Ex _ _ 144 _ _ _ _ _)
        rcases ite_some h with ⟨b41, h⟩ | ⟨b41, h⟩
        · refine x_icmp_ge (tgt := 151) dX12_isAhead_144 rfl b41 (?_ : Ex _ _ 151 _ _ _ _ _)
          refine x_iconst dX12_isAhead_151 rfl (by decide) (?_ : Ex _ _ 152 _ _ _ _ _)
          cases h
          exact x_ret dX12_isAhead_152 (by decide : (0 : Int) ≠ 3)
        · refine x_icmp_geN dX12_isAhead_144 (by decide) b41 (?_ : Ex _ _ 147 _ _ _ _ _)
          refine x_iconst dX12_isAhead_147 rfl (by decide) (?_ : Ex _ _ 148 _ _ _ _ _)
          refine x_goto (tgt := 152) dX12_isAhead_148 rfl (?_ : Ex _ _ 152 _ _ _ _ _)
          cases h
          exact x_ret dX12_isAhead_152 (by decide : (0 : Int) ≠ 3)
      · refine x_icmp_ne (tgt := 151) dX12_isAhead_129 rfl b35 (?_ : Ex _ _ 151 _ _ _ _ _)
        refine x_iconst dX12_isAhead_151 rfl (by decide) (?_ : Ex _ _ 152 _ _ _ _ _)
        cases h
        exact x_ret dX12_isAhead_152 (by decide : (0 : Int) ≠ 3)
  · refine x_icmp_eqN dX12_isAhead_58 (by decide) b24 (?_ : Ex _ _ 61 _ _ _ _ _)
    refine x_iload dX12_isAhead_61 rfl (?_ : Ex _ _ 63 _ _ _ _ _)
    refine x_iload dX12_isAhead_63 rfl (?_ : Ex _ _ 65 _ _ _ _ _)
    rcases ite_some h with ⟨b42, h⟩ | ⟨b42, h⟩
    · refine x_icmp_lt (tgt := 96) dX12_isAhead_65 rfl b42 (?_ : Ex _ _ 96 _ _ _ _ _)
      refine x_iconst dX12_isAhead_96 rfl (by decide) (?_ : Ex _ _ 97 _ _ _ _ _)
      refine x_goto (tgt := 101) dX12_isAhead_97 rfl (?_ : Ex _ _ 101 _ _ _ _ _)
      cases h
      exact x_ret dX12_isAhead_101 (by decide : (0 : Int) ≠ 3)
    · refine x_icmp_ltN dX12_isAhead_65 (by decide) b42 (?_ : Ex _ _ 68 _ _ _ _ _)
      refine x_iload dX12_isAhead_68 rfl (?_ : Ex _ _ 70 _ _ _ _ _)
      refine x_iload dX12_isAhead_70 rfl (?_ : Ex _ _ 72 _ _ _ _ _)
      rcases ite_some h with ⟨b43, h⟩ | ⟨b43, h⟩
      · refine x_icmp_neN dX12_isAhead_72 (by decide) (fun hh => hh b43) (?_ : Ex _ _ 75 _ _ _ _ _)
        refine x_aload_n dX12_isAhead_75 rfl rfl (Or.inr (by decide)) (?_ : Ex _ _ 76 _ _ _ _ _)
        refine gt_12_8 c1 fl_RX12_28 dX12_isAhead_76 (?_ : Ex _ _ 79 _ _ _ _ _)
        refine x_iload_n dX12_isAhead_79 rfl rfl (?_ : Ex _ _ 80 _ _ _ _ _)
        refine x_bipush dX12_isAhead_80 kb_80 (by decide) (?_ : Ex _ _ 82 _ _ _ _ _)
        obtain ⟨c44, h⟩ := chk_some h
        refine x_idiv dX12_isAhead_82 c44 (by decide) (?_ : Ex _ _ 83 _ _ _ _ _)
        obtain ⟨⟨c45, c46⟩, h⟩ := chk_some h
        refine ld_i_10 c4 c45 c46 dX12_isAhead_83 (?_ : Ex _ _ 84 _ _ _ _ _)
        refine x_aload_n dX12_isAhead_84 rfl rfl (Or.inr (by decide)) (?_ : Ex _ _ 85 _ _ _ _ _)
        refine gt_12_8 c1 fl_RX12_28 dX12_isAhead_85 (?_ : Ex _ _ 88 _ _ _ _ _)
        refine x_iload_n dX12_isAhead_88 rfl rfl (?_ : Ex _ _ 89 _ _ _ _ _)
        refine x_bipush dX12_isAhead_89 kb_80 (by decide) (?_ : Ex _ _ 91 _ _ _ _ _)
        obtain ⟨c47, h⟩ := chk_some h
        refine x_idiv dX12_isAhead_91 c47 (by decide) (?_ : Ex _ _ 92 _ _ _ _ _)
        obtain ⟨⟨c48, c49⟩, h⟩ := chk_some h
        refine ld_i_10 c4 c48 c49 dX12_isAhead_92 (?_ : Ex _ _ 93 _ _ _ _ _)
        rcases ite_some h with ⟨b50, h⟩ | ⟨b50, h⟩
        · refine x_icmp_ge (tgt := 100) dX12_isAhead_93 rfl b50 (?_ : Ex _ _ 100 _ _ _ _ _)
          refine x_iconst dX12_isAhead_100 rfl (by decide) (?_ : Ex _ _ 101 _ _ _ _ _)
          cases h
          exact x_ret dX12_isAhead_101 (by decide : (0 : Int) ≠ 3)
        · refine x_icmp_geN dX12_isAhead_93 (by decide) b50 (?_ : Ex _ _ 96 _ _ _ _ _)
          refine x_iconst dX12_isAhead_96 rfl (by decide) (?_ : Ex _ _ 97 _ _ _ _ _)
          refine x_goto (tgt := 101) dX12_isAhead_97 rfl (?_ : Ex _ _ 101 _ _ _ _ _)
          cases h
          exact x_ret dX12_isAhead_101 (by decide : (0 : Int) ≠ 3)
      · refine x_icmp_ne (tgt := 100) dX12_isAhead_72 rfl b43 (?_ : Ex _ _ 100 _ _ _ _ _)
        refine x_iconst dX12_isAhead_100 rfl (by decide) (?_ : Ex _ _ 101 _ _ _ _ _)
        cases h
        exact x_ret dX12_isAhead_101 (by decide : (0 : Int) ≠ 3)
theorem e_X12_isAhead (d : Nat) {a0 a1 a2 a3 : Int} {m : Mem} {v : Int} {m' : Mem} (h : X12_isAhead a0 a1 a2 a3 m = some (v, m')) : ExM d fm_X12_isAhead [(22, a0), (0, a1), (0, a2), (0, a3)] m (.inl (0, v)) m' := by
  obtain ⟨hb, h⟩ := boolR_some h
  exact ExM.of (by decide +kernel) (Nat.le_of_ble_eq_true rfl) (cat9 rfl) (retZ hb) (e_X12_isAhead_0 d h)
theorem dX12_isReady_0 : decode cX12_isReady 0 = .ok (.iload_n 1, 1) := by decide +kernel
theorem dX12_isReady_1 : decode cX12_isReady 1 = .ok (.bipush 80, 2) := by decide +kernel
theorem dX12_isReady_3 : decode cX12_isReady 3 = .ok (.irem, 1) := by decide +kernel
theorem dX12_isReady_4 : decode cX12_isReady 4 = .ok (.aload_n 0, 1) := by decide +kernel
theorem dX12_isReady_5 : decode cX12_isReady 5 = .ok (.getfield 67, 3) := by decide +kernel
theorem dX12_isReady_8 : decode cX12_isReady 8 = .ok (.iload_n 1, 1) := by decide +kernel
theorem dX12_isReady_9 : decode cX12_isReady 9 = .ok (.bipush 80, 2) := by decide +kernel
theorem dX12_isReady_11 : decode cX12_isReady 11 = .ok (.idiv, 1) := by decide +kernel
theorem dX12_isReady_12 : decode cX12_isReady 12 = .ok (.iaload, 1) := by decide +kernel
theorem dX12_isReady_13 : decode cX12_isReady 13 = .ok (.if_icmp .ge 27, 3) := by decide +kernel
theorem dX12_isReady_16 : decode cX12_isReady 16 = .ok (.aload_n 0, 1) := by decide +kernel
theorem dX12_isReady_17 : decode cX12_isReady 17 = .ok (.getfield 70, 3) := by decide +kernel
theorem dX12_isReady_20 : decode cX12_isReady 20 = .ok (.iload_n 1, 1) := by decide +kernel
theorem dX12_isReady_21 : decode cX12_isReady 21 = .ok (.iaload, 1) := by decide +kernel
theorem dX12_isReady_22 : decode cX12_isReady 22 = .ok (.iconst 1, 1) := by decide +kernel
theorem dX12_isReady_23 : decode cX12_isReady 23 = .ok (.if_icmp .ne 17, 3) := by decide +kernel
theorem dX12_isReady_26 : decode cX12_isReady 26 = .ok (.aload_n 0, 1) := by decide +kernel
theorem dX12_isReady_27 : decode cX12_isReady 27 = .ok (.getfield 73, 3) := by decide +kernel
theorem dX12_isReady_30 : decode cX12_isReady 30 = .ok (.iload_n 1, 1) := by decide +kernel
theorem dX12_isReady_31 : decode cX12_isReady 31 = .ok (.iaload, 1) := by decide +kernel
theorem dX12_isReady_32 : decode cX12_isReady 32 = .ok (.iload_n 2, 1) := by decide +kernel
theorem dX12_isReady_33 : decode cX12_isReady 33 = .ok (.if_icmp .ne 7, 3) := by decide +kernel
theorem dX12_isReady_36 : decode cX12_isReady 36 = .ok (.iconst 1, 1) := by decide +kernel
theorem dX12_isReady_37 : decode cX12_isReady 37 = .ok (.goto 4, 3) := by decide +kernel
theorem dX12_isReady_40 : decode cX12_isReady 40 = .ok (.iconst 0, 1) := by decide +kernel
theorem dX12_isReady_41 : decode cX12_isReady 41 = .ok (.ireturn, 1) := by decide +kernel
theorem e_X12_isReady_0 (d : Nat) {l0 l1 l2 : Int} {m : Mem} {v : Int} {m' : Mem} (h : X12_isReady_0 l0 l1 l2 m = some (v, m')) : Ex d fm_X12_isReady 0 [(22, l0), (0, l1), (0, l2)] [] m (.inl (0, v)) m' := by
  unfold X12_isReady_0 at h
  refine x_iload_n dX12_isReady_0 rfl rfl (?_ : Ex _ _ 1 _ _ _ _ _)
  refine x_bipush dX12_isReady_1 kb_80 (by decide) (?_ : Ex _ _ 3 _ _ _ _ _)
  obtain ⟨c1, h⟩ := chk_some h
  refine x_irem dX12_isReady_3 c1 (by decide) (?_ : Ex _ _ 4 _ _ _ _ _)
  refine x_aload_n dX12_isReady_4 rfl rfl (Or.inr (by decide)) (?_ : Ex _ _ 5 _ _ _ _ _)
  obtain ⟨c2, h⟩ := chk_some h
  refine gt_12_22 c2 fl_RX12_67 dX12_isReady_5 (?_ : Ex _ _ 8 _ _ _ _ _)
  refine x_iload_n dX12_isReady_8 rfl rfl (?_ : Ex _ _ 9 _ _ _ _ _)
  refine x_bipush dX12_isReady_9 kb_80 (by decide) (?_ : Ex _ _ 11 _ _ _ _ _)
  obtain ⟨c3, h⟩ := chk_some h
  refine x_idiv dX12_isReady_11 c3 (by decide) (?_ : Ex _ _ 12 _ _ _ _ _)
  obtain ⟨⟨c4, c5, c6⟩, h⟩ := chk_some h
  refine ld_i_10 c4 c5 c6 dX12_isReady_12 (?_ : Ex _ _ 13 _ _ _ _ _)
  rcases ite_some h with ⟨b7, h⟩ | ⟨b7, h⟩
  · refine x_icmp_ge (tgt := 40) dX12_isReady_13 rfl b7 (?_ : Ex _ _ 40 _ _ _ _ _)
    refine x_iconst dX12_isReady_40 rfl (by decide) (?_ : Ex _ _ 41 _ _ _ _ _)
    cases h
    exact x_ret dX12_isReady_41 (by decide : (0 : Int) ≠ 3)
  · refine x_icmp_geN dX12_isReady_13 (by decide) b7 (?_ : Ex _ _ 16 _ _ _ _ _)
    refine x_aload_n dX12_isReady_16 rfl rfl (Or.inr (by decide)) (?_ : Ex _ _ 17 _ _ _ _ _)
    refine gt_12_23 c2 fl_RX12_70 dX12_isReady_17 (?_ : Ex _ _ 20 _ _ _ _ _)
    refine x_iload_n dX12_isReady_20 rfl rfl (?_ : Ex _ _ 21 _ _ _ _ _)
    obtain ⟨⟨c8, c9, c10⟩, h⟩ := chk_some h
    refine ld_i_800 c8 c9 c10 dX12_isReady_21 (?_ : Ex _ _ 22 _ _ _ _ _)
    refine x_iconst dX12_isReady_22 rfl (by decide) (?_ : Ex _ _ 23 _ _ _ _ _)
    rcases ite_some h with ⟨b11, h⟩ | ⟨b11, h⟩
    · refine x_icmp_neN dX12_isReady_23 (by decide) (fun hh => hh b11) (?_ : Ex _ _ 26 _ _ _ _ _)
      refine x_aload_n dX12_isReady_26 rfl rfl (Or.inr (by decide)) (?_ : Ex _ _ 27 _ _ _ _ _)
      refine gt_12_24 c2 fl_RX12_73 dX12_isReady_27 (?_ : Ex _ _ 30 _ _ _ _ _)
      refine x_iload_n dX12_isReady_30 rfl rfl (?_ : Ex _ _ 31 _ _ _ _ _)
      obtain ⟨⟨c12, c13, c14⟩, h⟩ := chk_some h
      refine ld_i_800 c12 c13 c14 dX12_isReady_31 (?_ : Ex _ _ 32 _ _ _ _ _)
      refine x_iload_n dX12_isReady_32 rfl rfl (?_ : Ex _ _ 33 _ _ _ _ _)
      rcases ite_some h with ⟨b15, h⟩ | ⟨b15, h⟩
      · refine x_icmp_neN dX12_isReady_33 (by decide) (fun hh => hh b15) (?_ : Ex _ _ 36 _ _ _ _ _)
        refine x_iconst dX12_isReady_36 rfl (by decide) (?_ : Ex _ _ 37 _ _ _ _ _)
        refine x_goto (tgt := 41) dX12_isReady_37 rfl (?_ : Ex _ _ 41 _ _ _ _ _)
        cases h
        exact x_ret dX12_isReady_41 (by decide : (0 : Int) ≠ 3)
      · refine x_icmp_ne (tgt := 40) dX12_isReady_33 rfl b15 (?_ : Ex _ _ 40 _ _ _ _ _)
        refine x_iconst dX12_isReady_40 rfl (by decide) (?_ : Ex _ _ 41 _ _ _ _ _)
        cases h
        exact x_ret dX12_isReady_41 (by decide : (0 : Int) ≠ 3)
    · refine x_icmp_ne (tgt := 40) dX12_isReady_23 rfl b11 (?_ : Ex _ _ 40 _ _ _ _ _)
      refine x_iconst dX12_isReady_40 rfl (by decide) (?_ : Ex _ _ 41 _ _ _ _ _)
      cases h
      exact x_ret dX12_isReady_41 (by decide : (0 : Int) ≠ 3)
theorem e_X12_isReady (d : Nat) {a0 a1 a2 : Int} {m : Mem} {v : Int} {m' : Mem} (h : X12_isReady a0 a1 a2 m = some (v, m')) : ExM d fm_X12_isReady [(22, a0), (0, a1), (0, a2)] m (.inl (0, v)) m' := by
  obtain ⟨hb, h⟩ := boolR_some h
  exact ExM.of (by decide +kernel) (Nat.le_of_ble_eq_true rfl) (cat9 rfl) (retZ hb) (e_X12_isReady_0 d h)
theorem dX12_next_0 : decode cX12_next 0 = .ok (.iconst (-1), 1) := by decide +kernel
theorem dX12_next_1 : decode cX12_next 1 = .ok (.istore_n 2, 1) := by decide +kernel
theorem dX12_next_2 : decode cX12_next 2 = .ok (.iconst 0, 1) := by decide +kernel
theorem dX12_next_3 : decode cX12_next 3 = .ok (.istore_n 3, 1) := by decide +kernel
theorem dX12_next_4 : decode cX12_next 4 = .ok (.iload_n 3, 1) := by decide +kernel
theorem dX12_next_5 : decode cX12_next 5 = .ok (.bipush 80, 2) := by decide +kernel
theorem dX12_next_7 : decode cX12_next 7 = .ok (.aload_n 0, 1) := by decide +kernel
theorem dX12_next_8 : decode cX12_next 8 = .ok (.getfield 181, 3) := by decide +kernel
theorem dX12_next_11 : decode cX12_next 11 = .ok (.imul, 1) := by decide +kernel
theorem dX12_next_12 : decode cX12_next 12 = .ok (.if_icmp .ge 39, 3) := by decide +kernel
theorem dX12_next_15 : decode cX12_next 15 = .ok (.aload_n 0, 1) := by decide +kernel
theorem dX12_next_16 : decode cX12_next 16 = .ok (.iload_n 3, 1) := by decide +kernel
theorem dX12_next_17 : decode cX12_next 17 = .ok (.iload_n 1, 1) := by decide +kernel
theorem dX12_next_18 : decode cX12_next 18 = .ok (.invokevirtual 437, 3) := by decide +kernel
theorem dX12_next_21 : decode cX12_next 21 = .ok (.ifCond .eq 22, 3) := by decide +kernel
theorem dX12_next_24 : decode cX12_next 24 = .ok (.iload_n 2, 1) := by decide +kernel
theorem dX12_next_25 : decode cX12_next 25 = .ok (.iconst (-1), 1) := by decide +kernel
theorem dX12_next_26 : decode cX12_next 26 = .ok (.if_icmp .eq 13, 3) := by decide +kernel
theorem dX12_next_29 : decode cX12_next 29 = .ok (.aload_n 0, 1) := by decide +kernel
theorem dX12_next_30 : decode cX12_next 30 = .ok (.iload_n 3, 1) := by decide +kernel
theorem dX12_next_31 : decode cX12_next 31 = .ok (.iload_n 2, 1) := by decide +kernel
theorem dX12_next_32 : decode cX12_next 32 = .ok (.iload_n 1, 1) := by decide +kernel
theorem dX12_next_33 : decode cX12_next 33 = .ok (.invokevirtual 440, 3) := by decide +kernel
theorem dX12_next_36 : decode cX12_next 36 = .ok (.ifCond .eq 7, 3) := by decide +kernel
theorem dX12_next_39 : decode cX12_next 39 = .ok (.iload_n 3, 1) := by decide +kernel
theorem dX12_next_40 : decode cX12_next 40 = .ok (.goto 4, 3) := by decide +kernel
theorem dX12_next_43 : decode cX12_next 43 = .ok (.iload_n 2, 1) := by decide +kernel
theorem dX12_next_44 : decode cX12_next 44 = .ok (.istore_n 2, 1) := by decide +kernel
theorem dX12_next_45 : decode cX12_next 45 = .ok (.iinc 3 1, 3) := by decide +kernel
theorem dX12_next_48 : decode cX12_next 48 = .ok (.goto (-44), 3) := by decide +kernel
theorem dX12_next_51 : decode cX12_next 51 = .ok (.iload_n 2, 1) := by decide +kernel
theorem dX12_next_52 : decode cX12_next 52 = .ok (.ireturn, 1) := by decide +kernel
theorem e_X12_next_4 (d : Nat) : ∀ (n : Nat) {l0 l1 l2 l3 : Int} {m : Mem} {v : Int} {m' : Mem}, X12_next_4 n l0 l1 l2 l3 m = some (v, m') → Ex (d + 1) fm_X12_next 4 [(22, l0), (0, l1), (0, l2), (0, l3)] [] m (.inl (0, v)) m' := by
  intro n
  induction n with
  | zero =>
    intro l0 l1 l2 l3 m v m' h
    have h : (none : Option R2) = some _ := h
    cases h
  | succ n ih =>
    intro l0 l1 l2 l3 m v m' h
    rw [X12_next_4] at h
    refine x_iload_n dX12_next_4 rfl rfl (?_ : Ex _ _ 5 _ _ _ _ _)
    refine x_bipush dX12_next_5 kb_80 (by decide) (?_ : Ex _ _ 7 _ _ _ _ _)
    refine x_aload_n dX12_next_7 rfl rfl (Or.inr (by decide)) (?_ : Ex _ _ 8 _ _ _ _ _)
    obtain ⟨c1, h⟩ := chk_some h
    refine gt_12_16 c1 fl_RX12_181 dX12_next_8 (?_ : Ex _ _ 11 _ _ _ _ _)
    obtain ⟨c2, h⟩ := chk_some h
    refine x_imul dX12_next_11 c2 (?_ : Ex _ _ 12 _ _ _ _ _)
    rcases ite_some h with ⟨b3, h⟩ | ⟨b3, h⟩
    · refine x_icmp_ge (tgt := 51) dX12_next_12 rfl b3 (?_ : Ex _ _ 51 _ _ _ _ _)
      refine x_iload_n dX12_next_51 rfl rfl (?_ : Ex _ _ 52 _ _ _ _ _)
      cases h
      exact x_ret dX12_next_52 (by decide : (0 : Int) ≠ 3)
    · refine x_icmp_geN dX12_next_12 (by decide) b3 (?_ : Ex _ _ 15 _ _ _ _ _)
      refine x_aload_n dX12_next_15 rfl rfl (Or.inr (by decide)) (?_ : Ex _ _ 16 _ _ _ _ _)
      refine x_iload_n dX12_next_16 rfl rfl (?_ : Ex _ _ 17 _ _ _ _ _)
      refine x_iload_n dX12_next_17 rfl rfl (?_ : Ex _ _ 18 _ _ _ _ _)
      obtain ⟨v4, m5, g6, h⟩ := cal_some h
      refine cV2 (e_X12_isReady d g6) (contN (by decide) (?_ : Ex _ _ 21 _ _ _ _ _)) og_X12_isReady rfl ml_RX12_437 12 rfl rfl c1 im_X12_isReady se_X12_isReady (Nat.le_of_ble_eq_true rfl) dX12_next_18
      rcases ite_some h with ⟨b7, h⟩ | ⟨b7, h⟩
      · refine x_if_eq (tgt := 43) dX12_next_21 rfl b7 (?_ : Ex _ _ 43 _ _ _ _ _)
        refine x_iload_n dX12_next_43 rfl rfl (?_ : Ex _ _ 44 _ _ _ _ _)
        refine x_istore_n (ls2 := [(22, l0), (0, l1), (0, l2), (0, l3)]) dX12_next_44 rfl (Nat.le_of_ble_eq_true rfl) rfl (?_ : Ex _ _ 45 _ _ _ _ _)
        obtain ⟨c8, h⟩ := chk_some h
        refine x_iinc (ls2 := [(22, l0), (0, l1), (0, l2), (0, (l3 + 1))]) dX12_next_45 rfl c8 rfl (?_ : Ex _ _ 48 _ _ _ _ _)
        refine x_goto (tgt := 4) dX12_next_48 rfl (?_ : Ex _ _ 4 _ _ _ _ _)
        exact ih h
      · refine x_if_eqN dX12_next_21 (by decide) b7 (?_ : Ex _ _ 24 _ _ _ _ _)
        refine x_iload_n dX12_next_24 rfl rfl (?_ : Ex _ _ 25 _ _ _ _ _)
        refine x_iconst dX12_next_25 rfl (by decide) (?_ : Ex _ _ 26 _ _ _ _ _)
        rcases ite_some h with ⟨b9, h⟩ | ⟨b9, h⟩
        · refine x_icmp_eq (tgt := 39) dX12_next_26 rfl b9 (?_ : Ex _ _ 39 _ _ _ _ _)
          refine x_iload_n dX12_next_39 rfl rfl (?_ : Ex _ _ 40 _ _ _ _ _)
          refine x_goto (tgt := 44) dX12_next_40 rfl (?_ : Ex _ _ 44 _ _ _ _ _)
          refine x_istore_n (ls2 := [(22, l0), (0, l1), (0, l3), (0, l3)]) dX12_next_44 rfl (Nat.le_of_ble_eq_true rfl) rfl (?_ : Ex _ _ 45 _ _ _ _ _)
          obtain ⟨c10, h⟩ := chk_some h
          refine x_iinc (ls2 := [(22, l0), (0, l1), (0, l3), (0, (l3 + 1))]) dX12_next_45 rfl c10 rfl (?_ : Ex _ _ 48 _ _ _ _ _)
          refine x_goto (tgt := 4) dX12_next_48 rfl (?_ : Ex _ _ 4 _ _ _ _ _)
          exact ih h
        · refine x_icmp_eqN dX12_next_26 (by decide) b9 (?_ : Ex _ _ 29 _ _ _ _ _)
          refine x_aload_n dX12_next_29 rfl rfl (Or.inr (by decide)) (?_ : Ex _ _ 30 _ _ _ _ _)
          refine x_iload_n dX12_next_30 rfl rfl (?_ : Ex _ _ 31 _ _ _ _ _)
          refine x_iload_n dX12_next_31 rfl rfl (?_ : Ex _ _ 32 _ _ _ _ _)
          refine x_iload_n dX12_next_32 rfl rfl (?_ : Ex _ _ 33 _ _ _ _ _)
          obtain ⟨v11, m12, g13, h⟩ := cal_some h
          refine cV3 (e_X12_isAhead d g13) (contN (by decide) (?_ : Ex _ _ 36 _ _ _ _ _)) og_X12_isAhead rfl ml_RX12_440 12 rfl rfl c1 im_X12_isAhead se_X12_isAhead (Nat.le_of_ble_eq_true rfl) dX12_next_33
          rcases ite_some h with ⟨b14, h⟩ | ⟨b14, h⟩
          · refine x_if_eq (tgt := 43) dX12_next_36 rfl b14 (?_ : Ex _ _ 43 _ _ _ _ _)
            refine x_iload_n dX12_next_43 rfl rfl (?_ : Ex _ _ 44 _ _ _ _ _)
            refine x_istore_n (ls2 := [(22, l0), (0, l1), (0, l2), (0, l3)]) dX12_next_44 rfl (Nat.le_of_ble_eq_true rfl) rfl (?_ : Ex _ _ 45 _ _ _ _ _)
            obtain ⟨c15, h⟩ := chk_some h
            refine x_iinc (ls2 := [(22, l0), (0, l1), (0, l2), (0, (l3 + 1))]) dX12_next_45 rfl c15 rfl (?_ : Ex _ _ 48 _ _ _ _ _)
            refine x_goto (tgt := 4) dX12_next_48 rfl (?_ : Ex _ _ 4 _ _ _ _ _)
            exact ih h
          · refine x_if_eqN dX12_next_36 (by decide) b14 (?_ : Ex _ _ 39 _ _ _ _ _)
            refine x_iload_n dX12_next_39 rfl rfl (?_ : Ex _ _ 40 _ _ _ _ _)
            refine x_goto (tgt := 44) dX12_next_40 rfl (?_ : Ex _ _ 44 _ _ _ _ _)
            refine x_istore_n (ls2 := [(22, l0), (0, l1), (0, l3), (0, l3)]) dX12_next_44 rfl (Nat.le_of_ble_eq_true rfl) rfl (?_ : Ex _ _ 45 _ _ _ _ _)
            obtain ⟨c16, h⟩ := chk_some h
            refine x_iinc (ls2 := [(22, l0), (0, l1), (0, l3), (0, (l3 + 1))]) dX12_next_45 rfl c16 rfl (?_ : Ex _ _ 48 _ _ _ _ _)
            refine x_goto (tgt := 4) dX12_next_48 rfl (?_ : Ex _ _ 4 _ _ _ _ _)
            exact ih h
theorem e_X12_next_0 (d : Nat) {l0 l1 : Int} {m : Mem} {v : Int} {m' : Mem} (h : X12_next_0 l0 l1 m = some (v, m')) : Ex (d + 1) fm_X12_next 0 [(22, l0), (0, l1), (3, 0), (3, 0)] [] m (.inl (0, v)) m' := by
  unfold X12_next_0 at h
  refine x_iconst dX12_next_0 rfl (by decide) (?_ : Ex _ _ 1 _ _ _ _ _)
  refine x_istore_n (ls2 := [(22, l0), (0, l1), (0, (-1)), (3, 0)]) dX12_next_1 rfl (Nat.le_of_ble_eq_true rfl) rfl (?_ : Ex _ _ 2 _ _ _ _ _)
  refine x_iconst dX12_next_2 rfl (by decide) (?_ : Ex _ _ 3 _ _ _ _ _)
  refine x_istore_n (ls2 := [(22, l0), (0, l1), (0, (-1)), (0, 0)]) dX12_next_3 rfl (Nat.le_of_ble_eq_true rfl) rfl (?_ : Ex _ _ 4 _ _ _ _ _)
  exact e_X12_next_4 d fuel9 h
theorem e_X12_next (d : Nat) {a0 a1 : Int} {m : Mem} {v : Int} {m' : Mem} (h : X12_next a0 a1 m = some (v, m')) : ExM (d + 1) fm_X12_next [(22, a0), (0, a1)] m (.inl (0, v)) m' := by
  exact ExM.of (by decide +kernel) (Nat.le_of_ble_eq_true rfl) (cat9 rfl) retI (e_X12_next_0 d h)
theorem dX12_take_0 : decode cX12_take 0 = .ok (.iload_n 1, 1) := by decide +kernel
theorem dX12_take_1 : decode cX12_take 1 = .ok (.invokestatic 443, 3) := by decide +kernel
theorem dX12_take_4 : decode cX12_take 4 = .ok (.ifCond .eq 14, 3) := by decide +kernel
theorem dX12_take_7 : decode cX12_take 7 = .ok (.iload_n 2, 1) := by decide +kernel
theorem dX12_take_8 : decode cX12_take 8 = .ok (.invokestatic 434, 3) := by decide +kernel
theorem dX12_take_11 : decode cX12_take 11 = .ok (.ifCond .eq 7, 3) := by decide +kernel
theorem dX12_take_14 : decode cX12_take 14 = .ok (.iconst 1, 1) := by decide +kernel
theorem dX12_take_15 : decode cX12_take 15 = .ok (.goto 4, 3) := by decide +kernel
theorem dX12_take_18 : decode cX12_take 18 = .ok (.iconst 0, 1) := by decide +kernel
theorem dX12_take_19 : decode cX12_take 19 = .ok (.istore_n 3, 1) := by decide +kernel
theorem dX12_take_20 : decode cX12_take 20 = .ok (.aload_n 0, 1) := by decide +kernel
theorem dX12_take_21 : decode cX12_take 21 = .ok (.iload_n 3, 1) := by decide +kernel
theorem dX12_take_22 : decode cX12_take 22 = .ok (.ifCond .ne 7, 3) := by decide +kernel
theorem dX12_take_25 : decode cX12_take 25 = .ok (.iconst 1, 1) := by decide +kernel
theorem dX12_take_26 : decode cX12_take 26 = .ok (.goto 27, 3) := by decide +kernel
theorem dX12_take_29 : decode cX12_take 29 = .ok (.aload_n 0, 1) := by decide +kernel
theorem dX12_take_30 : decode cX12_take 30 = .ok (.getfield 112, 3) := by decide +kernel
theorem dX12_take_33 : decode cX12_take 33 = .ok (.iload_n 1, 1) := by decide +kernel
theorem dX12_take_34 : decode cX12_take 34 = .ok (.baload, 1) := by decide +kernel
theorem dX12_take_35 : decode cX12_take 35 = .ok (.ifCond .eq 13, 3) := by decide +kernel
theorem dX12_take_38 : decode cX12_take 38 = .ok (.aload_n 0, 1) := by decide +kernel
theorem dX12_take_39 : decode cX12_take 39 = .ok (.getfield 116, 3) := by decide +kernel
theorem dX12_take_42 : decode cX12_take 42 = .ok (.iload_n 1, 1) := by decide +kernel
theorem dX12_take_43 : decode cX12_take 43 = .ok (.iaload, 1) := by decide +kernel
theorem dX12_take_44 : decode cX12_take 44 = .ok (.iconst (-1), 1) := by decide +kernel
theorem dX12_take_45 : decode cX12_take 45 = .ok (.if_icmp .eq 7, 3) := by decide +kernel
theorem dX12_take_48 : decode cX12_take 48 = .ok (.iconst 2, 1) := by decide +kernel
theorem dX12_take_49 : decode cX12_take 49 = .ok (.goto 4, 3) := by decide +kernel
theorem dX12_take_52 : decode cX12_take 52 = .ok (.iconst 0, 1) := by decide +kernel
theorem dX12_take_53 : decode cX12_take 53 = .ok (.invokevirtual 198, 3) := by decide +kernel
theorem dX12_take_56 : decode cX12_take 56 = .ok (.ifCond .ne 5, 3) := by decide +kernel
theorem dX12_take_59 : decode cX12_take 59 = .ok (.iconst 0, 1) := by decide +kernel
theorem dX12_take_60 : decode cX12_take 60 = .ok (.ireturn, 1) := by decide +kernel
theorem dX12_take_61 : decode cX12_take 61 = .ok (.aload_n 0, 1) := by decide +kernel
theorem dX12_take_62 : decode cX12_take 62 = .ok (.getfield 106, 3) := by decide +kernel
theorem dX12_take_65 : decode cX12_take 65 = .ok (.iload_n 2, 1) := by decide +kernel
theorem dX12_take_66 : decode cX12_take 66 = .ok (.iaload, 1) := by decide +kernel
theorem dX12_take_67 : decode cX12_take 67 = .ok (.aload_n 0, 1) := by decide +kernel
theorem dX12_take_68 : decode cX12_take 68 = .ok (.getfield 103, 3) := by decide +kernel
theorem dX12_take_71 : decode cX12_take 71 = .ok (.iload_n 2, 1) := by decide +kernel
theorem dX12_take_72 : decode cX12_take 72 = .ok (.iaload, 1) := by decide +kernel
theorem dX12_take_73 : decode cX12_take 73 = .ok (.if_icmp .ge 11, 3) := by decide +kernel
theorem dX12_take_76 : decode cX12_take 76 = .ok (.aload_n 0, 1) := by decide +kernel
theorem dX12_take_77 : decode cX12_take 77 = .ok (.iload_n 2, 1) := by decide +kernel
theorem dX12_take_78 : decode cX12_take 78 = .ok (.invokevirtual 446, 3) := by decide +kernel
theorem dX12_take_81 : decode cX12_take 81 = .ok (.goto 4, 3) := by decide +kernel
theorem dX12_take_84 : decode cX12_take 84 = .ok (.iconst (-1), 1) := by decide +kernel
theorem dX12_take_85 : decode cX12_take 85 = .ok (.istore 4, 2) := by decide +kernel
theorem dX12_take_87 : decode cX12_take 87 = .ok (.iload 4, 2) := by decide +kernel
theorem dX12_take_89 : decode cX12_take 89 = .ok (.iconst (-1), 1) := by decide +kernel
theorem dX12_take_90 : decode cX12_take 90 = .ok (.if_icmp .ne 5, 3) := by decide +kernel
theorem dX12_take_93 : decode cX12_take 93 = .ok (.iconst (-1), 1) := by decide +kernel
theorem dX12_take_94 : decode cX12_take 94 = .ok (.ireturn, 1) := by decide +kernel
theorem dX12_take_95 : decode cX12_take 95 = .ok (.aload_n 0, 1) := by decide +kernel
theorem dX12_take_96 : decode cX12_take 96 = .ok (.getfield 106, 3) := by decide +kernel
theorem dX12_take_99 : decode cX12_take 99 = .ok (.iload_n 2, 1) := by decide +kernel
theorem dX12_take_100 : decode cX12_take 100 = .ok (.dup2, 1) := by decide +kernel
theorem dX12_take_101 : decode cX12_take 101 = .ok (.iaload, 1) := by decide +kernel
theorem dX12_take_102 : decode cX12_take 102 = .ok (.iconst 1, 1) := by decide +kernel
theorem dX12_take_103 : decode cX12_take 103 = .ok (.iadd, 1) := by decide +kernel
theorem dX12_take_104 : decode cX12_take 104 = .ok (.iastore, 1) := by decide +kernel
theorem dX12_take_105 : decode cX12_take 105 = .ok (.aload_n 0, 1) := by decide +kernel
theorem dX12_take_106 : decode cX12_take 106 = .ok (.getfield 109, 3) := by decide +kernel
theorem dX12_take_109 : decode cX12_take 109 = .ok (.iconst 3, 1) := by decide +kernel
theorem dX12_take_110 : decode cX12_take 110 = .ok (.iload_n 2, 1) := by decide +kernel
theorem dX12_take_111 : decode cX12_take 111 = .ok (.imul, 1) := by decide +kernel
theorem dX12_take_112 : decode cX12_take 112 = .ok (.aload_n 0, 1) := by decide +kernel
theorem dX12_take_113 : decode cX12_take 113 = .ok (.getfield 28, 3) := by decide +kernel
theorem dX12_take_116 : decode cX12_take 116 = .ok (.iload 4, 2) := by decide +kernel
theorem dX12_take_118 : decode cX12_take 118 = .ok (.bipush 80, 2) := by decide +kernel
theorem dX12_take_120 : decode cX12_take 120 = .ok (.idiv, 1) := by decide +kernel
theorem dX12_take_121 : decode cX12_take 121 = .ok (.iaload, 1) := by decide +kernel
theorem dX12_take_122 : decode cX12_take 122 = .ok (.iadd, 1) := by decide +kernel
theorem dX12_take_123 : decode cX12_take 123 = .ok (.dup2, 1) := by decide +kernel
theorem dX12_take_124 : decode cX12_take 124 = .ok (.iaload, 1) := by decide +kernel
theorem dX12_take_125 : decode cX12_take 125 = .ok (.iconst 1, 1) := by decide +kernel
theorem dX12_take_126 : decode cX12_take 126 = .ok (.iadd, 1) := by decide +kernel
theorem dX12_take_127 : decode cX12_take 127 = .ok (.iastore, 1) := by decide +kernel
theorem dX12_take_128 : decode cX12_take 128 = .ok (.aload_n 0, 1) := by decide +kernel
theorem dX12_take_129 : decode cX12_take 129 = .ok (.getfield 70, 3) := by decide +kernel
theorem dX12_take_132 : decode cX12_take 132 = .ok (.iload 4, 2) := by decide +kernel
theorem dX12_take_134 : decode cX12_take 134 = .ok (.iconst 2, 1) := by decide +kernel
theorem dX12_take_135 : decode cX12_take 135 = .ok (.iastore, 1) := by decide +kernel
theorem dX12_take_136 : decode cX12_take 136 = .ok (.aload_n 0, 1) := by decide +kernel
theorem dX12_take_137 : decode cX12_take 137 = .ok (.getfield 76, 3) := by decide +kernel
theorem dX12_take_140 : decode cX12_take 140 = .ok (.iload 4, 2) := by decide +kernel
theorem dX12_take_142 : decode cX12_take 142 = .ok (.dup2, 1) := by decide +kernel
theorem dX12_take_143 : decode cX12_take 143 = .ok (.iaload, 1) := by decide +kernel
theorem dX12_take_144 : decode cX12_take 144 = .ok (.iconst 1, 1) := by decide +kernel
theorem dX12_take_145 : decode cX12_take 145 = .ok (.iadd, 1) := by decide +kernel
theorem dX12_take_146 : decode cX12_take 146 = .ok (.iastore, 1) := by decide +kernel
theorem dX12_take_147 : decode cX12_take 147 = .ok (.aload_n 0, 1) := by decide +kernel
theorem dX12_take_148 : decode cX12_take 148 = .ok (.getfield 82, 3) := by decide +kernel
theorem dX12_take_151 : decode cX12_take 151 = .ok (.iload 4, 2) := by decide +kernel
theorem dX12_take_153 : decode cX12_take 153 = .ok (.aload_n 0, 1) := by decide +kernel
theorem dX12_take_154 : decode cX12_take 154 = .ok (.getfield 395, 3) := by decide +kernel
theorem dX12_take_157 : decode cX12_take 157 = .ok (.bipush 10, 2) := by decide +kernel
theorem dX12_take_159 : decode cX12_take 159 = .ok (.iadd, 1) := by decide +kernel
theorem dX12_take_160 : decode cX12_take 160 = .ok (.iastore, 1) := by decide +kernel
theorem dX12_take_161 : decode cX12_take 161 = .ok (.aload_n 0, 1) := by decide +kernel
theorem dX12_take_162 : decode cX12_take 162 = .ok (.getfield 116, 3) := by decide +kernel
theorem dX12_take_165 : decode cX12_take 165 = .ok (.iload_n 1, 1) := by decide +kernel
theorem dX12_take_166 : decode cX12_take 166 = .ok (.iload 4, 2) := by decide +kernel
theorem dX12_take_168 : decode cX12_take 168 = .ok (.iastore, 1) := by decide +kernel
theorem dX12_take_169 : decode cX12_take 169 = .ok (.aload_n 0, 1) := by decide +kernel
theorem dX12_take_170 : decode cX12_take 170 = .ok (.iload 4, 2) := by decide +kernel
theorem dX12_take_172 : decode cX12_take 172 = .ok (.invokevirtual 449, 3) := by decide +kernel
theorem dX12_take_175 : decode cX12_take 175 = .ok (.ireturn, 1) := by decide +kernel
theorem e_X12_take_85 (d : Nat) {l0 l1 l2 s0 : Int} {m : Mem} {v : Int} {m' : Mem} (h : X12_take_85 l0 l1 l2 s0 m = some (v, m')) : Ex (d + 2) fm_X12_take 85 [(22, l0), (0, l1), (0, l2), (3, 0), (3, 0)] [(0, s0)] m (.inl (0, v)) m' := by
  unfold X12_take_85 at h
  refine x_istore (ls2 := [(22, l0), (0, l1), (0, l2), (3, 0), (0, s0)]) dX12_take_85 (Nat.le_of_ble_eq_true rfl) rfl (?_ : Ex _ _ 87 _ _ _ _ _)
  refine x_iload dX12_take_87 rfl (?_ : Ex _ _ 89 _ _ _ _ _)
  refine x_iconst dX12_take_89 rfl (by decide) (?_ : Ex _ _ 90 _ _ _ _ _)
  rcases ite_some h with ⟨b1, h⟩ | ⟨b1, h⟩
  · refine x_icmp_neN dX12_take_90 (by decide) (fun hh => hh b1) (?_ : Ex _ _ 93 _ _ _ _ _)
    refine x_iconst dX12_take_93 rfl (by decide) (?_ : Ex _ _ 94 _ _ _ _ _)
    cases h
    exact x_ret dX12_take_94 (by decide : (0 : Int) ≠ 3)
  · refine x_icmp_ne (tgt := 95) dX12_take_90 rfl b1 (?_ : Ex _ _ 95 _ _ _ _ _)
    refine x_aload_n dX12_take_95 rfl rfl (Or.inr (by decide)) (?_ : Ex _ _ 96 _ _ _ _ _)
    obtain ⟨c2, h⟩ := chk_some h
    refine gt_12_36 c2 fl_RX12_106 dX12_take_96 (?_ : Ex _ _ 99 _ _ _ _ _)
    refine x_iload_n dX12_take_99 rfl rfl (?_ : Ex _ _ 100 _ _ _ _ _)
    refine x_dup2 (by decide : (0 : Int) ≠ 2) (by decide : (100002 : Int) ≠ 2) dX12_take_100 (?_ : Ex _ _ 101 _ _ _ _ _)
    obtain ⟨⟨c3, c4, c5⟩, h⟩ := chk_some h
    refine ld_i_2 c3 c4 c5 dX12_take_101 (?_ : Ex _ _ 102 _ _ _ _ _)
    refine x_iconst dX12_take_102 rfl (by decide) (?_ : Ex _ _ 103 _ _ _ _ _)
    obtain ⟨c6, h⟩ := chk_some h
    refine x_iadd dX12_take_103 c6 (?_ : Ex _ _ 104 _ _ _ _ _)
    obtain ⟨⟨c7, c8⟩, h⟩ := chk_some h
    obtain ⟨m9, hm9, h⟩ := st_some h
    refine sd_i_2 c3 c7 c8 dX12_take_104 (?_ : Ex _ _ 105 _ _ _ _ _)
    rw [← hm9]
    refine x_aload_n dX12_take_105 rfl rfl (Or.inr (by decide)) (?_ : Ex _ _ 106 _ _ _ _ _)
    refine gt_12_37 c2 fl_RX12_109 dX12_take_106 (?_ : Ex _ _ 109 _ _ _ _ _)
    refine x_iconst dX12_take_109 rfl (by decide) (?_ : Ex _ _ 110 _ _ _ _ _)
    refine x_iload_n dX12_take_110 rfl rfl (?_ : Ex _ _ 111 _ _ _ _ _)
    obtain ⟨c10, h⟩ := chk_some h
    refine x_imul dX12_take_111 c10 (?_ : Ex _ _ 112 _ _ _ _ _)
    refine x_aload_n dX12_take_112 rfl rfl (Or.inr (by decide)) (?_ : Ex _ _ 113 _ _ _ _ _)
    refine gt_12_8 c2 fl_RX12_28 dX12_take_113 (?_ : Ex _ _ 116 _ _ _ _ _)
    refine x_iload dX12_take_116 rfl (?_ : Ex _ _ 118 _ _ _ _ _)
    refine x_bipush dX12_take_118 kb_80 (by decide) (?_ : Ex _ _ 120 _ _ _ _ _)
    obtain ⟨c11, h⟩ := chk_some h
    refine x_idiv dX12_take_120 c11 (by decide) (?_ : Ex _ _ 121 _ _ _ _ _)
    obtain ⟨⟨c12, c13, c14⟩, h⟩ := chk_some h
    refine ld_i_10 c12 c13 c14 dX12_take_121 (?_ : Ex _ _ 122 _ _ _ _ _)
    obtain ⟨c15, h⟩ := chk_some h
    refine x_iadd dX12_take_122 c15 (?_ : Ex _ _ 123 _ _ _ _ _)
    refine x_dup2 (by decide : (0 : Int) ≠ 2) (by decide : (100006 : Int) ≠ 2) dX12_take_123 (?_ : Ex _ _ 124 _ _ _ _ _)
    obtain ⟨⟨c16, c17, c18⟩, h⟩ := chk_some h
    refine ld_i_6 c16 c17 c18 dX12_take_124 (?_ : Ex _ _ 125 _ _ _ _ _)
    refine x_iconst dX12_take_125 rfl (by decide) (?_ : Ex _ _ 126 _ _ _ _ _)
    obtain ⟨c19, h⟩ := chk_some h
    refine x_iadd dX12_take_126 c19 (?_ : Ex _ _ 127 _ _ _ _ _)
    obtain ⟨⟨c20, c21⟩, h⟩ := chk_some h
    obtain ⟨m22, hm22, h⟩ := st_some h
    refine sd_i_6 c16 c20 c21 dX12_take_127 (?_ : Ex _ _ 128 _ _ _ _ _)
    rw [← hm22]
    refine x_aload_n dX12_take_128 rfl rfl (Or.inr (by decide)) (?_ : Ex _ _ 129 _ _ _ _ _)
    refine gt_12_23 c2 fl_RX12_70 dX12_take_129 (?_ : Ex _ _ 132 _ _ _ _ _)
    refine x_iload dX12_take_132 rfl (?_ : Ex _ _ 134 _ _ _ _ _)
    refine x_iconst dX12_take_134 rfl (by decide) (?_ : Ex _ _ 135 _ _ _ _ _)
    obtain ⟨⟨c23, c24, c25⟩, h⟩ := chk_some h
    obtain ⟨m26, hm26, h⟩ := st_some h
    refine sd_i_800 c23 c24 c25 dX12_take_135 (?_ : Ex _ _ 136 _ _ _ _ _)
    rw [← hm26]
    refine x_aload_n dX12_take_136 rfl rfl (Or.inr (by decide)) (?_ : Ex _ _ 137 _ _ _ _ _)
    refine gt_12_25 c2 fl_RX12_76 dX12_take_137 (?_ : Ex _ _ 140 _ _ _ _ _)
    refine x_iload dX12_take_140 rfl (?_ : Ex _ _ 142 _ _ _ _ _)
    refine x_dup2 (by decide : (0 : Int) ≠ 2) (by decide : (100800 : Int) ≠ 2) dX12_take_142 (?_ : Ex _ _ 143 _ _ _ _ _)
    obtain ⟨⟨c27, c28, c29⟩, h⟩ := chk_some h
    refine ld_i_800 c27 c28 c29 dX12_take_143 (?_ : Ex _ _ 144 _ _ _ _ _)
    refine x_iconst dX12_take_144 rfl (by decide) (?_ : Ex _ _ 145 _ _ _ _ _)
    obtain ⟨c30, h⟩ := chk_some h
    refine x_iadd dX12_take_145 c30 (?_ : Ex _ _ 146 _ _ _ _ _)
    obtain ⟨⟨c31, c32⟩, h⟩ := chk_some h
    obtain ⟨m33, hm33, h⟩ := st_some h
    refine sd_i_800 c27 c31 c32 dX12_take_146 (?_ : Ex _ _ 147 _ _ _ _ _)
    rw [← hm33]
    refine x_aload_n dX12_take_147 rfl rfl (Or.inr (by decide)) (?_ : Ex _ _ 148 _ _ _ _ _)
    refine gt_12_27 c2 fl_RX12_82 dX12_take_148 (?_ : Ex _ _ 151 _ _ _ _ _)
    refine x_iload dX12_take_151 rfl (?_ : Ex _ _ 153 _ _ _ _ _)
    refine x_aload_n dX12_take_153 rfl rfl (Or.inr (by decide)) (?_ : Ex _ _ 154 _ _ _ _ _)
    refine gt_12_1 c2 fl_RX12_395 dX12_take_154 (?_ : Ex _ _ 157 _ _ _ _ _)
    refine x_bipush dX12_take_157 kb_10 (by decide) (?_ : Ex _ _ 159 _ _ _ _ _)
    obtain ⟨c34, h⟩ := chk_some h
    refine x_iadd dX12_take_159 c34 (?_ : Ex _ _ 160 _ _ _ _ _)
    obtain ⟨⟨c35, c36, c37⟩, h⟩ := chk_some h
    obtain ⟨m38, hm38, h⟩ := st_some h
    refine sd_i_800 c35 c36 c37 dX12_take_160 (?_ : Ex _ _ 161 _ _ _ _ _)
    rw [← hm38]
    refine x_aload_n dX12_take_161 rfl rfl (Or.inr (by decide)) (?_ : Ex _ _ 162 _ _ _ _ _)
    refine gt_12_39 c2 fl_RX12_116 dX12_take_162 (?_ : Ex _ _ 165 _ _ _ _ _)
    refine x_iload_n dX12_take_165 rfl rfl (?_ : Ex _ _ 166 _ _ _ _ _)
    refine x_iload dX12_take_166 rfl (?_ : Ex _ _ 168 _ _ _ _ _)
    obtain ⟨⟨c39, c40, c41⟩, h⟩ := chk_some h
    obtain ⟨m42, hm42, h⟩ := st_some h
    refine sd_i_4 c39 c40 c41 dX12_take_168 (?_ : Ex _ _ 169 _ _ _ _ _)
    rw [← hm42]
    refine x_aload_n dX12_take_169 rfl rfl (Or.inr (by decide)) (?_ : Ex _ _ 170 _ _ _ _ _)
    refine x_iload dX12_take_170 rfl (?_ : Ex _ _ 172 _ _ _ _ _)
    obtain ⟨v43, m44, g45, h⟩ := cal_some h
    refine cV1 (e_X12_told (d + 1) g45) (contN (by decide) (?_ : Ex _ _ 175 _ _ _ _ _)) og_X12_told rfl ml_RX12_449 12 rfl rfl c2 im_X12_told se_X12_told (Nat.le_of_ble_eq_true rfl) dX12_take_172
    cases h
    exact x_ret dX12_take_175 (by decide : (0 : Int) ≠ 3)
theorem e_X12_take_53 (d : Nat) {l0 l1 l2 s0 s1 : Int} {m : Mem} {v : Int} {m' : Mem} (h : X12_take_53 l0 l1 l2 s0 s1 m = some (v, m')) : Ex (d + 2) fm_X12_take 53 [(22, l0), (0, l1), (0, l2), (3, 0), (3, 0)] [(0, s0), (22, s1)] m (.inl (0, v)) m' := by
  unfold X12_take_53 at h
  obtain ⟨c1, h⟩ := chk_some h
  obtain ⟨v2, m3, g4, h⟩ := cal_some h
  refine cV1 (e_X12_isFine (d + 1) g4) (contN (by decide) (?_ : Ex _ _ 56 _ _ _ _ _)) og_X12_isFine rfl ml_RX12_198 12 rfl rfl c1 im_X12_isFine se_X12_isFine (Nat.le_of_ble_eq_true rfl) dX12_take_53
  rcases ite_some h with ⟨b5, h⟩ | ⟨b5, h⟩
  · refine x_if_neN dX12_take_56 (by decide) (fun hh => hh b5) (?_ : Ex _ _ 59 _ _ _ _ _)
    refine x_iconst dX12_take_59 rfl (by decide) (?_ : Ex _ _ 60 _ _ _ _ _)
    cases h
    exact x_ret dX12_take_60 (by decide : (0 : Int) ≠ 3)
  · refine x_if_ne (tgt := 61) dX12_take_56 rfl b5 (?_ : Ex _ _ 61 _ _ _ _ _)
    refine x_aload_n dX12_take_61 rfl rfl (Or.inr (by decide)) (?_ : Ex _ _ 62 _ _ _ _ _)
    obtain ⟨c6, h⟩ := chk_some h
    refine gt_12_36 c6 fl_RX12_106 dX12_take_62 (?_ : Ex _ _ 65 _ _ _ _ _)
    refine x_iload_n dX12_take_65 rfl rfl (?_ : Ex _ _ 66 _ _ _ _ _)
    obtain ⟨⟨c7, c8, c9⟩, h⟩ := chk_some h
    refine ld_i_2 c7 c8 c9 dX12_take_66 (?_ : Ex _ _ 67 _ _ _ _ _)
    refine x_aload_n dX12_take_67 rfl rfl (Or.inr (by decide)) (?_ : Ex _ _ 68 _ _ _ _ _)
    refine gt_12_35 c6 fl_RX12_103 dX12_take_68 (?_ : Ex _ _ 71 _ _ _ _ _)
    refine x_iload_n dX12_take_71 rfl rfl (?_ : Ex _ _ 72 _ _ _ _ _)
    obtain ⟨⟨c10, c11, c12⟩, h⟩ := chk_some h
    refine ld_i_2 c10 c11 c12 dX12_take_72 (?_ : Ex _ _ 73 _ _ _ _ _)
    rcases ite_some h with ⟨b13, h⟩ | ⟨b13, h⟩
    · refine x_icmp_ge (tgt := 84) dX12_take_73 rfl b13 (?_ : Ex _ _ 84 _ _ _ _ _)
      refine x_iconst dX12_take_84 rfl (by decide) (?_ : Ex _ _ 85 _ _ _ _ _)
      exact e_X12_take_85 d h
    · refine x_icmp_geN dX12_take_73 (by decide) b13 (?_ : Ex _ _ 76 _ _ _ _ _)
      refine x_aload_n dX12_take_76 rfl rfl (Or.inr (by decide)) (?_ : Ex _ _ 77 _ _ _ _ _)
      refine x_iload_n dX12_take_77 rfl rfl (?_ : Ex _ _ 78 _ _ _ _ _)
      obtain ⟨v14, m15, g16, h⟩ := cal_some h
      refine cV1 (e_X12_next d g16) (contN (by decide) (?_ : Ex _ _ 81 _ _ _ _ _)) og_X12_next rfl ml_RX12_446 12 rfl rfl c6 im_X12_next se_X12_next (Nat.le_of_ble_eq_true rfl) dX12_take_78
      refine x_goto (tgt := 85) dX12_take_81 rfl (?_ : Ex _ _ 85 _ _ _ _ _)
      exact e_X12_take_85 d h
theorem e_X12_take_19 (d : Nat) {l0 l1 l2 s0 : Int} {m : Mem} {v : Int} {m' : Mem} (h : X12_take_19 l0 l1 l2 s0 m = some (v, m')) : Ex (d + 2) fm_X12_take 19 [(22, l0), (0, l1), (0, l2), (3, 0), (3, 0)] [(0, s0)] m (.inl (0, v)) m' := by
  unfold X12_take_19 at h
  refine x_istore_n (ls2 := [(22, l0), (0, l1), (0, l2), (0, s0), (3, 0)]) dX12_take_19 rfl (Nat.le_of_ble_eq_true rfl) rfl (?_ : Ex _ _ 20 _ _ _ _ _)
  refine x_aload_n dX12_take_20 rfl rfl (Or.inr (by decide)) (?_ : Ex _ _ 21 _ _ _ _ _)
  refine x_iload_n dX12_take_21 rfl rfl (?_ : Ex _ _ 22 _ _ _ _ _)
  rcases ite_some h with ⟨b1, h⟩ | ⟨b1, h⟩
  · refine x_if_neN dX12_take_22 (by decide) (fun hh => hh b1) (?_ : Ex _ _ 25 _ _ _ _ _)
    refine x_iconst dX12_take_25 rfl (by decide) (?_ : Ex _ _ 26 _ _ _ _ _)
    refine x_goto (tgt := 53) dX12_take_26 rfl (?_ : Ex _ _ 53 _ _ _ _ _)
    refine Ex.wk (ls2 := [(22, l0), (0, l1), (0, l2), (3, 0), (3, 0)]) ⟨Or.inr rfl, Or.inr rfl, Or.inr rfl, Or.inl rfl, Or.inl rfl, trivial⟩ ?_
    exact e_X12_take_53 d h
  · refine x_if_ne (tgt := 29) dX12_take_22 rfl b1 (?_ : Ex _ _ 29 _ _ _ _ _)
    refine x_aload_n dX12_take_29 rfl rfl (Or.inr (by decide)) (?_ : Ex _ _ 30 _ _ _ _ _)
    obtain ⟨c2, h⟩ := chk_some h
    refine gt_12_38 c2 fl_RX12_112 dX12_take_30 (?_ : Ex _ _ 33 _ _ _ _ _)
    refine x_iload_n dX12_take_33 rfl rfl (?_ : Ex _ _ 34 _ _ _ _ _)
    obtain ⟨⟨c3, c4, c5⟩, h⟩ := chk_some h
    refine ld_b_4 c3 c4 c5 dX12_take_34 (?_ : Ex _ _ 35 _ _ _ _ _)
    rcases ite_some h with ⟨b6, h⟩ | ⟨b6, h⟩
    · refine x_if_eq (tgt := 48) dX12_take_35 rfl b6 (?_ : Ex _ _ 48 _ _ _ _ _)
      refine x_iconst dX12_take_48 rfl (by decide) (?_ : Ex _ _ 49 _ _ _ _ _)
      refine x_goto (tgt := 53) dX12_take_49 rfl (?_ : Ex _ _ 53 _ _ _ _ _)
      refine Ex.wk (ls2 := [(22, l0), (0, l1), (0, l2), (3, 0), (3, 0)]) ⟨Or.inr rfl, Or.inr rfl, Or.inr rfl, Or.inl rfl, Or.inl rfl, trivial⟩ ?_
      exact e_X12_take_53 d h
    · refine x_if_eqN dX12_take_35 (by decide) b6 (?_ : Ex _ _ 38 _ _ _ _ _)
      refine x_aload_n dX12_take_38 rfl rfl (Or.inr (by decide)) (?_ : Ex _ _ 39 _ _ _ _ _)
      refine gt_12_39 c2 fl_RX12_116 dX12_take_39 (?_ : Ex _ _ 42 _ _ _ _ _)
      refine x_iload_n dX12_take_42 rfl rfl (?_ : Ex _ _ 43 _ _ _ _ _)
      obtain ⟨⟨c7, c8, c9⟩, h⟩ := chk_some h
      refine ld_i_4 c7 c8 c9 dX12_take_43 (?_ : Ex _ _ 44 _ _ _ _ _)
      refine x_iconst dX12_take_44 rfl (by decide) (?_ : Ex _ _ 45 _ _ _ _ _)
      rcases ite_some h with ⟨b10, h⟩ | ⟨b10, h⟩
      · refine x_icmp_eq (tgt := 52) dX12_take_45 rfl b10 (?_ : Ex _ _ 52 _ _ _ _ _)
        refine x_iconst dX12_take_52 rfl (by decide) (?_ : Ex _ _ 53 _ _ _ _ _)
        refine Ex.wk (ls2 := [(22, l0), (0, l1), (0, l2), (3, 0), (3, 0)]) ⟨Or.inr rfl, Or.inr rfl, Or.inr rfl, Or.inl rfl, Or.inl rfl, trivial⟩ ?_
        exact e_X12_take_53 d h
      · refine x_icmp_eqN dX12_take_45 (by decide) b10 (?_ : Ex _ _ 48 _ _ _ _ _)
        refine x_iconst dX12_take_48 rfl (by decide) (?_ : Ex _ _ 49 _ _ _ _ _)
        refine x_goto (tgt := 53) dX12_take_49 rfl (?_ : Ex _ _ 53 _ _ _ _ _)
        refine Ex.wk (ls2 := [(22, l0), (0, l1), (0, l2), (3, 0), (3, 0)]) ⟨Or.inr rfl, Or.inr rfl, Or.inr rfl, Or.inl rfl, Or.inl rfl, trivial⟩ ?_
        exact e_X12_take_53 d h
theorem e_X12_take_0 (d : Nat) {l0 l1 l2 : Int} {m : Mem} {v : Int} {m' : Mem} (h : X12_take_0 l0 l1 l2 m = some (v, m')) : Ex (d + 2) fm_X12_take 0 [(22, l0), (0, l1), (0, l2), (3, 0), (3, 0)] [] m (.inl (0, v)) m' := by
  unfold X12_take_0 at h
  refine x_iload_n dX12_take_0 rfl rfl (?_ : Ex _ _ 1 _ _ _ _ _)
  obtain ⟨v1, m2, g3, h⟩ := cal_some h
  refine cS1 (e_X12_isWorker d g3) (contN (by decide) (?_ : Ex _ _ 4 _ _ _ _ _)) og_X12_isWorker rfl ml_RX12_443 sm_X12_isWorker (Nat.le_of_ble_eq_true rfl) dX12_take_1
  rcases ite_some h with ⟨b4, h⟩ | ⟨b4, h⟩
  · refine x_if_eq (tgt := 18) dX12_take_4 rfl b4 (?_ : Ex _ _ 18 _ _ _ _ _)
    refine x_iconst dX12_take_18 rfl (by decide) (?_ : Ex _ _ 19 _ _ _ _ _)
    exact e_X12_take_19 d h
  · refine x_if_eqN dX12_take_4 (by decide) b4 (?_ : Ex _ _ 7 _ _ _ _ _)
    refine x_iload_n dX12_take_7 rfl rfl (?_ : Ex _ _ 8 _ _ _ _ _)
    obtain ⟨v5, m6, g7, h⟩ := cal_some h
    refine cS1 (e_X12_isQueue d g7) (contN (by decide) (?_ : Ex _ _ 11 _ _ _ _ _)) og_X12_isQueue rfl ml_RX12_434 sm_X12_isQueue (Nat.le_of_ble_eq_true rfl) dX12_take_8
    rcases ite_some h with ⟨b8, h⟩ | ⟨b8, h⟩
    · refine x_if_eq (tgt := 18) dX12_take_11 rfl b8 (?_ : Ex _ _ 18 _ _ _ _ _)
      refine x_iconst dX12_take_18 rfl (by decide) (?_ : Ex _ _ 19 _ _ _ _ _)
      exact e_X12_take_19 d h
    · refine x_if_eqN dX12_take_11 (by decide) b8 (?_ : Ex _ _ 14 _ _ _ _ _)
      refine x_iconst dX12_take_14 rfl (by decide) (?_ : Ex _ _ 15 _ _ _ _ _)
      refine x_goto (tgt := 19) dX12_take_15 rfl (?_ : Ex _ _ 19 _ _ _ _ _)
      exact e_X12_take_19 d h
theorem e_X12_take (d : Nat) {a0 a1 a2 : Int} {m : Mem} {v : Int} {m' : Mem} (h : X12_take a0 a1 a2 m = some (v, m')) : ExM (d + 2) fm_X12_take [(22, a0), (0, a1), (0, a2)] m (.inl (0, v)) m' := by
  exact ExM.of (by decide +kernel) (Nat.le_of_ble_eq_true rfl) (cat9 rfl) retI (e_X12_take_0 d h)
theorem dX12_has_0 : decode cX12_has 0 = .ok (.aload_n 0, 1) := by decide +kernel
theorem dX12_has_1 : decode cX12_has 1 = .ok (.iload_n 1, 1) := by decide +kernel
theorem dX12_has_2 : decode cX12_has 2 = .ok (.invokestatic 443, 3) := by decide +kernel
theorem dX12_has_5 : decode cX12_has 5 = .ok (.ifCond .eq 7, 3) := by decide +kernel
theorem dX12_has_8 : decode cX12_has 8 = .ok (.iconst 0, 1) := by decide +kernel
theorem dX12_has_9 : decode cX12_has 9 = .ok (.goto 4, 3) := by decide +kernel
theorem dX12_has_12 : decode cX12_has 12 = .ok (.iconst 1, 1) := by decide +kernel
theorem dX12_has_13 : decode cX12_has 13 = .ok (.invokevirtual 198, 3) := by decide +kernel
theorem dX12_has_16 : decode cX12_has 16 = .ok (.ifCond .eq 30, 3) := by decide +kernel
theorem dX12_has_19 : decode cX12_has 19 = .ok (.aload_n 0, 1) := by decide +kernel
theorem dX12_has_20 : decode cX12_has 20 = .ok (.getfield 116, 3) := by decide +kernel
theorem dX12_has_23 : decode cX12_has 23 = .ok (.iload_n 1, 1) := by decide +kernel
theorem dX12_has_24 : decode cX12_has 24 = .ok (.iaload, 1) := by decide +kernel
theorem dX12_has_25 : decode cX12_has 25 = .ok (.iconst (-1), 1) := by decide +kernel
theorem dX12_has_26 : decode cX12_has 26 = .ok (.if_icmp .ne 7, 3) := by decide +kernel
theorem dX12_has_29 : decode cX12_has 29 = .ok (.iconst (-1), 1) := by decide +kernel
theorem dX12_has_30 : decode cX12_has 30 = .ok (.goto 17, 3) := by decide +kernel
theorem dX12_has_33 : decode cX12_has 33 = .ok (.aload_n 0, 1) := by decide +kernel
theorem dX12_has_34 : decode cX12_has 34 = .ok (.aload_n 0, 1) := by decide +kernel
theorem dX12_has_35 : decode cX12_has 35 = .ok (.getfield 116, 3) := by decide +kernel
theorem dX12_has_38 : decode cX12_has 38 = .ok (.iload_n 1, 1) := by decide +kernel
theorem dX12_has_39 : decode cX12_has 39 = .ok (.iaload, 1) := by decide +kernel
theorem dX12_has_40 : decode cX12_has 40 = .ok (.invokevirtual 449, 3) := by decide +kernel
theorem dX12_has_43 : decode cX12_has 43 = .ok (.goto 4, 3) := by decide +kernel
theorem dX12_has_46 : decode cX12_has 46 = .ok (.iconst 0, 1) := by decide +kernel
theorem dX12_has_47 : decode cX12_has 47 = .ok (.ireturn, 1) := by decide +kernel
theorem e_X12_has_13 (d : Nat) {l0 l1 s0 s1 : Int} {m : Mem} {v : Int} {m' : Mem} (h : X12_has_13 l0 l1 s0 s1 m = some (v, m')) : Ex (d + 2) fm_X12_has 13 [(22, l0), (0, l1)] [(0, s0), (22, s1)] m (.inl (0, v)) m' := by
  unfold X12_has_13 at h
  obtain ⟨c1, h⟩ := chk_some h
  obtain ⟨v2, m3, g4, h⟩ := cal_some h
  refine cV1 (e_X12_isFine (d + 1) g4) (contN (by decide) (?_ : Ex _ _ 16 _ _ _ _ _)) og_X12_isFine rfl ml_RX12_198 12 rfl rfl c1 im_X12_isFine se_X12_isFine (Nat.le_of_ble_eq_true rfl) dX12_has_13
  rcases ite_some h with ⟨b5, h⟩ | ⟨b5, h⟩
  · refine x_if_eq (tgt := 46) dX12_has_16 rfl b5 (?_ : Ex _ _ 46 _ _ _ _ _)
    refine x_iconst dX12_has_46 rfl (by decide) (?_ : Ex _ _ 47 _ _ _ _ _)
    cases h
    exact x_ret dX12_has_47 (by decide : (0 : Int) ≠ 3)
  · refine x_if_eqN dX12_has_16 (by decide) b5 (?_ : Ex _ _ 19 _ _ _ _ _)
    refine x_aload_n dX12_has_19 rfl rfl (Or.inr (by decide)) (?_ : Ex _ _ 20 _ _ _ _ _)
    obtain ⟨c6, h⟩ := chk_some h
    refine gt_12_39 c6 fl_RX12_116 dX12_has_20 (?_ : Ex _ _ 23 _ _ _ _ _)
    refine x_iload_n dX12_has_23 rfl rfl (?_ : Ex _ _ 24 _ _ _ _ _)
    obtain ⟨⟨c7, c8, c9⟩, h⟩ := chk_some h
    refine ld_i_4 c7 c8 c9 dX12_has_24 (?_ : Ex _ _ 25 _ _ _ _ _)
    refine x_iconst dX12_has_25 rfl (by decide) (?_ : Ex _ _ 26 _ _ _ _ _)
    rcases ite_some h with ⟨b10, h⟩ | ⟨b10, h⟩
    · refine x_icmp_neN dX12_has_26 (by decide) (fun hh => hh b10) (?_ : Ex _ _ 29 _ _ _ _ _)
      refine x_iconst dX12_has_29 rfl (by decide) (?_ : Ex _ _ 30 _ _ _ _ _)
      refine x_goto (tgt := 47) dX12_has_30 rfl (?_ : Ex _ _ 47 _ _ _ _ _)
      cases h
      exact x_ret dX12_has_47 (by decide : (0 : Int) ≠ 3)
    · refine x_icmp_ne (tgt := 33) dX12_has_26 rfl b10 (?_ : Ex _ _ 33 _ _ _ _ _)
      refine x_aload_n dX12_has_33 rfl rfl (Or.inr (by decide)) (?_ : Ex _ _ 34 _ _ _ _ _)
      refine x_aload_n dX12_has_34 rfl rfl (Or.inr (by decide)) (?_ : Ex _ _ 35 _ _ _ _ _)
      refine gt_12_39 c6 fl_RX12_116 dX12_has_35 (?_ : Ex _ _ 38 _ _ _ _ _)
      refine x_iload_n dX12_has_38 rfl rfl (?_ : Ex _ _ 39 _ _ _ _ _)
      obtain ⟨⟨c11, c12⟩, h⟩ := chk_some h
      refine ld_i_4 c7 c11 c12 dX12_has_39 (?_ : Ex _ _ 40 _ _ _ _ _)
      obtain ⟨v13, m14, g15, h⟩ := cal_some h
      refine cV1 (e_X12_told (d + 1) g15) (contN (by decide) (?_ : Ex _ _ 43 _ _ _ _ _)) og_X12_told rfl ml_RX12_449 12 rfl rfl c6 im_X12_told se_X12_told (Nat.le_of_ble_eq_true rfl) dX12_has_40
      refine x_goto (tgt := 47) dX12_has_43 rfl (?_ : Ex _ _ 47 _ _ _ _ _)
      cases h
      exact x_ret dX12_has_47 (by decide : (0 : Int) ≠ 3)
theorem e_X12_has_0 (d : Nat) {l0 l1 : Int} {m : Mem} {v : Int} {m' : Mem} (h : X12_has_0 l0 l1 m = some (v, m')) : Ex (d + 2) fm_X12_has 0 [(22, l0), (0, l1)] [] m (.inl (0, v)) m' := by
  unfold X12_has_0 at h
  refine x_aload_n dX12_has_0 rfl rfl (Or.inr (by decide)) (?_ : Ex _ _ 1 _ _ _ _ _)
  refine x_iload_n dX12_has_1 rfl rfl (?_ : Ex _ _ 2 _ _ _ _ _)
  obtain ⟨v1, m2, g3, h⟩ := cal_some h
  refine cS1 (e_X12_isWorker d g3) (contN (by decide) (?_ : Ex _ _ 5 _ _ _ _ _)) og_X12_isWorker rfl ml_RX12_443 sm_X12_isWorker (Nat.le_of_ble_eq_true rfl) dX12_has_2
  rcases ite_some h with ⟨b4, h⟩ | ⟨b4, h⟩
  · refine x_if_eq (tgt := 12) dX12_has_5 rfl b4 (?_ : Ex _ _ 12 _ _ _ _ _)
    refine x_iconst dX12_has_12 rfl (by decide) (?_ : Ex _ _ 13 _ _ _ _ _)
    exact e_X12_has_13 d h
  · refine x_if_eqN dX12_has_5 (by decide) b4 (?_ : Ex _ _ 8 _ _ _ _ _)
    refine x_iconst dX12_has_8 rfl (by decide) (?_ : Ex _ _ 9 _ _ _ _ _)
    refine x_goto (tgt := 13) dX12_has_9 rfl (?_ : Ex _ _ 13 _ _ _ _ _)
    exact e_X12_has_13 d h
theorem e_X12_has (d : Nat) {a0 a1 : Int} {m : Mem} {v : Int} {m' : Mem} (h : X12_has a0 a1 m = some (v, m')) : ExM (d + 2) fm_X12_has [(22, a0), (0, a1)] m (.inl (0, v)) m' := by
  exact ExM.of (by decide +kernel) (Nat.le_of_ble_eq_true rfl) (cat9 rfl) retI (e_X12_has_0 d h)
theorem dX12_beat_0 : decode cX12_beat 0 = .ok (.iload_n 1, 1) := by decide +kernel
theorem dX12_beat_1 : decode cX12_beat 1 = .ok (.invokestatic 443, 3) := by decide +kernel
theorem dX12_beat_4 : decode cX12_beat 4 = .ok (.istore_n 2, 1) := by decide +kernel
theorem dX12_beat_5 : decode cX12_beat 5 = .ok (.aload_n 0, 1) := by decide +kernel
theorem dX12_beat_6 : decode cX12_beat 6 = .ok (.iload_n 2, 1) := by decide +kernel
theorem dX12_beat_7 : decode cX12_beat 7 = .ok (.ifCond .ne 7, 3) := by decide +kernel
theorem dX12_beat_10 : decode cX12_beat 10 = .ok (.iconst 1, 1) := by decide +kernel
theorem dX12_beat_11 : decode cX12_beat 11 = .ok (.goto 18, 3) := by decide +kernel
theorem dX12_beat_14 : decode cX12_beat 14 = .ok (.aload_n 0, 1) := by decide +kernel
theorem dX12_beat_15 : decode cX12_beat 15 = .ok (.getfield 116, 3) := by decide +kernel
theorem dX12_beat_18 : decode cX12_beat 18 = .ok (.iload_n 1, 1) := by decide +kernel
theorem dX12_beat_19 : decode cX12_beat 19 = .ok (.iaload, 1) := by decide +kernel
theorem dX12_beat_20 : decode cX12_beat 20 = .ok (.iconst (-1), 1) := by decide +kernel
theorem dX12_beat_21 : decode cX12_beat 21 = .ok (.if_icmp .ne 7, 3) := by decide +kernel
theorem dX12_beat_24 : decode cX12_beat 24 = .ok (.iconst 2, 1) := by decide +kernel
theorem dX12_beat_25 : decode cX12_beat 25 = .ok (.goto 4, 3) := by decide +kernel
theorem dX12_beat_28 : decode cX12_beat 28 = .ok (.iconst 0, 1) := by decide +kernel
theorem dX12_beat_29 : decode cX12_beat 29 = .ok (.invokevirtual 198, 3) := by decide +kernel
theorem dX12_beat_32 : decode cX12_beat 32 = .ok (.ifCond .ne 5, 3) := by decide +kernel
theorem dX12_beat_35 : decode cX12_beat 35 = .ok (.iconst 0, 1) := by decide +kernel
theorem dX12_beat_36 : decode cX12_beat 36 = .ok (.ireturn, 1) := by decide +kernel
theorem dX12_beat_37 : decode cX12_beat 37 = .ok (.aload_n 0, 1) := by decide +kernel
theorem dX12_beat_38 : decode cX12_beat 38 = .ok (.getfield 82, 3) := by decide +kernel
theorem dX12_beat_41 : decode cX12_beat 41 = .ok (.aload_n 0, 1) := by decide +kernel
theorem dX12_beat_42 : decode cX12_beat 42 = .ok (.getfield 116, 3) := by decide +kernel
theorem dX12_beat_45 : decode cX12_beat 45 = .ok (.iload_n 1, 1) := by decide +kernel
theorem dX12_beat_46 : decode cX12_beat 46 = .ok (.iaload, 1) := by decide +kernel
theorem dX12_beat_47 : decode cX12_beat 47 = .ok (.aload_n 0, 1) := by decide +kernel
theorem dX12_beat_48 : decode cX12_beat 48 = .ok (.getfield 395, 3) := by decide +kernel
theorem dX12_beat_51 : decode cX12_beat 51 = .ok (.bipush 10, 2) := by decide +kernel
theorem dX12_beat_53 : decode cX12_beat 53 = .ok (.iadd, 1) := by decide +kernel
theorem dX12_beat_54 : decode cX12_beat 54 = .ok (.iastore, 1) := by decide +kernel
theorem dX12_beat_55 : decode cX12_beat 55 = .ok (.aload_n 0, 1) := by decide +kernel
theorem dX12_beat_56 : decode cX12_beat 56 = .ok (.getfield 82, 3) := by decide +kernel
theorem dX12_beat_59 : decode cX12_beat 59 = .ok (.aload_n 0, 1) := by decide +kernel
theorem dX12_beat_60 : decode cX12_beat 60 = .ok (.getfield 116, 3) := by decide +kernel
theorem dX12_beat_63 : decode cX12_beat 63 = .ok (.iload_n 1, 1) := by decide +kernel
theorem dX12_beat_64 : decode cX12_beat 64 = .ok (.iaload, 1) := by decide +kernel
theorem dX12_beat_65 : decode cX12_beat 65 = .ok (.iaload, 1) := by decide +kernel
theorem dX12_beat_66 : decode cX12_beat 66 = .ok (.ireturn, 1) := by decide +kernel
theorem e_X12_beat_29 (d : Nat) {l0 l1 s0 s1 : Int} {m : Mem} {v : Int} {m' : Mem} (h : X12_beat_29 l0 l1 s0 s1 m = some (v, m')) : Ex (d + 2) fm_X12_beat 29 [(22, l0), (0, l1), (3, 0)] [(0, s0), (22, s1)] m (.inl (0, v)) m' := by
  unfold X12_beat_29 at h
  obtain ⟨c1, h⟩ := chk_some h
  obtain ⟨v2, m3, g4, h⟩ := cal_some h
  refine cV1 (e_X12_isFine (d + 1) g4) (contN (by decide) (?_ : Ex _ _ 32 _ _ _ _ _)) og_X12_isFine rfl ml_RX12_198 12 rfl rfl c1 im_X12_isFine se_X12_isFine (Nat.le_of_ble_eq_true rfl) dX12_beat_29
  rcases ite_some h with ⟨b5, h⟩ | ⟨b5, h⟩
  · refine x_if_neN dX12_beat_32 (by decide) (fun hh => hh b5) (?_ : Ex _ _ 35 _ _ _ _ _)
    refine x_iconst dX12_beat_35 rfl (by decide) (?_ : Ex _ _ 36 _ _ _ _ _)
    cases h
    exact x_ret dX12_beat_36 (by decide : (0 : Int) ≠ 3)
  · refine x_if_ne (tgt := 37) dX12_beat_32 rfl b5 (?_ : Ex _ _ 37 _ _ _ _ _)
    refine x_aload_n dX12_beat_37 rfl rfl (Or.inr (by decide)) (?_ : Ex _ _ 38 _ _ _ _ _)
    obtain ⟨c6, h⟩ := chk_some h
    refine gt_12_27 c6 fl_RX12_82 dX12_beat_38 (?_ : Ex _ _ 41 _ _ _ _ _)
    refine x_aload_n dX12_beat_41 rfl rfl (Or.inr (by decide)) (?_ : Ex _ _ 42 _ _ _ _ _)
    refine gt_12_39 c6 fl_RX12_116 dX12_beat_42 (?_ : Ex _ _ 45 _ _ _ _ _)
    refine x_iload_n dX12_beat_45 rfl rfl (?_ : Ex _ _ 46 _ _ _ _ _)
    obtain ⟨⟨c7, c8, c9⟩, h⟩ := chk_some h
    refine ld_i_4 c7 c8 c9 dX12_beat_46 (?_ : Ex _ _ 47 _ _ _ _ _)
    refine x_aload_n dX12_beat_47 rfl rfl (Or.inr (by decide)) (?_ : Ex _ _ 48 _ _ _ _ _)
    refine gt_12_1 c6 fl_RX12_395 dX12_beat_48 (?_ : Ex _ _ 51 _ _ _ _ _)
    refine x_bipush dX12_beat_51 kb_10 (by decide) (?_ : Ex _ _ 53 _ _ _ _ _)
    obtain ⟨c10, h⟩ := chk_some h
    refine x_iadd dX12_beat_53 c10 (?_ : Ex _ _ 54 _ _ _ _ _)
    obtain ⟨⟨c11, c12, c13⟩, h⟩ := chk_some h
    obtain ⟨m14, hm14, h⟩ := st_some h
    refine sd_i_800 c11 c12 c13 dX12_beat_54 (?_ : Ex _ _ 55 _ _ _ _ _)
    rw [← hm14]
    refine x_aload_n dX12_beat_55 rfl rfl (Or.inr (by decide)) (?_ : Ex _ _ 56 _ _ _ _ _)
    refine gt_12_27 c6 fl_RX12_82 dX12_beat_56 (?_ : Ex _ _ 59 _ _ _ _ _)
    refine x_aload_n dX12_beat_59 rfl rfl (Or.inr (by decide)) (?_ : Ex _ _ 60 _ _ _ _ _)
    refine gt_12_39 c6 fl_RX12_116 dX12_beat_60 (?_ : Ex _ _ 63 _ _ _ _ _)
    refine x_iload_n dX12_beat_63 rfl rfl (?_ : Ex _ _ 64 _ _ _ _ _)
    obtain ⟨⟨c15, c16, c17⟩, h⟩ := chk_some h
    refine ld_i_4 c15 c16 c17 dX12_beat_64 (?_ : Ex _ _ 65 _ _ _ _ _)
    obtain ⟨⟨c18, c19, c20⟩, h⟩ := chk_some h
    refine ld_i_800 c18 c19 c20 dX12_beat_65 (?_ : Ex _ _ 66 _ _ _ _ _)
    cases h
    exact x_ret dX12_beat_66 (by decide : (0 : Int) ≠ 3)
theorem e_X12_beat_0 (d : Nat) {l0 l1 : Int} {m : Mem} {v : Int} {m' : Mem} (h : X12_beat_0 l0 l1 m = some (v, m')) : Ex (d + 2) fm_X12_beat 0 [(22, l0), (0, l1), (3, 0)] [] m (.inl (0, v)) m' := by
  unfold X12_beat_0 at h
  refine x_iload_n dX12_beat_0 rfl rfl (?_ : Ex _ _ 1 _ _ _ _ _)
  obtain ⟨v1, m2, g3, h⟩ := cal_some h
  refine cS1 (e_X12_isWorker d g3) (contN (by decide) (?_ : Ex _ _ 4 _ _ _ _ _)) og_X12_isWorker rfl ml_RX12_443 sm_X12_isWorker (Nat.le_of_ble_eq_true rfl) dX12_beat_1
  refine x_istore_n (ls2 := [(22, l0), (0, l1), (0, v1)]) dX12_beat_4 rfl (Nat.le_of_ble_eq_true rfl) rfl (?_ : Ex _ _ 5 _ _ _ _ _)
  refine x_aload_n dX12_beat_5 rfl rfl (Or.inr (by decide)) (?_ : Ex _ _ 6 _ _ _ _ _)
  refine x_iload_n dX12_beat_6 rfl rfl (?_ : Ex _ _ 7 _ _ _ _ _)
  rcases ite_some h with ⟨b4, h⟩ | ⟨b4, h⟩
  · refine x_if_neN dX12_beat_7 (by decide) (fun hh => hh b4) (?_ : Ex _ _ 10 _ _ _ _ _)
    refine x_iconst dX12_beat_10 rfl (by decide) (?_ : Ex _ _ 11 _ _ _ _ _)
    refine x_goto (tgt := 29) dX12_beat_11 rfl (?_ : Ex _ _ 29 _ _ _ _ _)
    refine Ex.wk (ls2 := [(22, l0), (0, l1), (3, 0)]) ⟨Or.inr rfl, Or.inr rfl, Or.inl rfl, trivial⟩ ?_
    exact e_X12_beat_29 d h
  · refine x_if_ne (tgt := 14) dX12_beat_7 rfl b4 (?_ : Ex _ _ 14 _ _ _ _ _)
    refine x_aload_n dX12_beat_14 rfl rfl (Or.inr (by decide)) (?_ : Ex _ _ 15 _ _ _ _ _)
    obtain ⟨c5, h⟩ := chk_some h
    refine gt_12_39 c5 fl_RX12_116 dX12_beat_15 (?_ : Ex _ _ 18 _ _ _ _ _)
    refine x_iload_n dX12_beat_18 rfl rfl (?_ : Ex _ _ 19 _ _ _ _ _)
    obtain ⟨⟨c6, c7, c8⟩, h⟩ := chk_some h
    refine ld_i_4 c6 c7 c8 dX12_beat_19 (?_ : Ex _ _ 20 _ _ _ _ _)
    refine x_iconst dX12_beat_20 rfl (by decide) (?_ : Ex _ _ 21 _ _ _ _ _)
    rcases ite_some h with ⟨b9, h⟩ | ⟨b9, h⟩
    · refine x_icmp_neN dX12_beat_21 (by decide) (fun hh => hh b9) (?_ : Ex _ _ 24 _ _ _ _ _)
      refine x_iconst dX12_beat_24 rfl (by decide) (?_ : Ex _ _ 25 _ _ _ _ _)
      refine x_goto (tgt := 29) dX12_beat_25 rfl (?_ : Ex _ _ 29 _ _ _ _ _)
      refine Ex.wk (ls2 := [(22, l0), (0, l1), (3, 0)]) ⟨Or.inr rfl, Or.inr rfl, Or.inl rfl, trivial⟩ ?_
      exact e_X12_beat_29 d h
    · refine x_icmp_ne (tgt := 28) dX12_beat_21 rfl b9 (?_ : Ex _ _ 28 _ _ _ _ _)
      refine x_iconst dX12_beat_28 rfl (by decide) (?_ : Ex _ _ 29 _ _ _ _ _)
      refine Ex.wk (ls2 := [(22, l0), (0, l1), (3, 0)]) ⟨Or.inr rfl, Or.inr rfl, Or.inl rfl, trivial⟩ ?_
      exact e_X12_beat_29 d h
theorem e_X12_beat (d : Nat) {a0 a1 : Int} {m : Mem} {v : Int} {m' : Mem} (h : X12_beat a0 a1 m = some (v, m')) : ExM (d + 2) fm_X12_beat [(22, a0), (0, a1)] m (.inl (0, v)) m' := by
  exact ExM.of (by decide +kernel) (Nat.le_of_ble_eq_true rfl) (cat9 rfl) retI (e_X12_beat_0 d h)
theorem dX12_end_0 : decode cX12_end 0 = .ok (.iload_n 1, 1) := by decide +kernel
theorem dX12_end_1 : decode cX12_end 1 = .ok (.invokestatic 443, 3) := by decide +kernel
theorem dX12_end_4 : decode cX12_end 4 = .ok (.istore_n 3, 1) := by decide +kernel
theorem dX12_end_5 : decode cX12_end 5 = .ok (.aload_n 0, 1) := by decide +kernel
theorem dX12_end_6 : decode cX12_end 6 = .ok (.iload_n 3, 1) := by decide +kernel
theorem dX12_end_7 : decode cX12_end 7 = .ok (.ifCond .ne 7, 3) := by decide +kernel
theorem dX12_end_10 : decode cX12_end 10 = .ok (.iconst 1, 1) := by decide +kernel
theorem dX12_end_11 : decode cX12_end 11 = .ok (.goto 29, 3) := by decide +kernel
theorem dX12_end_14 : decode cX12_end 14 = .ok (.iload_n 2, 1) := by decide +kernel
theorem dX12_end_15 : decode cX12_end 15 = .ok (.invokestatic 184, 3) := by decide +kernel
theorem dX12_end_18 : decode cX12_end 18 = .ok (.ifCond .ne 7, 3) := by decide +kernel
theorem dX12_end_21 : decode cX12_end 21 = .ok (.iconst 2, 1) := by decide +kernel
theorem dX12_end_22 : decode cX12_end 22 = .ok (.goto 18, 3) := by decide +kernel
theorem dX12_end_25 : decode cX12_end 25 = .ok (.aload_n 0, 1) := by decide +kernel
theorem dX12_end_26 : decode cX12_end 26 = .ok (.getfield 116, 3) := by decide +kernel
theorem dX12_end_29 : decode cX12_end 29 = .ok (.iload_n 1, 1) := by decide +kernel
theorem dX12_end_30 : decode cX12_end 30 = .ok (.iaload, 1) := by decide +kernel
theorem dX12_end_31 : decode cX12_end 31 = .ok (.iconst (-1), 1) := by decide +kernel
theorem dX12_end_32 : decode cX12_end 32 = .ok (.if_icmp .ne 7, 3) := by decide +kernel
theorem dX12_end_35 : decode cX12_end 35 = .ok (.iconst 3, 1) := by decide +kernel
theorem dX12_end_36 : decode cX12_end 36 = .ok (.goto 4, 3) := by decide +kernel
theorem dX12_end_39 : decode cX12_end 39 = .ok (.iconst 0, 1) := by decide +kernel
theorem dX12_end_40 : decode cX12_end 40 = .ok (.invokevirtual 198, 3) := by decide +kernel
theorem dX12_end_43 : decode cX12_end 43 = .ok (.ifCond .ne 5, 3) := by decide +kernel
theorem dX12_end_46 : decode cX12_end 46 = .ok (.iconst 0, 1) := by decide +kernel
theorem dX12_end_47 : decode cX12_end 47 = .ok (.ireturn, 1) := by decide +kernel
theorem dX12_end_48 : decode cX12_end 48 = .ok (.aload_n 0, 1) := by decide +kernel
theorem dX12_end_49 : decode cX12_end 49 = .ok (.getfield 116, 3) := by decide +kernel
theorem dX12_end_52 : decode cX12_end 52 = .ok (.iload_n 1, 1) := by decide +kernel
theorem dX12_end_53 : decode cX12_end 53 = .ok (.iaload, 1) := by decide +kernel
theorem dX12_end_54 : decode cX12_end 54 = .ok (.istore 4, 2) := by decide +kernel
theorem dX12_end_56 : decode cX12_end 56 = .ok (.aload_n 0, 1) := by decide +kernel
theorem dX12_end_57 : decode cX12_end 57 = .ok (.iload 4, 2) := by decide +kernel
theorem dX12_end_59 : decode cX12_end 59 = .ok (.bipush 80, 2) := by decide +kernel
theorem dX12_end_61 : decode cX12_end 61 = .ok (.idiv, 1) := by decide +kernel
theorem dX12_end_62 : decode cX12_end 62 = .ok (.iload 4, 2) := by decide +kernel
theorem dX12_end_64 : decode cX12_end 64 = .ok (.bipush 80, 2) := by decide +kernel
theorem dX12_end_66 : decode cX12_end 66 = .ok (.irem, 1) := by decide +kernel
theorem dX12_end_67 : decode cX12_end 67 = .ok (.invokevirtual 401, 3) := by decide +kernel
theorem dX12_end_70 : decode cX12_end 70 = .ok (.aload_n 0, 1) := by decide +kernel
theorem dX12_end_71 : decode cX12_end 71 = .ok (.iload 4, 2) := by decide +kernel
theorem dX12_end_73 : decode cX12_end 73 = .ok (.bipush 80, 2) := by decide +kernel
theorem dX12_end_75 : decode cX12_end 75 = .ok (.idiv, 1) := by decide +kernel
theorem dX12_end_76 : decode cX12_end 76 = .ok (.iconst 1, 1) := by decide +kernel
theorem dX12_end_77 : decode cX12_end 77 = .ok (.iload 4, 2) := by decide +kernel
theorem dX12_end_79 : decode cX12_end 79 = .ok (.bipush 80, 2) := by decide +kernel
theorem dX12_end_81 : decode cX12_end 81 = .ok (.irem, 1) := by decide +kernel
theorem dX12_end_82 : decode cX12_end 82 = .ok (.iload_n 2, 1) := by decide +kernel
theorem dX12_end_83 : decode cX12_end 83 = .ok (.invokevirtual 227, 3) := by decide +kernel
theorem dX12_end_86 : decode cX12_end 86 = .ok (.ireturn, 1) := by decide +kernel
theorem e_X12_end_40 (d : Nat) {l0 l1 l2 s0 s1 : Int} {m : Mem} {v : Int} {m' : Mem} (h : X12_end_40 l0 l1 l2 s0 s1 m = some (v, m')) : Ex (d + 3) fm_X12_end 40 [(22, l0), (0, l1), (0, l2), (3, 0), (3, 0)] [(0, s0), (22, s1)] m (.inl (0, v)) m' := by
  unfold X12_end_40 at h
  obtain ⟨c1, h⟩ := chk_some h
  obtain ⟨v2, m3, g4, h⟩ := cal_some h
  refine cV1 (e_X12_isFine (d + 2) g4) (contN (by decide) (?_ : Ex _ _ 43 _ _ _ _ _)) og_X12_isFine rfl ml_RX12_198 12 rfl rfl c1 im_X12_isFine se_X12_isFine (Nat.le_of_ble_eq_true rfl) dX12_end_40
  rcases ite_some h with ⟨b5, h⟩ | ⟨b5, h⟩
  · refine x_if_neN dX12_end_43 (by decide) (fun hh => hh b5) (?_ : Ex _ _ 46 _ _ _ _ _)
    refine x_iconst dX12_end_46 rfl (by decide) (?_ : Ex _ _ 47 _ _ _ _ _)
    cases h
    exact x_ret dX12_end_47 (by decide : (0 : Int) ≠ 3)
  · refine x_if_ne (tgt := 48) dX12_end_43 rfl b5 (?_ : Ex _ _ 48 _ _ _ _ _)
    refine x_aload_n dX12_end_48 rfl rfl (Or.inr (by decide)) (?_ : Ex _ _ 49 _ _ _ _ _)
    obtain ⟨c6, h⟩ := chk_some h
    refine gt_12_39 c6 fl_RX12_116 dX12_end_49 (?_ : Ex _ _ 52 _ _ _ _ _)
    refine x_iload_n dX12_end_52 rfl rfl (?_ : Ex _ _ 53 _ _ _ _ _)
    obtain ⟨⟨c7, c8, c9⟩, h⟩ := chk_some h
    refine ld_i_4 c7 c8 c9 dX12_end_53 (?_ : Ex _ _ 54 _ _ _ _ _)
    refine x_istore (ls2 := [(22, l0), (0, l1), (0, l2), (3, 0), (0, m3 (m3 l0 39) l1)]) dX12_end_54 (Nat.le_of_ble_eq_true rfl) rfl (?_ : Ex _ _ 56 _ _ _ _ _)
    refine x_aload_n dX12_end_56 rfl rfl (Or.inr (by decide)) (?_ : Ex _ _ 57 _ _ _ _ _)
    refine x_iload dX12_end_57 rfl (?_ : Ex _ _ 59 _ _ _ _ _)
    refine x_bipush dX12_end_59 kb_80 (by decide) (?_ : Ex _ _ 61 _ _ _ _ _)
    obtain ⟨c10, h⟩ := chk_some h
    refine x_idiv dX12_end_61 c10 (by decide) (?_ : Ex _ _ 62 _ _ _ _ _)
    refine x_iload dX12_end_62 rfl (?_ : Ex _ _ 64 _ _ _ _ _)
    refine x_bipush dX12_end_64 kb_80 (by decide) (?_ : Ex _ _ 66 _ _ _ _ _)
    obtain ⟨c11, h⟩ := chk_some h
    refine x_irem dX12_end_66 c11 (by decide) (?_ : Ex _ _ 67 _ _ _ _ _)
    obtain ⟨v12, m13, g14, h⟩ := cal_some h
    refine cV2 (e_X12_takesOff (d + 2) g14) (contV (?_ : Ex _ _ 70 _ _ _ _ _)) og_X12_takesOff rfl ml_RX12_401 12 rfl rfl c6 im_X12_takesOff se_X12_takesOff (Nat.le_of_ble_eq_true rfl) dX12_end_67
    refine x_aload_n dX12_end_70 rfl rfl (Or.inr (by decide)) (?_ : Ex _ _ 71 _ _ _ _ _)
    refine x_iload dX12_end_71 rfl (?_ : Ex _ _ 73 _ _ _ _ _)
    refine x_bipush dX12_end_73 kb_80 (by decide) (?_ : Ex _ _ 75 _ _ _ _ _)
    obtain ⟨c15, h⟩ := chk_some h
    refine x_idiv dX12_end_75 c15 (by decide) (?_ : Ex _ _ 76 _ _ _ _ _)
    refine x_iconst dX12_end_76 rfl (by decide) (?_ : Ex _ _ 77 _ _ _ _ _)
    refine x_iload dX12_end_77 rfl (?_ : Ex _ _ 79 _ _ _ _ _)
    refine x_bipush dX12_end_79 kb_80 (by decide) (?_ : Ex _ _ 81 _ _ _ _ _)
    obtain ⟨c16, h⟩ := chk_some h
    refine x_irem dX12_end_81 c16 (by decide) (?_ : Ex _ _ 82 _ _ _ _ _)
    refine x_iload_n dX12_end_82 rfl rfl (?_ : Ex _ _ 83 _ _ _ _ _)
    obtain ⟨v17, m18, g19, h⟩ := cal_some h
    refine cV4 (e_X12_happens d g19) (contN (by decide) (?_ : Ex _ _ 86 _ _ _ _ _)) og_X12_happens rfl ml_RX12_227 12 rfl rfl c6 im_X12_happens se_X12_happens (Nat.le_of_ble_eq_true rfl) dX12_end_83
    cases h
    exact x_ret dX12_end_86 (by decide : (0 : Int) ≠ 3)
theorem e_X12_end_0 (d : Nat) {l0 l1 l2 : Int} {m : Mem} {v : Int} {m' : Mem} (h : X12_end_0 l0 l1 l2 m = some (v, m')) : Ex (d + 3) fm_X12_end 0 [(22, l0), (0, l1), (0, l2), (3, 0), (3, 0)] [] m (.inl (0, v)) m' := by
  unfold X12_end_0 at h
  refine x_iload_n dX12_end_0 rfl rfl (?_ : Ex _ _ 1 _ _ _ _ _)
  obtain ⟨v1, m2, g3, h⟩ := cal_some h
  refine cS1 (e_X12_isWorker (d + 1) g3) (contN (by decide) (?_ : Ex _ _ 4 _ _ _ _ _)) og_X12_isWorker rfl ml_RX12_443 sm_X12_isWorker (Nat.le_of_ble_eq_true rfl) dX12_end_1
  refine x_istore_n (ls2 := [(22, l0), (0, l1), (0, l2), (0, v1), (3, 0)]) dX12_end_4 rfl (Nat.le_of_ble_eq_true rfl) rfl (?_ : Ex _ _ 5 _ _ _ _ _)
  refine x_aload_n dX12_end_5 rfl rfl (Or.inr (by decide)) (?_ : Ex _ _ 6 _ _ _ _ _)
  refine x_iload_n dX12_end_6 rfl rfl (?_ : Ex _ _ 7 _ _ _ _ _)
  rcases ite_some h with ⟨b4, h⟩ | ⟨b4, h⟩
  · refine x_if_neN dX12_end_7 (by decide) (fun hh => hh b4) (?_ : Ex _ _ 10 _ _ _ _ _)
    refine x_iconst dX12_end_10 rfl (by decide) (?_ : Ex _ _ 11 _ _ _ _ _)
    refine x_goto (tgt := 40) dX12_end_11 rfl (?_ : Ex _ _ 40 _ _ _ _ _)
    refine Ex.wk (ls2 := [(22, l0), (0, l1), (0, l2), (3, 0), (3, 0)]) ⟨Or.inr rfl, Or.inr rfl, Or.inr rfl, Or.inl rfl, Or.inl rfl, trivial⟩ ?_
    exact e_X12_end_40 d h
  · refine x_if_ne (tgt := 14) dX12_end_7 rfl b4 (?_ : Ex _ _ 14 _ _ _ _ _)
    refine x_iload_n dX12_end_14 rfl rfl (?_ : Ex _ _ 15 _ _ _ _ _)
    obtain ⟨v5, m6, g7, h⟩ := cal_some h
    refine cS1 (e_X12_isValue (d + 1) g7) (contN (by decide) (?_ : Ex _ _ 18 _ _ _ _ _)) og_X12_isValue rfl ml_RX12_184 sm_X12_isValue (Nat.le_of_ble_eq_true rfl) dX12_end_15
    rcases ite_some h with ⟨b8, h⟩ | ⟨b8, h⟩
    · refine x_if_neN dX12_end_18 (by decide) (fun hh => hh b8) (?_ : Ex _ _ 21 _ _ _ _ _)
      refine x_iconst dX12_end_21 rfl (by decide) (?_ : Ex _ _ 22 _ _ _ _ _)
      refine x_goto (tgt := 40) dX12_end_22 rfl (?_ : Ex _ _ 40 _ _ _ _ _)
      refine Ex.wk (ls2 := [(22, l0), (0, l1), (0, l2), (3, 0), (3, 0)]) ⟨Or.inr rfl, Or.inr rfl, Or.inr rfl, Or.inl rfl, Or.inl rfl, trivial⟩ ?_
      exact e_X12_end_40 d h
    · refine x_if_ne (tgt := 25) dX12_end_18 rfl b8 (?_ : Ex _ _ 25 _ _ _ _ _)
      refine x_aload_n dX12_end_25 rfl rfl (Or.inr (by decide)) (?_ : Ex _ _ 26 _ _ _ _ _)
      obtain ⟨c9, h⟩ := chk_some h
      refine gt_12_39 c9 fl_RX12_116 dX12_end_26 (?_ : Ex _ _ 29 _ _ _ _ _)
      refine x_iload_n dX12_end_29 rfl rfl (?_ : Ex _ _ 30 _ _ _ _ _)
      obtain ⟨⟨c10, c11, c12⟩, h⟩ := chk_some h
      refine ld_i_4 c10 c11 c12 dX12_end_30 (?_ : Ex _ _ 31 _ _ _ _ _)
      refine x_iconst dX12_end_31 rfl (by decide) (?_ : Ex _ _ 32 _ _ _ _ _)
      rcases ite_some h with ⟨b13, h⟩ | ⟨b13, h⟩
      · refine x_icmp_neN dX12_end_32 (by decide) (fun hh => hh b13) (?_ : Ex _ _ 35 _ _ _ _ _)
        refine x_iconst dX12_end_35 rfl (by decide) (?_ : Ex _ _ 36 _ _ _ _ _)
        refine x_goto (tgt := 40) dX12_end_36 rfl (?_ : Ex _ _ 40 _ _ _ _ _)
        refine Ex.wk (ls2 := [(22, l0), (0, l1), (0, l2), (3, 0), (3, 0)]) ⟨Or.inr rfl, Or.inr rfl, Or.inr rfl, Or.inl rfl, Or.inl rfl, trivial⟩ ?_
        exact e_X12_end_40 d h
      · refine x_icmp_ne (tgt := 39) dX12_end_32 rfl b13 (?_ : Ex _ _ 39 _ _ _ _ _)
        refine x_iconst dX12_end_39 rfl (by decide) (?_ : Ex _ _ 40 _ _ _ _ _)
        refine Ex.wk (ls2 := [(22, l0), (0, l1), (0, l2), (3, 0), (3, 0)]) ⟨Or.inr rfl, Or.inr rfl, Or.inr rfl, Or.inl rfl, Or.inl rfl, trivial⟩ ?_
        exact e_X12_end_40 d h
theorem e_X12_end (d : Nat) {a0 a1 a2 : Int} {m : Mem} {v : Int} {m' : Mem} (h : X12_end a0 a1 a2 m = some (v, m')) : ExM (d + 3) fm_X12_end [(22, a0), (0, a1), (0, a2)] m (.inl (0, v)) m' := by
  obtain ⟨hb, h⟩ := boolR_some h
  exact ExM.of (by decide +kernel) (Nat.le_of_ble_eq_true rfl) (cat9 rfl) (retZ hb) (e_X12_end_0 d h)
theorem dX12_failsTry_0 : decode cX12_failsTry 0 = .ok (.aload_n 0, 1) := by decide +kernel
theorem dX12_failsTry_1 : decode cX12_failsTry 1 = .ok (.getfield 76, 3) := by decide +kernel
theorem dX12_failsTry_4 : decode cX12_failsTry 4 = .ok (.iload_n 1, 1) := by decide +kernel
theorem dX12_failsTry_5 : decode cX12_failsTry 5 = .ok (.iaload, 1) := by decide +kernel
theorem dX12_failsTry_6 : decode cX12_failsTry 6 = .ok (.istore_n 2, 1) := by decide +kernel
theorem dX12_failsTry_7 : decode cX12_failsTry 7 = .ok (.aload_n 0, 1) := by decide +kernel
theorem dX12_failsTry_8 : decode cX12_failsTry 8 = .ok (.iload_n 1, 1) := by decide +kernel
theorem dX12_failsTry_9 : decode cX12_failsTry 9 = .ok (.bipush 80, 2) := by decide +kernel
theorem dX12_failsTry_11 : decode cX12_failsTry 11 = .ok (.idiv, 1) := by decide +kernel
theorem dX12_failsTry_12 : decode cX12_failsTry 12 = .ok (.iload_n 1, 1) := by decide +kernel
theorem dX12_failsTry_13 : decode cX12_failsTry 13 = .ok (.bipush 80, 2) := by decide +kernel
theorem dX12_failsTry_15 : decode cX12_failsTry 15 = .ok (.irem, 1) := by decide +kernel
theorem dX12_failsTry_16 : decode cX12_failsTry 16 = .ok (.invokevirtual 401, 3) := by decide +kernel
theorem dX12_failsTry_19 : decode cX12_failsTry 19 = .ok (.iload_n 2, 1) := by decide +kernel
theorem dX12_failsTry_20 : decode cX12_failsTry 20 = .ok (.iconst 3, 1) := by decide +kernel
theorem dX12_failsTry_21 : decode cX12_failsTry 21 = .ok (.if_icmp .ne 21, 3) := by decide +kernel
theorem dX12_failsTry_24 : decode cX12_failsTry 24 = .ok (.aload_n 0, 1) := by decide +kernel
theorem dX12_failsTry_25 : decode cX12_failsTry 25 = .ok (.iload_n 1, 1) := by decide +kernel
theorem dX12_failsTry_26 : decode cX12_failsTry 26 = .ok (.bipush 80, 2) := by decide +kernel
theorem dX12_failsTry_28 : decode cX12_failsTry 28 = .ok (.idiv, 1) := by decide +kernel
theorem dX12_failsTry_29 : decode cX12_failsTry 29 = .ok (.iconst 2, 1) := by decide +kernel
theorem dX12_failsTry_30 : decode cX12_failsTry 30 = .ok (.iload_n 1, 1) := by decide +kernel
theorem dX12_failsTry_31 : decode cX12_failsTry 31 = .ok (.bipush 80, 2) := by decide +kernel
theorem dX12_failsTry_33 : decode cX12_failsTry 33 = .ok (.irem, 1) := by decide +kernel
theorem dX12_failsTry_34 : decode cX12_failsTry 34 = .ok (.iconst 0, 1) := by decide +kernel
theorem dX12_failsTry_35 : decode cX12_failsTry 35 = .ok (.invokevirtual 227, 3) := by decide +kernel
theorem dX12_failsTry_38 : decode cX12_failsTry 38 = .ok (.istore_n 3, 1) := by decide +kernel
theorem dX12_failsTry_39 : decode cX12_failsTry 39 = .ok (.goto 24, 3) := by decide +kernel
theorem dX12_failsTry_42 : decode cX12_failsTry 42 = .ok (.aload_n 0, 1) := by decide +kernel
theorem dX12_failsTry_43 : decode cX12_failsTry 43 = .ok (.getfield 70, 3) := by decide +kernel
theorem dX12_failsTry_46 : decode cX12_failsTry 46 = .ok (.iload_n 1, 1) := by decide +kernel
theorem dX12_failsTry_47 : decode cX12_failsTry 47 = .ok (.iconst 3, 1) := by decide +kernel
theorem dX12_failsTry_48 : decode cX12_failsTry 48 = .ok (.iastore, 1) := by decide +kernel
theorem dX12_failsTry_49 : decode cX12_failsTry 49 = .ok (.aload_n 0, 1) := by decide +kernel
theorem dX12_failsTry_50 : decode cX12_failsTry 50 = .ok (.getfield 79, 3) := by decide +kernel
theorem dX12_failsTry_53 : decode cX12_failsTry 53 = .ok (.iload_n 1, 1) := by decide +kernel
theorem dX12_failsTry_54 : decode cX12_failsTry 54 = .ok (.aload_n 0, 1) := by decide +kernel
theorem dX12_failsTry_55 : decode cX12_failsTry 55 = .ok (.getfield 395, 3) := by decide +kernel
theorem dX12_failsTry_58 : decode cX12_failsTry 58 = .ok (.iconst 2, 1) := by decide +kernel
theorem dX12_failsTry_59 : decode cX12_failsTry 59 = .ok (.iload_n 2, 1) := by decide +kernel
theorem dX12_failsTry_60 : decode cX12_failsTry 60 = .ok (.imul, 1) := by decide +kernel
theorem dX12_failsTry_61 : decode cX12_failsTry 61 = .ok (.iadd, 1) := by decide +kernel
theorem dX12_failsTry_62 : decode cX12_failsTry 62 = .ok (.iastore, 1) := by decide +kernel
theorem dX12_failsTry_63 : decode cX12_failsTry 63 = .ok (.return_, 1) := by decide +kernel
theorem e_X12_failsTry_0 (d : Nat) {l0 l1 : Int} {m : Mem} {v : Int} {m' : Mem} (h : X12_failsTry_0 l0 l1 m = some (v, m')) : Ex (d + 3) fm_X12_failsTry 0 [(22, l0), (0, l1), (3, 0), (3, 0)] [] m (.inl (3, 0)) m' := by
  unfold X12_failsTry_0 at h
  refine x_aload_n dX12_failsTry_0 rfl rfl (Or.inr (by decide)) (?_ : Ex _ _ 1 _ _ _ _ _)
  obtain ⟨c1, h⟩ := chk_some h
  refine gt_12_25 c1 fl_RX12_76 dX12_failsTry_1 (?_ : Ex _ _ 4 _ _ _ _ _)
  refine x_iload_n dX12_failsTry_4 rfl rfl (?_ : Ex _ _ 5 _ _ _ _ _)
  obtain ⟨⟨c2, c3, c4⟩, h⟩ := chk_some h
  refine ld_i_800 c2 c3 c4 dX12_failsTry_5 (?_ : Ex _ _ 6 _ _ _ _ _)
  refine x_istore_n (ls2 := [(22, l0), (0, l1), (0, m (m l0 25) l1), (3, 0)]) dX12_failsTry_6 rfl (Nat.le_of_ble_eq_true rfl) rfl (?_ : Ex _ _ 7 _ _ _ _ _)
  refine x_aload_n dX12_failsTry_7 rfl rfl (Or.inr (by decide)) (?_ : Ex _ _ 8 _ _ _ _ _)
  refine x_iload_n dX12_failsTry_8 rfl rfl (?_ : Ex _ _ 9 _ _ _ _ _)
  refine x_bipush dX12_failsTry_9 kb_80 (by decide) (?_ : Ex _ _ 11 _ _ _ _ _)
  obtain ⟨c5, h⟩ := chk_some h
  refine x_idiv dX12_failsTry_11 c5 (by decide) (?_ : Ex _ _ 12 _ _ _ _ _)
  refine x_iload_n dX12_failsTry_12 rfl rfl (?_ : Ex _ _ 13 _ _ _ _ _)
  refine x_bipush dX12_failsTry_13 kb_80 (by decide) (?_ : Ex _ _ 15 _ _ _ _ _)
  obtain ⟨c6, h⟩ := chk_some h
  refine x_irem dX12_failsTry_15 c6 (by decide) (?_ : Ex _ _ 16 _ _ _ _ _)
  obtain ⟨v7, m8, g9, h⟩ := cal_some h
  refine cV2 (e_X12_takesOff (d + 2) g9) (contV (?_ : Ex _ _ 19 _ _ _ _ _)) og_X12_takesOff rfl ml_RX12_401 12 rfl rfl c1 im_X12_takesOff se_X12_takesOff (Nat.le_of_ble_eq_true rfl) dX12_failsTry_16
  refine x_iload_n dX12_failsTry_19 rfl rfl (?_ : Ex _ _ 20 _ _ _ _ _)
  refine x_iconst dX12_failsTry_20 rfl (by decide) (?_ : Ex _ _ 21 _ _ _ _ _)
  rcases ite_some h with ⟨b10, h⟩ | ⟨b10, h⟩
  · refine x_icmp_neN dX12_failsTry_21 (by decide) (fun hh => hh b10) (?_ : Ex _ _ 24 _ _ _ _ _)
    refine x_aload_n dX12_failsTry_24 rfl rfl (Or.inr (by decide)) (?_ : Ex _ _ 25 _ _ _ _ _)
    refine x_iload_n dX12_failsTry_25 rfl rfl (?_ : Ex _ _ 26 _ _ _ _ _)
    refine x_bipush dX12_failsTry_26 kb_80 (by decide) (?_ : Ex _ _ 28 _ _ _ _ _)
    obtain ⟨c21, h⟩ := chk_some h
    refine x_idiv dX12_failsTry_28 c21 (by decide) (?_ : Ex _ _ 29 _ _ _ _ _)
    refine x_iconst dX12_failsTry_29 rfl (by decide) (?_ : Ex _ _ 30 _ _ _ _ _)
    refine x_iload_n dX12_failsTry_30 rfl rfl (?_ : Ex _ _ 31 _ _ _ _ _)
    refine x_bipush dX12_failsTry_31 kb_80 (by decide) (?_ : Ex _ _ 33 _ _ _ _ _)
    obtain ⟨c22, h⟩ := chk_some h
    refine x_irem dX12_failsTry_33 c22 (by decide) (?_ : Ex _ _ 34 _ _ _ _ _)
    refine x_iconst dX12_failsTry_34 rfl (by decide) (?_ : Ex _ _ 35 _ _ _ _ _)
    obtain ⟨v23, m24, g25, h⟩ := cal_some h
    refine cV4 (e_X12_happens d g25) (contN (by decide) (?_ : Ex _ _ 38 _ _ _ _ _)) og_X12_happens rfl ml_RX12_227 12 rfl rfl c1 im_X12_happens se_X12_happens (Nat.le_of_ble_eq_true rfl) dX12_failsTry_35
    refine x_istore_n (ls2 := [(22, l0), (0, l1), (0, m (m l0 25) l1), (0, v23)]) dX12_failsTry_38 rfl (Nat.le_of_ble_eq_true rfl) rfl (?_ : Ex _ _ 39 _ _ _ _ _)
    refine x_goto (tgt := 63) dX12_failsTry_39 rfl (?_ : Ex _ _ 63 _ _ _ _ _)
    cases h
    exact x_retv dX12_failsTry_63
  · refine x_icmp_ne (tgt := 42) dX12_failsTry_21 rfl b10 (?_ : Ex _ _ 42 _ _ _ _ _)
    refine x_aload_n dX12_failsTry_42 rfl rfl (Or.inr (by decide)) (?_ : Ex _ _ 43 _ _ _ _ _)
    refine gt_12_23 c1 fl_RX12_70 dX12_failsTry_43 (?_ : Ex _ _ 46 _ _ _ _ _)
    refine x_iload_n dX12_failsTry_46 rfl rfl (?_ : Ex _ _ 47 _ _ _ _ _)
    refine x_iconst dX12_failsTry_47 rfl (by decide) (?_ : Ex _ _ 48 _ _ _ _ _)
    obtain ⟨⟨c11, c12, c13⟩, h⟩ := chk_some h
    obtain ⟨m14, hm14, h⟩ := st_some h
    refine sd_i_800 c11 c12 c13 dX12_failsTry_48 (?_ : Ex _ _ 49 _ _ _ _ _)
    rw [← hm14]
    refine x_aload_n dX12_failsTry_49 rfl rfl (Or.inr (by decide)) (?_ : Ex _ _ 50 _ _ _ _ _)
    refine gt_12_26 c1 fl_RX12_79 dX12_failsTry_50 (?_ : Ex _ _ 53 _ _ _ _ _)
    refine x_iload_n dX12_failsTry_53 rfl rfl (?_ : Ex _ _ 54 _ _ _ _ _)
    refine x_aload_n dX12_failsTry_54 rfl rfl (Or.inr (by decide)) (?_ : Ex _ _ 55 _ _ _ _ _)
    refine gt_12_1 c1 fl_RX12_395 dX12_failsTry_55 (?_ : Ex _ _ 58 _ _ _ _ _)
    refine x_iconst dX12_failsTry_58 rfl (by decide) (?_ : Ex _ _ 59 _ _ _ _ _)
    refine x_iload_n dX12_failsTry_59 rfl rfl (?_ : Ex _ _ 60 _ _ _ _ _)
    obtain ⟨c15, h⟩ := chk_some h
    refine x_imul dX12_failsTry_60 c15 (?_ : Ex _ _ 61 _ _ _ _ _)
    obtain ⟨c16, h⟩ := chk_some h
    refine x_iadd dX12_failsTry_61 c16 (?_ : Ex _ _ 62 _ _ _ _ _)
    obtain ⟨⟨c17, c18, c19⟩, h⟩ := chk_some h
    obtain ⟨m20, hm20, h⟩ := st_some h
    refine sd_i_800 c17 c18 c19 dX12_failsTry_62 (?_ : Ex _ _ 63 _ _ _ _ _)
    rw [← hm20]
    cases h
    exact x_retv dX12_failsTry_63
theorem e_X12_failsTry (d : Nat) {a0 a1 : Int} {m : Mem} {v : Int} {m' : Mem} (h : X12_failsTry a0 a1 m = some (v, m')) : ExM (d + 3) fm_X12_failsTry [(22, a0), (0, a1)] m (.inl (3, 0)) m' := by
  exact ExM.of (by decide +kernel) (Nat.le_of_ble_eq_true rfl) (cat9 rfl) retV (e_X12_failsTry_0 d h)
theorem dX12_fail_0 : decode cX12_fail 0 = .ok (.iload_n 1, 1) := by decide +kernel
theorem dX12_fail_1 : decode cX12_fail 1 = .ok (.invokestatic 443, 3) := by decide +kernel
theorem dX12_fail_4 : decode cX12_fail 4 = .ok (.istore_n 2, 1) := by decide +kernel
theorem dX12_fail_5 : decode cX12_fail 5 = .ok (.aload_n 0, 1) := by decide +kernel
theorem dX12_fail_6 : decode cX12_fail 6 = .ok (.iload_n 2, 1) := by decide +kernel
theorem dX12_fail_7 : decode cX12_fail 7 = .ok (.ifCond .ne 7, 3) := by decide +kernel
theorem dX12_fail_10 : decode cX12_fail 10 = .ok (.iconst 1, 1) := by decide +kernel
theorem dX12_fail_11 : decode cX12_fail 11 = .ok (.goto 18, 3) := by decide +kernel
theorem dX12_fail_14 : decode cX12_fail 14 = .ok (.aload_n 0, 1) := by decide +kernel
theorem dX12_fail_15 : decode cX12_fail 15 = .ok (.getfield 116, 3) := by decide +kernel
theorem dX12_fail_18 : decode cX12_fail 18 = .ok (.iload_n 1, 1) := by decide +kernel
theorem dX12_fail_19 : decode cX12_fail 19 = .ok (.iaload, 1) := by decide +kernel
theorem dX12_fail_20 : decode cX12_fail 20 = .ok (.iconst (-1), 1) := by decide +kernel
theorem dX12_fail_21 : decode cX12_fail 21 = .ok (.if_icmp .ne 7, 3) := by decide +kernel
theorem dX12_fail_24 : decode cX12_fail 24 = .ok (.iconst 2, 1) := by decide +kernel
theorem dX12_fail_25 : decode cX12_fail 25 = .ok (.goto 4, 3) := by decide +kernel
theorem dX12_fail_28 : decode cX12_fail 28 = .ok (.iconst 0, 1) := by decide +kernel
theorem dX12_fail_29 : decode cX12_fail 29 = .ok (.invokevirtual 198, 3) := by decide +kernel
theorem dX12_fail_32 : decode cX12_fail 32 = .ok (.ifCond .ne 5, 3) := by decide +kernel
theorem dX12_fail_35 : decode cX12_fail 35 = .ok (.iconst 0, 1) := by decide +kernel
theorem dX12_fail_36 : decode cX12_fail 36 = .ok (.ireturn, 1) := by decide +kernel
theorem dX12_fail_37 : decode cX12_fail 37 = .ok (.aload_n 0, 1) := by decide +kernel
theorem dX12_fail_38 : decode cX12_fail 38 = .ok (.getfield 76, 3) := by decide +kernel
theorem dX12_fail_41 : decode cX12_fail 41 = .ok (.aload_n 0, 1) := by decide +kernel
theorem dX12_fail_42 : decode cX12_fail 42 = .ok (.getfield 116, 3) := by decide +kernel
theorem dX12_fail_45 : decode cX12_fail 45 = .ok (.iload_n 1, 1) := by decide +kernel
theorem dX12_fail_46 : decode cX12_fail 46 = .ok (.iaload, 1) := by decide +kernel
theorem dX12_fail_47 : decode cX12_fail 47 = .ok (.iaload, 1) := by decide +kernel
theorem dX12_fail_48 : decode cX12_fail 48 = .ok (.istore_n 3, 1) := by decide +kernel
theorem dX12_fail_49 : decode cX12_fail 49 = .ok (.aload_n 0, 1) := by decide +kernel
theorem dX12_fail_50 : decode cX12_fail 50 = .ok (.aload_n 0, 1) := by decide +kernel
theorem dX12_fail_51 : decode cX12_fail 51 = .ok (.getfield 116, 3) := by decide +kernel
theorem dX12_fail_54 : decode cX12_fail 54 = .ok (.iload_n 1, 1) := by decide +kernel
theorem dX12_fail_55 : decode cX12_fail 55 = .ok (.iaload, 1) := by decide +kernel
theorem dX12_fail_56 : decode cX12_fail 56 = .ok (.invokevirtual 452, 3) := by decide +kernel
theorem dX12_fail_59 : decode cX12_fail 59 = .ok (.iload_n 3, 1) := by decide +kernel
theorem dX12_fail_60 : decode cX12_fail 60 = .ok (.ireturn, 1) := by decide +kernel
theorem e_X12_fail_29 (d : Nat) {l0 l1 s0 s1 : Int} {m : Mem} {v : Int} {m' : Mem} (h : X12_fail_29 l0 l1 s0 s1 m = some (v, m')) : Ex (d + 4) fm_X12_fail 29 [(22, l0), (0, l1), (3, 0), (3, 0)] [(0, s0), (22, s1)] m (.inl (0, v)) m' := by
  unfold X12_fail_29 at h
  obtain ⟨c1, h⟩ := chk_some h
  obtain ⟨v2, m3, g4, h⟩ := cal_some h
  refine cV1 (e_X12_isFine (d + 3) g4) (contN (by decide) (?_ : Ex _ _ 32 _ _ _ _ _)) og_X12_isFine rfl ml_RX12_198 12 rfl rfl c1 im_X12_isFine se_X12_isFine (Nat.le_of_ble_eq_true rfl) dX12_fail_29
  rcases ite_some h with ⟨b5, h⟩ | ⟨b5, h⟩
  · refine x_if_neN dX12_fail_32 (by decide) (fun hh => hh b5) (?_ : Ex _ _ 35 _ _ _ _ _)
    refine x_iconst dX12_fail_35 rfl (by decide) (?_ : Ex _ _ 36 _ _ _ _ _)
    cases h
    exact x_ret dX12_fail_36 (by decide : (0 : Int) ≠ 3)
  · refine x_if_ne (tgt := 37) dX12_fail_32 rfl b5 (?_ : Ex _ _ 37 _ _ _ _ _)
    refine x_aload_n dX12_fail_37 rfl rfl (Or.inr (by decide)) (?_ : Ex _ _ 38 _ _ _ _ _)
    obtain ⟨c6, h⟩ := chk_some h
    refine gt_12_25 c6 fl_RX12_76 dX12_fail_38 (?_ : Ex _ _ 41 _ _ _ _ _)
    refine x_aload_n dX12_fail_41 rfl rfl (Or.inr (by decide)) (?_ : Ex _ _ 42 _ _ _ _ _)
    refine gt_12_39 c6 fl_RX12_116 dX12_fail_42 (?_ : Ex _ _ 45 _ _ _ _ _)
    refine x_iload_n dX12_fail_45 rfl rfl (?_ : Ex _ _ 46 _ _ _ _ _)
    obtain ⟨⟨c7, c8, c9⟩, h⟩ := chk_some h
    refine ld_i_4 c7 c8 c9 dX12_fail_46 (?_ : Ex _ _ 47 _ _ _ _ _)
    obtain ⟨⟨c10, c11, c12⟩, h⟩ := chk_some h
    refine ld_i_800 c10 c11 c12 dX12_fail_47 (?_ : Ex _ _ 48 _ _ _ _ _)
    refine x_istore_n (ls2 := [(22, l0), (0, l1), (3, 0), (0, m3 (m3 l0 25) (m3 (m3 l0 39) l1))]) dX12_fail_48 rfl (Nat.le_of_ble_eq_true rfl) rfl (?_ : Ex _ _ 49 _ _ _ _ _)
    refine x_aload_n dX12_fail_49 rfl rfl (Or.inr (by decide)) (?_ : Ex _ _ 50 _ _ _ _ _)
    refine x_aload_n dX12_fail_50 rfl rfl (Or.inr (by decide)) (?_ : Ex _ _ 51 _ _ _ _ _)
    refine gt_12_39 c6 fl_RX12_116 dX12_fail_51 (?_ : Ex _ _ 54 _ _ _ _ _)
    refine x_iload_n dX12_fail_54 rfl rfl (?_ : Ex _ _ 55 _ _ _ _ _)
    obtain ⟨⟨c13, c14⟩, h⟩ := chk_some h
    refine ld_i_4 c7 c13 c14 dX12_fail_55 (?_ : Ex _ _ 56 _ _ _ _ _)
    obtain ⟨v15, m16, g17, h⟩ := cal_some h
    refine cV1 (e_X12_failsTry d g17) (contV (?_ : Ex _ _ 59 _ _ _ _ _)) og_X12_failsTry rfl ml_RX12_452 12 rfl rfl c6 im_X12_failsTry se_X12_failsTry (Nat.le_of_ble_eq_true rfl) dX12_fail_56
    refine x_iload_n dX12_fail_59 rfl rfl (?_ : Ex _ _ 60 _ _ _ _ _)
    cases h
    exact x_ret dX12_fail_60 (by decide : (0 : Int) ≠ 3)
theorem e_X12_fail_0 (d : Nat) {l0 l1 : Int} {m : Mem} {v : Int} {m' : Mem} (h : X12_fail_0 l0 l1 m = some (v, m')) : Ex (d + 4) fm_X12_fail 0 [(22, l0), (0, l1), (3, 0), (3, 0)] [] m (.inl (0, v)) m' := by
  unfold X12_fail_0 at h
  refine x_iload_n dX12_fail_0 rfl rfl (?_ : Ex _ _ 1 _ _ _ _ _)
  obtain ⟨v1, m2, g3, h⟩ := cal_some h
  refine cS1 (e_X12_isWorker (d + 2) g3) (contN (by decide) (?_ : Ex _ _ 4 _ _ _ _ _)) og_X12_isWorker rfl ml_RX12_443 sm_X12_isWorker (Nat.le_of_ble_eq_true rfl) dX12_fail_1
  refine x_istore_n (ls2 := [(22, l0), (0, l1), (0, v1), (3, 0)]) dX12_fail_4 rfl (Nat.le_of_ble_eq_true rfl) rfl (?_ : Ex _ _ 5 _ _ _ _ _)
  refine x_aload_n dX12_fail_5 rfl rfl (Or.inr (by decide)) (?_ : Ex _ _ 6 _ _ _ _ _)
  refine x_iload_n dX12_fail_6 rfl rfl (?_ : Ex _ _ 7 _ _ _ _ _)
  rcases ite_some h with ⟨b4, h⟩ | ⟨b4, h⟩
  · refine x_if_neN dX12_fail_7 (by decide) (fun hh => hh b4) (?_ : Ex _ _ 10 _ _ _ _ _)
    refine x_iconst dX12_fail_10 rfl (by decide) (?_ : Ex _ _ 11 _ _ _ _ _)
    refine x_goto (tgt := 29) dX12_fail_11 rfl (?_ : Ex _ _ 29 _ _ _ _ _)
    refine Ex.wk (ls2 := [(22, l0), (0, l1), (3, 0), (3, 0)]) ⟨Or.inr rfl, Or.inr rfl, Or.inl rfl, Or.inl rfl, trivial⟩ ?_
    exact e_X12_fail_29 d h
  · refine x_if_ne (tgt := 14) dX12_fail_7 rfl b4 (?_ : Ex _ _ 14 _ _ _ _ _)
    refine x_aload_n dX12_fail_14 rfl rfl (Or.inr (by decide)) (?_ : Ex _ _ 15 _ _ _ _ _)
    obtain ⟨c5, h⟩ := chk_some h
    refine gt_12_39 c5 fl_RX12_116 dX12_fail_15 (?_ : Ex _ _ 18 _ _ _ _ _)
    refine x_iload_n dX12_fail_18 rfl rfl (?_ : Ex _ _ 19 _ _ _ _ _)
    obtain ⟨⟨c6, c7, c8⟩, h⟩ := chk_some h
    refine ld_i_4 c6 c7 c8 dX12_fail_19 (?_ : Ex _ _ 20 _ _ _ _ _)
    refine x_iconst dX12_fail_20 rfl (by decide) (?_ : Ex _ _ 21 _ _ _ _ _)
    rcases ite_some h with ⟨b9, h⟩ | ⟨b9, h⟩
    · refine x_icmp_neN dX12_fail_21 (by decide) (fun hh => hh b9) (?_ : Ex _ _ 24 _ _ _ _ _)
      refine x_iconst dX12_fail_24 rfl (by decide) (?_ : Ex _ _ 25 _ _ _ _ _)
      refine x_goto (tgt := 29) dX12_fail_25 rfl (?_ : Ex _ _ 29 _ _ _ _ _)
      refine Ex.wk (ls2 := [(22, l0), (0, l1), (3, 0), (3, 0)]) ⟨Or.inr rfl, Or.inr rfl, Or.inl rfl, Or.inl rfl, trivial⟩ ?_
      exact e_X12_fail_29 d h
    · refine x_icmp_ne (tgt := 28) dX12_fail_21 rfl b9 (?_ : Ex _ _ 28 _ _ _ _ _)
      refine x_iconst dX12_fail_28 rfl (by decide) (?_ : Ex _ _ 29 _ _ _ _ _)
      refine Ex.wk (ls2 := [(22, l0), (0, l1), (3, 0), (3, 0)]) ⟨Or.inr rfl, Or.inr rfl, Or.inl rfl, Or.inl rfl, trivial⟩ ?_
      exact e_X12_fail_29 d h
theorem e_X12_fail (d : Nat) {a0 a1 : Int} {m : Mem} {v : Int} {m' : Mem} (h : X12_fail a0 a1 m = some (v, m')) : ExM (d + 4) fm_X12_fail [(22, a0), (0, a1)] m (.inl (0, v)) m' := by
  exact ExM.of (by decide +kernel) (Nat.le_of_ble_eq_true rfl) (cat9 rfl) retI (e_X12_fail_0 d h)
theorem dX12_run_0 : decode cX12_run 0 = .ok (.aload_n 0, 1) := by decide +kernel
theorem dX12_run_1 : decode cX12_run 1 = .ok (.iload_n 1, 1) := by decide +kernel
theorem dX12_run_2 : decode cX12_run 2 = .ok (.invokestatic 443, 3) := by decide +kernel
theorem dX12_run_5 : decode cX12_run 5 = .ok (.ifCond .eq 7, 3) := by decide +kernel
theorem dX12_run_8 : decode cX12_run 8 = .ok (.iconst 0, 1) := by decide +kernel
theorem dX12_run_9 : decode cX12_run 9 = .ok (.goto 4, 3) := by decide +kernel
theorem dX12_run_12 : decode cX12_run 12 = .ok (.iconst 1, 1) := by decide +kernel
theorem dX12_run_13 : decode cX12_run 13 = .ok (.invokevirtual 198, 3) := by decide +kernel
theorem dX12_run_16 : decode cX12_run 16 = .ok (.ifCond .ne 5, 3) := by decide +kernel
theorem dX12_run_19 : decode cX12_run 19 = .ok (.iconst 0, 1) := by decide +kernel
theorem dX12_run_20 : decode cX12_run 20 = .ok (.ireturn, 1) := by decide +kernel
theorem dX12_run_21 : decode cX12_run 21 = .ok (.aload_n 0, 1) := by decide +kernel
theorem dX12_run_22 : decode cX12_run 22 = .ok (.getfield 116, 3) := by decide +kernel
theorem dX12_run_25 : decode cX12_run 25 = .ok (.iload_n 1, 1) := by decide +kernel
theorem dX12_run_26 : decode cX12_run 26 = .ok (.iaload, 1) := by decide +kernel
theorem dX12_run_27 : decode cX12_run 27 = .ok (.iconst (-1), 1) := by decide +kernel
theorem dX12_run_28 : decode cX12_run 28 = .ok (.if_icmp .eq 7, 3) := by decide +kernel
theorem dX12_run_31 : decode cX12_run 31 = .ok (.iconst 1, 1) := by decide +kernel
theorem dX12_run_32 : decode cX12_run 32 = .ok (.goto 4, 3) := by decide +kernel
theorem dX12_run_35 : decode cX12_run 35 = .ok (.iconst 0, 1) := by decide +kernel
theorem dX12_run_36 : decode cX12_run 36 = .ok (.istore_n 3, 1) := by decide +kernel
theorem dX12_run_37 : decode cX12_run 37 = .ok (.aload_n 0, 1) := by decide +kernel
theorem dX12_run_38 : decode cX12_run 38 = .ok (.getfield 116, 3) := by decide +kernel
theorem dX12_run_41 : decode cX12_run 41 = .ok (.iload_n 1, 1) := by decide +kernel
theorem dX12_run_42 : decode cX12_run 42 = .ok (.iload_n 2, 1) := by decide +kernel
theorem dX12_run_43 : decode cX12_run 43 = .ok (.ifCond .eq 12, 3) := by decide +kernel
theorem dX12_run_46 : decode cX12_run 46 = .ok (.aload_n 0, 1) := by decide +kernel
theorem dX12_run_47 : decode cX12_run 47 = .ok (.getfield 116, 3) := by decide +kernel
theorem dX12_run_50 : decode cX12_run 50 = .ok (.iload_n 1, 1) := by decide +kernel
theorem dX12_run_51 : decode cX12_run 51 = .ok (.iaload, 1) := by decide +kernel
theorem dX12_run_52 : decode cX12_run 52 = .ok (.goto 4, 3) := by decide +kernel
theorem dX12_run_55 : decode cX12_run 55 = .ok (.iconst (-1), 1) := by decide +kernel
theorem dX12_run_56 : decode cX12_run 56 = .ok (.iastore, 1) := by decide +kernel
theorem dX12_run_57 : decode cX12_run 57 = .ok (.aload_n 0, 1) := by decide +kernel
theorem dX12_run_58 : decode cX12_run 58 = .ok (.getfield 112, 3) := by decide +kernel
theorem dX12_run_61 : decode cX12_run 61 = .ok (.iload_n 1, 1) := by decide +kernel
theorem dX12_run_62 : decode cX12_run 62 = .ok (.iload_n 2, 1) := by decide +kernel
theorem dX12_run_63 : decode cX12_run 63 = .ok (.bastore, 1) := by decide +kernel
theorem dX12_run_64 : decode cX12_run 64 = .ok (.iload_n 3, 1) := by decide +kernel
theorem dX12_run_65 : decode cX12_run 65 = .ok (.ireturn, 1) := by decide +kernel
theorem e_X12_run_56 (d : Nat) {l0 l1 l2 l3 s0 s1 s2 : Int} {m : Mem} {v : Int} {m' : Mem} (h : X12_run_56 l0 l1 l2 l3 s0 s1 s2 m = some (v, m')) : Ex (d + 2) fm_X12_run 56 [(22, l0), (0, l1), (0, l2), (0, l3)] [(0, s0), (0, s1), (100004, s2)] m (.inl (0, v)) m' := by
  unfold X12_run_56 at h
  obtain ⟨⟨c1, c2, c3⟩, h⟩ := chk_some h
  obtain ⟨m4, hm4, h⟩ := st_some h
  refine sd_i_4 c1 c2 c3 dX12_run_56 (?_ : Ex _ _ 57 _ _ _ _ _)
  rw [← hm4]
  refine x_aload_n dX12_run_57 rfl rfl (Or.inr (by decide)) (?_ : Ex _ _ 58 _ _ _ _ _)
  obtain ⟨c5, h⟩ := chk_some h
  refine gt_12_38 c5 fl_RX12_112 dX12_run_58 (?_ : Ex _ _ 61 _ _ _ _ _)
  refine x_iload_n dX12_run_61 rfl rfl (?_ : Ex _ _ 62 _ _ _ _ _)
  refine x_iload_n dX12_run_62 rfl rfl (?_ : Ex _ _ 63 _ _ _ _ _)
  obtain ⟨⟨c6, c7, c8, c9⟩, h⟩ := chk_some h
  obtain ⟨m10, hm10, h⟩ := st_some h
  refine sd_b_4 c6 c7 c8 c9 dX12_run_63 (?_ : Ex _ _ 64 _ _ _ _ _)
  rw [← hm10]
  refine x_iload_n dX12_run_64 rfl rfl (?_ : Ex _ _ 65 _ _ _ _ _)
  cases h
  exact x_ret dX12_run_65 (by decide : (0 : Int) ≠ 3)
theorem e_X12_run_36 (d : Nat) {l0 l1 l2 s0 : Int} {m : Mem} {v : Int} {m' : Mem} (h : X12_run_36 l0 l1 l2 s0 m = some (v, m')) : Ex (d + 2) fm_X12_run 36 [(22, l0), (0, l1), (0, l2), (3, 0)] [(0, s0)] m (.inl (0, v)) m' := by
  unfold X12_run_36 at h
  refine x_istore_n (ls2 := [(22, l0), (0, l1), (0, l2), (0, s0)]) dX12_run_36 rfl (Nat.le_of_ble_eq_true rfl) rfl (?_ : Ex _ _ 37 _ _ _ _ _)
  refine x_aload_n dX12_run_37 rfl rfl (Or.inr (by decide)) (?_ : Ex _ _ 38 _ _ _ _ _)
  obtain ⟨c1, h⟩ := chk_some h
  refine gt_12_39 c1 fl_RX12_116 dX12_run_38 (?_ : Ex _ _ 41 _ _ _ _ _)
  refine x_iload_n dX12_run_41 rfl rfl (?_ : Ex _ _ 42 _ _ _ _ _)
  refine x_iload_n dX12_run_42 rfl rfl (?_ : Ex _ _ 43 _ _ _ _ _)
  rcases ite_some h with ⟨b2, h⟩ | ⟨b2, h⟩
  · refine x_if_eq (tgt := 55) dX12_run_43 rfl b2 (?_ : Ex _ _ 55 _ _ _ _ _)
    refine x_iconst dX12_run_55 rfl (by decide) (?_ : Ex _ _ 56 _ _ _ _ _)
    exact e_X12_run_56 d h
  · refine x_if_eqN dX12_run_43 (by decide) b2 (?_ : Ex _ _ 46 _ _ _ _ _)
    refine x_aload_n dX12_run_46 rfl rfl (Or.inr (by decide)) (?_ : Ex _ _ 47 _ _ _ _ _)
    refine gt_12_39 c1 fl_RX12_116 dX12_run_47 (?_ : Ex _ _ 50 _ _ _ _ _)
    refine x_iload_n dX12_run_50 rfl rfl (?_ : Ex _ _ 51 _ _ _ _ _)
    obtain ⟨⟨c3, c4, c5⟩, h⟩ := chk_some h
    refine ld_i_4 c3 c4 c5 dX12_run_51 (?_ : Ex _ _ 52 _ _ _ _ _)
    refine x_goto (tgt := 56) dX12_run_52 rfl (?_ : Ex _ _ 56 _ _ _ _ _)
    exact e_X12_run_56 d h
theorem e_X12_run_13 (d : Nat) {l0 l1 l2 s0 s1 : Int} {m : Mem} {v : Int} {m' : Mem} (h : X12_run_13 l0 l1 l2 s0 s1 m = some (v, m')) : Ex (d + 2) fm_X12_run 13 [(22, l0), (0, l1), (0, l2), (3, 0)] [(0, s0), (22, s1)] m (.inl (0, v)) m' := by
  unfold X12_run_13 at h
  obtain ⟨c1, h⟩ := chk_some h
  obtain ⟨v2, m3, g4, h⟩ := cal_some h
  refine cV1 (e_X12_isFine (d + 1) g4) (contN (by decide) (?_ : Ex _ _ 16 _ _ _ _ _)) og_X12_isFine rfl ml_RX12_198 12 rfl rfl c1 im_X12_isFine se_X12_isFine (Nat.le_of_ble_eq_true rfl) dX12_run_13
  rcases ite_some h with ⟨b5, h⟩ | ⟨b5, h⟩
  · refine x_if_neN dX12_run_16 (by decide) (fun hh => hh b5) (?_ : Ex _ _ 19 _ _ _ _ _)
    refine x_iconst dX12_run_19 rfl (by decide) (?_ : Ex _ _ 20 _ _ _ _ _)
    cases h
    exact x_ret dX12_run_20 (by decide : (0 : Int) ≠ 3)
  · refine x_if_ne (tgt := 21) dX12_run_16 rfl b5 (?_ : Ex _ _ 21 _ _ _ _ _)
    refine x_aload_n dX12_run_21 rfl rfl (Or.inr (by decide)) (?_ : Ex _ _ 22 _ _ _ _ _)
    obtain ⟨c6, h⟩ := chk_some h
    refine gt_12_39 c6 fl_RX12_116 dX12_run_22 (?_ : Ex _ _ 25 _ _ _ _ _)
    refine x_iload_n dX12_run_25 rfl rfl (?_ : Ex _ _ 26 _ _ _ _ _)
    obtain ⟨⟨c7, c8, c9⟩, h⟩ := chk_some h
    refine ld_i_4 c7 c8 c9 dX12_run_26 (?_ : Ex _ _ 27 _ _ _ _ _)
    refine x_iconst dX12_run_27 rfl (by decide) (?_ : Ex _ _ 28 _ _ _ _ _)
    rcases ite_some h with ⟨b10, h⟩ | ⟨b10, h⟩
    · refine x_icmp_eq (tgt := 35) dX12_run_28 rfl b10 (?_ : Ex _ _ 35 _ _ _ _ _)
      refine x_iconst dX12_run_35 rfl (by decide) (?_ : Ex _ _ 36 _ _ _ _ _)
      exact e_X12_run_36 d h
    · refine x_icmp_eqN dX12_run_28 (by decide) b10 (?_ : Ex _ _ 31 _ _ _ _ _)
      refine x_iconst dX12_run_31 rfl (by decide) (?_ : Ex _ _ 32 _ _ _ _ _)
      refine x_goto (tgt := 36) dX12_run_32 rfl (?_ : Ex _ _ 36 _ _ _ _ _)
      exact e_X12_run_36 d h
theorem e_X12_run_0 (d : Nat) {l0 l1 l2 : Int} {m : Mem} {v : Int} {m' : Mem} (h : X12_run_0 l0 l1 l2 m = some (v, m')) : Ex (d + 2) fm_X12_run 0 [(22, l0), (0, l1), (0, l2), (3, 0)] [] m (.inl (0, v)) m' := by
  unfold X12_run_0 at h
  refine x_aload_n dX12_run_0 rfl rfl (Or.inr (by decide)) (?_ : Ex _ _ 1 _ _ _ _ _)
  refine x_iload_n dX12_run_1 rfl rfl (?_ : Ex _ _ 2 _ _ _ _ _)
  obtain ⟨v1, m2, g3, h⟩ := cal_some h
  refine cS1 (e_X12_isWorker d g3) (contN (by decide) (?_ : Ex _ _ 5 _ _ _ _ _)) og_X12_isWorker rfl ml_RX12_443 sm_X12_isWorker (Nat.le_of_ble_eq_true rfl) dX12_run_2
  rcases ite_some h with ⟨b4, h⟩ | ⟨b4, h⟩
  · refine x_if_eq (tgt := 12) dX12_run_5 rfl b4 (?_ : Ex _ _ 12 _ _ _ _ _)
    refine x_iconst dX12_run_12 rfl (by decide) (?_ : Ex _ _ 13 _ _ _ _ _)
    exact e_X12_run_13 d h
  · refine x_if_eqN dX12_run_5 (by decide) b4 (?_ : Ex _ _ 8 _ _ _ _ _)
    refine x_iconst dX12_run_8 rfl (by decide) (?_ : Ex _ _ 9 _ _ _ _ _)
    refine x_goto (tgt := 13) dX12_run_9 rfl (?_ : Ex _ _ 13 _ _ _ _ _)
    exact e_X12_run_13 d h
theorem e_X12_run (d : Nat) {a0 a1 a2 : Int} {m : Mem} {v : Int} {m' : Mem} (h : X12_run a0 a1 a2 m = some (v, m')) : ExM (d + 2) fm_X12_run [(22, a0), (0, a1), (0, a2)] m (.inl (0, v)) m' := by
  obtain ⟨hb, h⟩ := boolR_some h
  exact ExM.of (by decide +kernel) (Nat.le_of_ble_eq_true rfl) (cat9 rfl) (retZ hb) (e_X12_run_0 d h)
theorem dX12_ready_0 : decode cX12_ready 0 = .ok (.aload_n 0, 1) := by decide +kernel
theorem dX12_ready_1 : decode cX12_ready 1 = .ok (.iload_n 1, 1) := by decide +kernel
theorem dX12_ready_2 : decode cX12_ready 2 = .ok (.invokestatic 434, 3) := by decide +kernel
theorem dX12_ready_5 : decode cX12_ready 5 = .ok (.ifCond .eq 7, 3) := by decide +kernel
theorem dX12_ready_8 : decode cX12_ready 8 = .ok (.iconst 0, 1) := by decide +kernel
theorem dX12_ready_9 : decode cX12_ready 9 = .ok (.goto 4, 3) := by decide +kernel
theorem dX12_ready_12 : decode cX12_ready 12 = .ok (.iconst 1, 1) := by decide +kernel
theorem dX12_ready_13 : decode cX12_ready 13 = .ok (.invokevirtual 198, 3) := by decide +kernel
theorem dX12_ready_16 : decode cX12_ready 16 = .ok (.ifCond .ne 5, 3) := by decide +kernel
theorem dX12_ready_19 : decode cX12_ready 19 = .ok (.iconst 0, 1) := by decide +kernel
theorem dX12_ready_20 : decode cX12_ready 20 = .ok (.ireturn, 1) := by decide +kernel
theorem dX12_ready_21 : decode cX12_ready 21 = .ok (.iconst 0, 1) := by decide +kernel
theorem dX12_ready_22 : decode cX12_ready 22 = .ok (.istore_n 2, 1) := by decide +kernel
theorem dX12_ready_23 : decode cX12_ready 23 = .ok (.iconst 0, 1) := by decide +kernel
theorem dX12_ready_24 : decode cX12_ready 24 = .ok (.istore_n 3, 1) := by decide +kernel
theorem dX12_ready_25 : decode cX12_ready 25 = .ok (.iload_n 3, 1) := by decide +kernel
theorem dX12_ready_26 : decode cX12_ready 26 = .ok (.bipush 80, 2) := by decide +kernel
theorem dX12_ready_28 : decode cX12_ready 28 = .ok (.aload_n 0, 1) := by decide +kernel
theorem dX12_ready_29 : decode cX12_ready 29 = .ok (.getfield 181, 3) := by decide +kernel
theorem dX12_ready_32 : decode cX12_ready 32 = .ok (.imul, 1) := by decide +kernel
theorem dX12_ready_33 : decode cX12_ready 33 = .ok (.if_icmp .ge 26, 3) := by decide +kernel
theorem dX12_ready_36 : decode cX12_ready 36 = .ok (.iload_n 2, 1) := by decide +kernel
theorem dX12_ready_37 : decode cX12_ready 37 = .ok (.aload_n 0, 1) := by decide +kernel
theorem dX12_ready_38 : decode cX12_ready 38 = .ok (.iload_n 3, 1) := by decide +kernel
theorem dX12_ready_39 : decode cX12_ready 39 = .ok (.iload_n 1, 1) := by decide +kernel
theorem dX12_ready_40 : decode cX12_ready 40 = .ok (.invokevirtual 437, 3) := by decide +kernel
theorem dX12_ready_43 : decode cX12_ready 43 = .ok (.ifCond .eq 7, 3) := by decide +kernel
theorem dX12_ready_46 : decode cX12_ready 46 = .ok (.iconst 1, 1) := by decide +kernel
theorem dX12_ready_47 : decode cX12_ready 47 = .ok (.goto 4, 3) := by decide +kernel
theorem dX12_ready_50 : decode cX12_ready 50 = .ok (.iconst 0, 1) := by decide +kernel
theorem dX12_ready_51 : decode cX12_ready 51 = .ok (.iadd, 1) := by decide +kernel
theorem dX12_ready_52 : decode cX12_ready 52 = .ok (.istore_n 2, 1) := by decide +kernel
theorem dX12_ready_53 : decode cX12_ready 53 = .ok (.iinc 3 1, 3) := by decide +kernel
theorem dX12_ready_56 : decode cX12_ready 56 = .ok (.goto (-31), 3) := by decide +kernel
theorem dX12_ready_59 : decode cX12_ready 59 = .ok (.iload_n 2, 1) := by decide +kernel
theorem dX12_ready_60 : decode cX12_ready 60 = .ok (.ireturn, 1) := by decide +kernel
theorem e_X12_ready_25 (d : Nat) : ∀ (n : Nat) {l0 l1 l2 l3 : Int} {m : Mem} {v : Int} {m' : Mem}, X12_ready_25 n l0 l1 l2 l3 m = some (v, m') → Ex (d + 2) fm_X12_ready 25 [(22, l0), (0, l1), (0, l2), (0, l3)] [] m (.inl (0, v)) m' := by
  intro n
  induction n with
  | zero =>
    intro l0 l1 l2 l3 m v m' h
    have h : (none : Option R2) = some _ := h
    cases h
  | succ n ih =>
    intro l0 l1 l2 l3 m v m' h
    rw [X12_ready_25] at h
    refine x_iload_n dX12_ready_25 rfl rfl (?_ : Ex _ _ 26 _ _ _ _ _)
    refine x_bipush dX12_ready_26 kb_80 (by decide) (?_ : Ex _ _ 28 _ _ _ _ _)
    refine x_aload_n dX12_ready_28 rfl rfl (Or.inr (by decide)) (?_ : Ex _ _ 29 _ _ _ _ _)
    obtain ⟨c1, h⟩ := chk_some h
    refine gt_12_16 c1 fl_RX12_181 dX12_ready_29 (?_ : Ex _ _ 32 _ _ _ _ _)
    obtain ⟨c2, h⟩ := chk_some h
    refine x_imul dX12_ready_32 c2 (?_ : Ex _ _ 33 _ _ _ _ _)
    rcases ite_some h with ⟨b3, h⟩ | ⟨b3, h⟩
    · refine x_icmp_ge (tgt := 59) dX12_ready_33 rfl b3 (?_ : Ex _ _ 59 _ _ _ _ _)
      refine x_iload_n dX12_ready_59 rfl rfl (?_ : Ex _ _ 60 _ _ _ _ _)
      cases h
      exact x_ret dX12_ready_60 (by decide : (0 : Int) ≠ 3)
    · refine x_icmp_geN dX12_ready_33 (by decide) b3 (?_ : Ex _ _ 36 _ _ _ _ _)
      refine x_iload_n dX12_ready_36 rfl rfl (?_ : Ex _ _ 37 _ _ _ _ _)
      refine x_aload_n dX12_ready_37 rfl rfl (Or.inr (by decide)) (?_ : Ex _ _ 38 _ _ _ _ _)
      refine x_iload_n dX12_ready_38 rfl rfl (?_ : Ex _ _ 39 _ _ _ _ _)
      refine x_iload_n dX12_ready_39 rfl rfl (?_ : Ex _ _ 40 _ _ _ _ _)
      obtain ⟨v4, m5, g6, h⟩ := cal_some h
      refine cV2 (e_X12_isReady (d + 1) g6) (contN (by decide) (?_ : Ex _ _ 43 _ _ _ _ _)) og_X12_isReady rfl ml_RX12_437 12 rfl rfl c1 im_X12_isReady se_X12_isReady (Nat.le_of_ble_eq_true rfl) dX12_ready_40
      rcases ite_some h with ⟨b7, h⟩ | ⟨b7, h⟩
      · refine x_if_eq (tgt := 50) dX12_ready_43 rfl b7 (?_ : Ex _ _ 50 _ _ _ _ _)
        refine x_iconst dX12_ready_50 rfl (by decide) (?_ : Ex _ _ 51 _ _ _ _ _)
        obtain ⟨c8, h⟩ := chk_some h
        refine x_iadd dX12_ready_51 c8 (?_ : Ex _ _ 52 _ _ _ _ _)
        refine x_istore_n (ls2 := [(22, l0), (0, l1), (0, (l2 + 0)), (0, l3)]) dX12_ready_52 rfl (Nat.le_of_ble_eq_true rfl) rfl (?_ : Ex _ _ 53 _ _ _ _ _)
        obtain ⟨c9, h⟩ := chk_some h
        refine x_iinc (ls2 := [(22, l0), (0, l1), (0, (l2 + 0)), (0, (l3 + 1))]) dX12_ready_53 rfl c9 rfl (?_ : Ex _ _ 56 _ _ _ _ _)
        refine x_goto (tgt := 25) dX12_ready_56 rfl (?_ : Ex _ _ 25 _ _ _ _ _)
        exact ih h
      · refine x_if_eqN dX12_ready_43 (by decide) b7 (?_ : Ex _ _ 46 _ _ _ _ _)
        refine x_iconst dX12_ready_46 rfl (by decide) (?_ : Ex _ _ 47 _ _ _ _ _)
        refine x_goto (tgt := 51) dX12_ready_47 rfl (?_ : Ex _ _ 51 _ _ _ _ _)
        obtain ⟨c10, h⟩ := chk_some h
        refine x_iadd dX12_ready_51 c10 (?_ : Ex _ _ 52 _ _ _ _ _)
        refine x_istore_n (ls2 := [(22, l0), (0, l1), (0, (l2 + 1)), (0, l3)]) dX12_ready_52 rfl (Nat.le_of_ble_eq_true rfl) rfl (?_ : Ex _ _ 53 _ _ _ _ _)
        obtain ⟨c11, h⟩ := chk_some h
        refine x_iinc (ls2 := [(22, l0), (0, l1), (0, (l2 + 1)), (0, (l3 + 1))]) dX12_ready_53 rfl c11 rfl (?_ : Ex _ _ 56 _ _ _ _ _)
        refine x_goto (tgt := 25) dX12_ready_56 rfl (?_ : Ex _ _ 25 _ _ _ _ _)
        exact ih h
theorem e_X12_ready_13 (d : Nat) {l0 l1 s0 s1 : Int} {m : Mem} {v : Int} {m' : Mem} (h : X12_ready_13 l0 l1 s0 s1 m = some (v, m')) : Ex (d + 2) fm_X12_ready 13 [(22, l0), (0, l1), (3, 0), (3, 0)] [(0, s0), (22, s1)] m (.inl (0, v)) m' := by
  unfold X12_ready_13 at h
  obtain ⟨c1, h⟩ := chk_some h
  obtain ⟨v2, m3, g4, h⟩ := cal_some h
  refine cV1 (e_X12_isFine (d + 1) g4) (contN (by decide) (?_ : Ex _ _ 16 _ _ _ _ _)) og_X12_isFine rfl ml_RX12_198 12 rfl rfl c1 im_X12_isFine se_X12_isFine (Nat.le_of_ble_eq_true rfl) dX12_ready_13
  rcases ite_some h with ⟨b5, h⟩ | ⟨b5, h⟩
  · refine x_if_neN dX12_ready_16 (by decide) (fun hh => hh b5) (?_ : Ex _ _ 19 _ _ _ _ _)
    refine x_iconst dX12_ready_19 rfl (by decide) (?_ : Ex _ _ 20 _ _ _ _ _)
    cases h
    exact x_ret dX12_ready_20 (by decide : (0 : Int) ≠ 3)
  · refine x_if_ne (tgt := 21) dX12_ready_16 rfl b5 (?_ : Ex _ _ 21 _ _ _ _ _)
    refine x_iconst dX12_ready_21 rfl (by decide) (?_ : Ex _ _ 22 _ _ _ _ _)
    refine x_istore_n (ls2 := [(22, l0), (0, l1), (0, 0), (3, 0)]) dX12_ready_22 rfl (Nat.le_of_ble_eq_true rfl) rfl (?_ : Ex _ _ 23 _ _ _ _ _)
    refine x_iconst dX12_ready_23 rfl (by decide) (?_ : Ex _ _ 24 _ _ _ _ _)
    refine x_istore_n (ls2 := [(22, l0), (0, l1), (0, 0), (0, 0)]) dX12_ready_24 rfl (Nat.le_of_ble_eq_true rfl) rfl (?_ : Ex _ _ 25 _ _ _ _ _)
    exact e_X12_ready_25 d fuel9 h
theorem e_X12_ready_0 (d : Nat) {l0 l1 : Int} {m : Mem} {v : Int} {m' : Mem} (h : X12_ready_0 l0 l1 m = some (v, m')) : Ex (d + 2) fm_X12_ready 0 [(22, l0), (0, l1), (3, 0), (3, 0)] [] m (.inl (0, v)) m' := by
  unfold X12_ready_0 at h
  refine x_aload_n dX12_ready_0 rfl rfl (Or.inr (by decide)) (?_ : Ex _ _ 1 _ _ _ _ _)
  refine x_iload_n dX12_ready_1 rfl rfl (?_ : Ex _ _ 2 _ _ _ _ _)
  obtain ⟨v1, m2, g3, h⟩ := cal_some h
  refine cS1 (e_X12_isQueue d g3) (contN (by decide) (?_ : Ex _ _ 5 _ _ _ _ _)) og_X12_isQueue rfl ml_RX12_434 sm_X12_isQueue (Nat.le_of_ble_eq_true rfl) dX12_ready_2
  rcases ite_some h with ⟨b4, h⟩ | ⟨b4, h⟩
  · refine x_if_eq (tgt := 12) dX12_ready_5 rfl b4 (?_ : Ex _ _ 12 _ _ _ _ _)
    refine x_iconst dX12_ready_12 rfl (by decide) (?_ : Ex _ _ 13 _ _ _ _ _)
    exact e_X12_ready_13 d h
  · refine x_if_eqN dX12_ready_5 (by decide) b4 (?_ : Ex _ _ 8 _ _ _ _ _)
    refine x_iconst dX12_ready_8 rfl (by decide) (?_ : Ex _ _ 9 _ _ _ _ _)
    refine x_goto (tgt := 13) dX12_ready_9 rfl (?_ : Ex _ _ 13 _ _ _ _ _)
    exact e_X12_ready_13 d h
theorem e_X12_ready (d : Nat) {a0 a1 : Int} {m : Mem} {v : Int} {m' : Mem} (h : X12_ready a0 a1 m = some (v, m')) : ExM (d + 2) fm_X12_ready [(22, a0), (0, a1)] m (.inl (0, v)) m' := by
  exact ExM.of (by decide +kernel) (Nat.le_of_ble_eq_true rfl) (cat9 rfl) retI (e_X12_ready_0 d h)
