/-! the machine does what the functions say, printed -/
theorem dX12_step_0 : decode cX12_step 0 = .ok (.iload_n 1, 1) := by decide +kernel
theorem dX12_step_1 : decode cX12_step 1 = .ok (.invokestatic 188, 3) := by decide +kernel
theorem dX12_step_4 : decode cX12_step 4 = .ok (.istore 5, 2) := by decide +kernel
theorem dX12_step_6 : decode cX12_step 6 = .ok (.iload 5, 2) := by decide +kernel
theorem dX12_step_8 : decode cX12_step 8 = .ok (.ifCond .eq 11, 3) := by decide +kernel
theorem dX12_step_11 : decode cX12_step 11 = .ok (.iload_n 1, 1) := by decide +kernel
theorem dX12_step_12 : decode cX12_step 12 = .ok (.iconst 5, 1) := by decide +kernel
theorem dX12_step_13 : decode cX12_step 13 = .ok (.invokestatic 191, 3) := by decide +kernel
theorem dX12_step_16 : decode cX12_step 16 = .ok (.goto 4, 3) := by decide +kernel
theorem dX12_step_19 : decode cX12_step 19 = .ok (.iconst 0, 1) := by decide +kernel
theorem dX12_step_20 : decode cX12_step 20 = .ok (.istore 6, 2) := by decide +kernel
theorem dX12_step_22 : decode cX12_step 22 = .ok (.aload_n 0, 1) := by decide +kernel
theorem dX12_step_23 : decode cX12_step 23 = .ok (.iload 5, 2) := by decide +kernel
theorem dX12_step_25 : decode cX12_step 25 = .ok (.ifCond .ne 7, 3) := by decide +kernel
theorem dX12_step_28 : decode cX12_step 28 = .ok (.iconst 1, 1) := by decide +kernel
theorem dX12_step_29 : decode cX12_step 29 = .ok (.goto 44, 3) := by decide +kernel
theorem dX12_step_32 : decode cX12_step 32 = .ok (.iload_n 2, 1) := by decide +kernel
theorem dX12_step_33 : decode cX12_step 33 = .ok (.iload_n 3, 1) := by decide +kernel
theorem dX12_step_34 : decode cX12_step 34 = .ok (.iload 4, 2) := by decide +kernel
theorem dX12_step_36 : decode cX12_step 36 = .ok (.invokestatic 195, 3) := by decide +kernel
theorem dX12_step_39 : decode cX12_step 39 = .ok (.ifCond .ne 7, 3) := by decide +kernel
theorem dX12_step_42 : decode cX12_step 42 = .ok (.iconst 2, 1) := by decide +kernel
theorem dX12_step_43 : decode cX12_step 43 = .ok (.goto 30, 3) := by decide +kernel
theorem dX12_step_46 : decode cX12_step 46 = .ok (.aload_n 0, 1) := by decide +kernel
theorem dX12_step_47 : decode cX12_step 47 = .ok (.getfield 19, 3) := by decide +kernel
theorem dX12_step_50 : decode cX12_step 50 = .ok (.iload 6, 2) := by decide +kernel
theorem dX12_step_52 : decode cX12_step 52 = .ok (.iaload, 1) := by decide +kernel
theorem dX12_step_53 : decode cX12_step 53 = .ok (.bipush 12, 2) := by decide +kernel
theorem dX12_step_55 : decode cX12_step 55 = .ok (.if_icmp .eq 13, 3) := by decide +kernel
theorem dX12_step_58 : decode cX12_step 58 = .ok (.aload_n 0, 1) := by decide +kernel
theorem dX12_step_59 : decode cX12_step 59 = .ok (.getfield 22, 3) := by decide +kernel
theorem dX12_step_62 : decode cX12_step 62 = .ok (.iload_n 1, 1) := by decide +kernel
theorem dX12_step_63 : decode cX12_step 63 = .ok (.iaload, 1) := by decide +kernel
theorem dX12_step_64 : decode cX12_step 64 = .ok (.iconst 4, 1) := by decide +kernel
theorem dX12_step_65 : decode cX12_step 65 = .ok (.if_icmp .ne 7, 3) := by decide +kernel
theorem dX12_step_68 : decode cX12_step 68 = .ok (.iconst 3, 1) := by decide +kernel
theorem dX12_step_69 : decode cX12_step 69 = .ok (.goto 4, 3) := by decide +kernel
theorem dX12_step_72 : decode cX12_step 72 = .ok (.iconst 0, 1) := by decide +kernel
theorem dX12_step_73 : decode cX12_step 73 = .ok (.invokevirtual 198, 3) := by decide +kernel
theorem dX12_step_76 : decode cX12_step 76 = .ok (.ifCond .ne 5, 3) := by decide +kernel
theorem dX12_step_79 : decode cX12_step 79 = .ok (.iconst 0, 1) := by decide +kernel
theorem dX12_step_80 : decode cX12_step 80 = .ok (.ireturn, 1) := by decide +kernel
theorem dX12_step_81 : decode cX12_step 81 = .ok (.aload_n 0, 1) := by decide +kernel
theorem dX12_step_82 : decode cX12_step 82 = .ok (.getfield 7, 3) := by decide +kernel
theorem dX12_step_85 : decode cX12_step 85 = .ok (.bipush 12, 2) := by decide +kernel
theorem dX12_step_87 : decode cX12_step 87 = .ok (.iload 6, 2) := by decide +kernel
theorem dX12_step_89 : decode cX12_step 89 = .ok (.imul, 1) := by decide +kernel
theorem dX12_step_90 : decode cX12_step 90 = .ok (.aload_n 0, 1) := by decide +kernel
theorem dX12_step_91 : decode cX12_step 91 = .ok (.getfield 19, 3) := by decide +kernel
theorem dX12_step_94 : decode cX12_step 94 = .ok (.iload 6, 2) := by decide +kernel
theorem dX12_step_96 : decode cX12_step 96 = .ok (.iaload, 1) := by decide +kernel
theorem dX12_step_97 : decode cX12_step 97 = .ok (.iadd, 1) := by decide +kernel
theorem dX12_step_98 : decode cX12_step 98 = .ok (.iload_n 2, 1) := by decide +kernel
theorem dX12_step_99 : decode cX12_step 99 = .ok (.iastore, 1) := by decide +kernel
theorem dX12_step_100 : decode cX12_step 100 = .ok (.aload_n 0, 1) := by decide +kernel
theorem dX12_step_101 : decode cX12_step 101 = .ok (.getfield 13, 3) := by decide +kernel
theorem dX12_step_104 : decode cX12_step 104 = .ok (.bipush 12, 2) := by decide +kernel
theorem dX12_step_106 : decode cX12_step 106 = .ok (.iload 6, 2) := by decide +kernel
theorem dX12_step_108 : decode cX12_step 108 = .ok (.imul, 1) := by decide +kernel
theorem dX12_step_109 : decode cX12_step 109 = .ok (.aload_n 0, 1) := by decide +kernel
theorem dX12_step_110 : decode cX12_step 110 = .ok (.getfield 19, 3) := by decide +kernel
theorem dX12_step_113 : decode cX12_step 113 = .ok (.iload 6, 2) := by decide +kernel
theorem dX12_step_115 : decode cX12_step 115 = .ok (.iaload, 1) := by decide +kernel
theorem dX12_step_116 : decode cX12_step 116 = .ok (.iadd, 1) := by decide +kernel
theorem dX12_step_117 : decode cX12_step 117 = .ok (.iload_n 3, 1) := by decide +kernel
theorem dX12_step_118 : decode cX12_step 118 = .ok (.iastore, 1) := by decide +kernel
theorem dX12_step_119 : decode cX12_step 119 = .ok (.aload_n 0, 1) := by decide +kernel
theorem dX12_step_120 : decode cX12_step 120 = .ok (.getfield 16, 3) := by decide +kernel
theorem dX12_step_123 : decode cX12_step 123 = .ok (.bipush 12, 2) := by decide +kernel
theorem dX12_step_125 : decode cX12_step 125 = .ok (.iload 6, 2) := by decide +kernel
theorem dX12_step_127 : decode cX12_step 127 = .ok (.imul, 1) := by decide +kernel
theorem dX12_step_128 : decode cX12_step 128 = .ok (.aload_n 0, 1) := by decide +kernel
theorem dX12_step_129 : decode cX12_step 129 = .ok (.getfield 19, 3) := by decide +kernel
theorem dX12_step_132 : decode cX12_step 132 = .ok (.iload 6, 2) := by decide +kernel
theorem dX12_step_134 : decode cX12_step 134 = .ok (.iaload, 1) := by decide +kernel
theorem dX12_step_135 : decode cX12_step 135 = .ok (.iadd, 1) := by decide +kernel
theorem dX12_step_136 : decode cX12_step 136 = .ok (.iload 4, 2) := by decide +kernel
theorem dX12_step_138 : decode cX12_step 138 = .ok (.iastore, 1) := by decide +kernel
theorem dX12_step_139 : decode cX12_step 139 = .ok (.aload_n 0, 1) := by decide +kernel
theorem dX12_step_140 : decode cX12_step 140 = .ok (.getfield 19, 3) := by decide +kernel
theorem dX12_step_143 : decode cX12_step 143 = .ok (.iload 6, 2) := by decide +kernel
theorem dX12_step_145 : decode cX12_step 145 = .ok (.dup2, 1) := by decide +kernel
theorem dX12_step_146 : decode cX12_step 146 = .ok (.iaload, 1) := by decide +kernel
theorem dX12_step_147 : decode cX12_step 147 = .ok (.iconst 1, 1) := by decide +kernel
theorem dX12_step_148 : decode cX12_step 148 = .ok (.iadd, 1) := by decide +kernel
theorem dX12_step_149 : decode cX12_step 149 = .ok (.iastore, 1) := by decide +kernel
theorem dX12_step_150 : decode cX12_step 150 = .ok (.aload_n 0, 1) := by decide +kernel
theorem dX12_step_151 : decode cX12_step 151 = .ok (.getfield 19, 3) := by decide +kernel
theorem dX12_step_154 : decode cX12_step 154 = .ok (.iload 6, 2) := by decide +kernel
theorem dX12_step_156 : decode cX12_step 156 = .ok (.iaload, 1) := by decide +kernel
theorem dX12_step_157 : decode cX12_step 157 = .ok (.ireturn, 1) := by decide +kernel
theorem e_X12_step_73 (d : Nat) {l0 l2 l3 l4 l6 s0 s1 : Int} {m : Mem} {v : Int} {m' : Mem} (h : X12_step_73 l0 l2 l3 l4 l6 s0 s1 m = some (v, m')) : Ex (d + 3) fm_X12_step 73 [(22, l0), (3, 0), (0, l2), (0, l3), (0, l4), (3, 0), (0, l6)] [(0, s0), (22, s1)] m (.inl (0, v)) m' := by
  unfold X12_step_73 at h
  obtain ⟨c1, h⟩ := chk_some h
  obtain ⟨v2, m3, g4, h⟩ := cal_some h
  refine cV1 (e_X12_isFine (d + 2) g4) (contN (by decide) (?_ : Ex _ _ 76 _ _ _ _ _)) og_X12_isFine rfl ml_RX12_198 12 rfl rfl c1 im_X12_isFine se_X12_isFine (Nat.le_of_ble_eq_true rfl) dX12_step_73
  rcases ite_some h with ⟨b5, h⟩ | ⟨b5, h⟩
  · refine x_if_neN dX12_step_76 (by decide) (fun hh => hh b5) (?_ : Ex _ _ 79 _ _ _ _ _)
    refine x_iconst dX12_step_79 rfl (by decide) (?_ : Ex _ _ 80 _ _ _ _ _)
    cases h
    exact x_ret dX12_step_80 (by decide : (0 : Int) ≠ 3)
  · refine x_if_ne (tgt := 81) dX12_step_76 rfl b5 (?_ : Ex _ _ 81 _ _ _ _ _)
    refine x_aload_n dX12_step_81 rfl rfl (Or.inr (by decide)) (?_ : Ex _ _ 82 _ _ _ _ _)
    obtain ⟨c6, h⟩ := chk_some h
    refine gt_12_2 c6 fl_RX12_7 dX12_step_82 (?_ : Ex _ _ 85 _ _ _ _ _)
    refine x_bipush dX12_step_85 kb_12 (by decide) (?_ : Ex _ _ 87 _ _ _ _ _)
    refine x_iload dX12_step_87 rfl (?_ : Ex _ _ 89 _ _ _ _ _)
    obtain ⟨c7, h⟩ := chk_some h
    refine x_imul dX12_step_89 c7 (?_ : Ex _ _ 90 _ _ _ _ _)
    refine x_aload_n dX12_step_90 rfl rfl (Or.inr (by decide)) (?_ : Ex _ _ 91 _ _ _ _ _)
    refine gt_12_5 c6 fl_RX12_19 dX12_step_91 (?_ : Ex _ _ 94 _ _ _ _ _)
    refine x_iload dX12_step_94 rfl (?_ : Ex _ _ 96 _ _ _ _ _)
    obtain ⟨⟨c8, c9, c10⟩, h⟩ := chk_some h
    refine ld_i_15 c8 c9 c10 dX12_step_96 (?_ : Ex _ _ 97 _ _ _ _ _)
    obtain ⟨c11, h⟩ := chk_some h
    refine x_iadd dX12_step_97 c11 (?_ : Ex _ _ 98 _ _ _ _ _)
    refine x_iload_n dX12_step_98 rfl rfl (?_ : Ex _ _ 99 _ _ _ _ _)
    obtain ⟨⟨c12, c13, c14⟩, h⟩ := chk_some h
    obtain ⟨m15, hm15, h⟩ := st_some h
    refine sd_i_180 c12 c13 c14 dX12_step_99 (?_ : Ex _ _ 100 _ _ _ _ _)
    rw [← hm15]
    refine x_aload_n dX12_step_100 rfl rfl (Or.inr (by decide)) (?_ : Ex _ _ 101 _ _ _ _ _)
    refine gt_12_3 c6 fl_RX12_13 dX12_step_101 (?_ : Ex _ _ 104 _ _ _ _ _)
    refine x_bipush dX12_step_104 kb_12 (by decide) (?_ : Ex _ _ 106 _ _ _ _ _)
    refine x_iload dX12_step_106 rfl (?_ : Ex _ _ 108 _ _ _ _ _)
    obtain ⟨c16, h⟩ := chk_some h
    refine x_imul dX12_step_108 c16 (?_ : Ex _ _ 109 _ _ _ _ _)
    refine x_aload_n dX12_step_109 rfl rfl (Or.inr (by decide)) (?_ : Ex _ _ 110 _ _ _ _ _)
    refine gt_12_5 c6 fl_RX12_19 dX12_step_110 (?_ : Ex _ _ 113 _ _ _ _ _)
    refine x_iload dX12_step_113 rfl (?_ : Ex _ _ 115 _ _ _ _ _)
    obtain ⟨⟨c17, c18, c19⟩, h⟩ := chk_some h
    refine ld_i_15 c17 c18 c19 dX12_step_115 (?_ : Ex _ _ 116 _ _ _ _ _)
    obtain ⟨c20, h⟩ := chk_some h
    refine x_iadd dX12_step_116 c20 (?_ : Ex _ _ 117 _ _ _ _ _)
    refine x_iload_n dX12_step_117 rfl rfl (?_ : Ex _ _ 118 _ _ _ _ _)
    obtain ⟨⟨c21, c22, c23⟩, h⟩ := chk_some h
    obtain ⟨m24, hm24, h⟩ := st_some h
    refine sd_i_180 c21 c22 c23 dX12_step_118 (?_ : Ex _ _ 119 _ _ _ _ _)
    rw [← hm24]
    refine x_aload_n dX12_step_119 rfl rfl (Or.inr (by decide)) (?_ : Ex _ _ 120 _ _ _ _ _)
    refine gt_12_4 c6 fl_RX12_16 dX12_step_120 (?_ : Ex _ _ 123 _ _ _ _ _)
    refine x_bipush dX12_step_123 kb_12 (by decide) (?_ : Ex _ _ 125 _ _ _ _ _)
    refine x_iload dX12_step_125 rfl (?_ : Ex _ _ 127 _ _ _ _ _)
    obtain ⟨c25, h⟩ := chk_some h
    refine x_imul dX12_step_127 c25 (?_ : Ex _ _ 128 _ _ _ _ _)
    refine x_aload_n dX12_step_128 rfl rfl (Or.inr (by decide)) (?_ : Ex _ _ 129 _ _ _ _ _)
    refine gt_12_5 c6 fl_RX12_19 dX12_step_129 (?_ : Ex _ _ 132 _ _ _ _ _)
    refine x_iload dX12_step_132 rfl (?_ : Ex _ _ 134 _ _ _ _ _)
    obtain ⟨⟨c26, c27, c28⟩, h⟩ := chk_some h
    refine ld_i_15 c26 c27 c28 dX12_step_134 (?_ : Ex _ _ 135 _ _ _ _ _)
    obtain ⟨c29, h⟩ := chk_some h
    refine x_iadd dX12_step_135 c29 (?_ : Ex _ _ 136 _ _ _ _ _)
    refine x_iload dX12_step_136 rfl (?_ : Ex _ _ 138 _ _ _ _ _)
    obtain ⟨⟨c30, c31, c32⟩, h⟩ := chk_some h
    obtain ⟨m33, hm33, h⟩ := st_some h
    refine sd_i_180 c30 c31 c32 dX12_step_138 (?_ : Ex _ _ 139 _ _ _ _ _)
    rw [← hm33]
    refine x_aload_n dX12_step_139 rfl rfl (Or.inr (by decide)) (?_ : Ex _ _ 140 _ _ _ _ _)
    refine gt_12_5 c6 fl_RX12_19 dX12_step_140 (?_ : Ex _ _ 143 _ _ _ _ _)
    refine x_iload dX12_step_143 rfl (?_ : Ex _ _ 145 _ _ _ _ _)
    refine x_dup2 (by decide : (0 : Int) ≠ 2) (by decide : (100015 : Int) ≠ 2) dX12_step_145 (?_ : Ex _ _ 146 _ _ _ _ _)
    obtain ⟨⟨c34, c35, c36⟩, h⟩ := chk_some h
    refine ld_i_15 c34 c35 c36 dX12_step_146 (?_ : Ex _ _ 147 _ _ _ _ _)
    refine x_iconst dX12_step_147 rfl (by decide) (?_ : Ex _ _ 148 _ _ _ _ _)
    obtain ⟨c37, h⟩ := chk_some h
    refine x_iadd dX12_step_148 c37 (?_ : Ex _ _ 149 _ _ _ _ _)
    obtain ⟨⟨c38, c39⟩, h⟩ := chk_some h
    obtain ⟨m40, hm40, h⟩ := st_some h
    refine sd_i_15 c34 c38 c39 dX12_step_149 (?_ : Ex _ _ 150 _ _ _ _ _)
    rw [← hm40]
    refine x_aload_n dX12_step_150 rfl rfl (Or.inr (by decide)) (?_ : Ex _ _ 151 _ _ _ _ _)
    refine gt_12_5 c6 fl_RX12_19 dX12_step_151 (?_ : Ex _ _ 154 _ _ _ _ _)
    refine x_iload dX12_step_154 rfl (?_ : Ex _ _ 156 _ _ _ _ _)
    obtain ⟨⟨c41, c42, c43⟩, h⟩ := chk_some h
    refine ld_i_15 c41 c42 c43 dX12_step_156 (?_ : Ex _ _ 157 _ _ _ _ _)
    cases h
    exact x_ret dX12_step_157 (by decide : (0 : Int) ≠ 3)
theorem e_X12_step_20 (d : Nat) {l0 l1 l2 l3 l4 l5 s0 : Int} {m : Mem} {v : Int} {m' : Mem} (h : X12_step_20 l0 l1 l2 l3 l4 l5 s0 m = some (v, m')) : Ex (d + 3) fm_X12_step 20 [(22, l0), (0, l1), (0, l2), (0, l3), (0, l4), (0, l5), (3, 0)] [(0, s0)] m (.inl (0, v)) m' := by
  unfold X12_step_20 at h
  refine x_istore (ls2 := [(22, l0), (0, l1), (0, l2), (0, l3), (0, l4), (0, l5), (0, s0)]) dX12_step_20 (Nat.le_of_ble_eq_true rfl) rfl (?_ : Ex _ _ 22 _ _ _ _ _)
  refine x_aload_n dX12_step_22 rfl rfl (Or.inr (by decide)) (?_ : Ex _ _ 23 _ _ _ _ _)
  refine x_iload dX12_step_23 rfl (?_ : Ex _ _ 25 _ _ _ _ _)
  rcases ite_some h with ⟨b1, h⟩ | ⟨b1, h⟩
  · refine x_if_neN dX12_step_25 (by decide) (fun hh => hh b1) (?_ : Ex _ _ 28 _ _ _ _ _)
    refine x_iconst dX12_step_28 rfl (by decide) (?_ : Ex _ _ 29 _ _ _ _ _)
    refine x_goto (tgt := 73) dX12_step_29 rfl (?_ : Ex _ _ 73 _ _ _ _ _)
    refine Ex.wk (ls2 := [(22, l0), (3, 0), (0, l2), (0, l3), (0, l4), (3, 0), (0, s0)]) ⟨Or.inr rfl, Or.inl rfl, Or.inr rfl, Or.inr rfl, Or.inr rfl, Or.inl rfl, Or.inr rfl, trivial⟩ ?_
    exact e_X12_step_73 d h
  · refine x_if_ne (tgt := 32) dX12_step_25 rfl b1 (?_ : Ex _ _ 32 _ _ _ _ _)
    refine x_iload_n dX12_step_32 rfl rfl (?_ : Ex _ _ 33 _ _ _ _ _)
    refine x_iload_n dX12_step_33 rfl rfl (?_ : Ex _ _ 34 _ _ _ _ _)
    refine x_iload dX12_step_34 rfl (?_ : Ex _ _ 36 _ _ _ _ _)
    obtain ⟨v2, m3, g4, h⟩ := cal_some h
    refine cS3 (e_X12_isStep d g4) (contN (by decide) (?_ : Ex _ _ 39 _ _ _ _ _)) og_X12_isStep rfl ml_RX12_195 sm_X12_isStep (Nat.le_of_ble_eq_true rfl) dX12_step_36
    rcases ite_some h with ⟨b5, h⟩ | ⟨b5, h⟩
    · refine x_if_neN dX12_step_39 (by decide) (fun hh => hh b5) (?_ : Ex _ _ 42 _ _ _ _ _)
      refine x_iconst dX12_step_42 rfl (by decide) (?_ : Ex _ _ 43 _ _ _ _ _)
      refine x_goto (tgt := 73) dX12_step_43 rfl (?_ : Ex _ _ 73 _ _ _ _ _)
      refine Ex.wk (ls2 := [(22, l0), (3, 0), (0, l2), (0, l3), (0, l4), (3, 0), (0, s0)]) ⟨Or.inr rfl, Or.inl rfl, Or.inr rfl, Or.inr rfl, Or.inr rfl, Or.inl rfl, Or.inr rfl, trivial⟩ ?_
      exact e_X12_step_73 d h
    · refine x_if_ne (tgt := 46) dX12_step_39 rfl b5 (?_ : Ex _ _ 46 _ _ _ _ _)
      refine x_aload_n dX12_step_46 rfl rfl (Or.inr (by decide)) (?_ : Ex _ _ 47 _ _ _ _ _)
      obtain ⟨c6, h⟩ := chk_some h
      refine gt_12_5 c6 fl_RX12_19 dX12_step_47 (?_ : Ex _ _ 50 _ _ _ _ _)
      refine x_iload dX12_step_50 rfl (?_ : Ex _ _ 52 _ _ _ _ _)
      obtain ⟨⟨c7, c8, c9⟩, h⟩ := chk_some h
      refine ld_i_15 c7 c8 c9 dX12_step_52 (?_ : Ex _ _ 53 _ _ _ _ _)
      refine x_bipush dX12_step_53 kb_12 (by decide) (?_ : Ex _ _ 55 _ _ _ _ _)
      rcases ite_some h with ⟨b10, h⟩ | ⟨b10, h⟩
      · refine x_icmp_eq (tgt := 68) dX12_step_55 rfl b10 (?_ : Ex _ _ 68 _ _ _ _ _)
        refine x_iconst dX12_step_68 rfl (by decide) (?_ : Ex _ _ 69 _ _ _ _ _)
        refine x_goto (tgt := 73) dX12_step_69 rfl (?_ : Ex _ _ 73 _ _ _ _ _)
        refine Ex.wk (ls2 := [(22, l0), (3, 0), (0, l2), (0, l3), (0, l4), (3, 0), (0, s0)]) ⟨Or.inr rfl, Or.inl rfl, Or.inr rfl, Or.inr rfl, Or.inr rfl, Or.inl rfl, Or.inr rfl, trivial⟩ ?_
        exact e_X12_step_73 d h
      · refine x_icmp_eqN dX12_step_55 (by decide) b10 (?_ : Ex _ _ 58 _ _ _ _ _)
        refine x_aload_n dX12_step_58 rfl rfl (Or.inr (by decide)) (?_ : Ex _ _ 59 _ _ _ _ _)
        refine gt_12_6 c6 fl_RX12_22 dX12_step_59 (?_ : Ex _ _ 62 _ _ _ _ _)
        refine x_iload_n dX12_step_62 rfl rfl (?_ : Ex _ _ 63 _ _ _ _ _)
        obtain ⟨⟨c11, c12, c13⟩, h⟩ := chk_some h
        refine ld_i_3 c11 c12 c13 dX12_step_63 (?_ : Ex _ _ 64 _ _ _ _ _)
        refine x_iconst dX12_step_64 rfl (by decide) (?_ : Ex _ _ 65 _ _ _ _ _)
        rcases ite_some h with ⟨b14, h⟩ | ⟨b14, h⟩
        · refine x_icmp_neN dX12_step_65 (by decide) (fun hh => hh b14) (?_ : Ex _ _ 68 _ _ _ _ _)
          refine x_iconst dX12_step_68 rfl (by decide) (?_ : Ex _ _ 69 _ _ _ _ _)
          refine x_goto (tgt := 73) dX12_step_69 rfl (?_ : Ex _ _ 73 _ _ _ _ _)
          refine Ex.wk (ls2 := [(22, l0), (3, 0), (0, l2), (0, l3), (0, l4), (3, 0), (0, s0)]) ⟨Or.inr rfl, Or.inl rfl, Or.inr rfl, Or.inr rfl, Or.inr rfl, Or.inl rfl, Or.inr rfl, trivial⟩ ?_
          exact e_X12_step_73 d h
        · refine x_icmp_ne (tgt := 72) dX12_step_65 rfl b14 (?_ : Ex _ _ 72 _ _ _ _ _)
          refine x_iconst dX12_step_72 rfl (by decide) (?_ : Ex _ _ 73 _ _ _ _ _)
          refine Ex.wk (ls2 := [(22, l0), (3, 0), (0, l2), (0, l3), (0, l4), (3, 0), (0, s0)]) ⟨Or.inr rfl, Or.inl rfl, Or.inr rfl, Or.inr rfl, Or.inr rfl, Or.inl rfl, Or.inr rfl, trivial⟩ ?_
          exact e_X12_step_73 d h
theorem e_X12_step_0 (d : Nat) {l0 l1 l2 l3 l4 : Int} {m : Mem} {v : Int} {m' : Mem} (h : X12_step_0 l0 l1 l2 l3 l4 m = some (v, m')) : Ex (d + 3) fm_X12_step 0 [(22, l0), (0, l1), (0, l2), (0, l3), (0, l4), (3, 0), (3, 0)] [] m (.inl (0, v)) m' := by
  unfold X12_step_0 at h
  refine x_iload_n dX12_step_0 rfl rfl (?_ : Ex _ _ 1 _ _ _ _ _)
  obtain ⟨v1, m2, g3, h⟩ := cal_some h
  refine cS1 (e_X12_isType (d + 1) g3) (contN (by decide) (?_ : Ex _ _ 4 _ _ _ _ _)) og_X12_isType rfl ml_RX12_188 sm_X12_isType (Nat.le_of_ble_eq_true rfl) dX12_step_1
  refine x_istore (ls2 := [(22, l0), (0, l1), (0, l2), (0, l3), (0, l4), (0, v1), (3, 0)]) dX12_step_4 (Nat.le_of_ble_eq_true rfl) rfl (?_ : Ex _ _ 6 _ _ _ _ _)
  refine x_iload dX12_step_6 rfl (?_ : Ex _ _ 8 _ _ _ _ _)
  rcases ite_some h with ⟨b4, h⟩ | ⟨b4, h⟩
  · refine x_if_eq (tgt := 19) dX12_step_8 rfl b4 (?_ : Ex _ _ 19 _ _ _ _ _)
    refine x_iconst dX12_step_19 rfl (by decide) (?_ : Ex _ _ 20 _ _ _ _ _)
    exact e_X12_step_20 d h
  · refine x_if_eqN dX12_step_8 (by decide) b4 (?_ : Ex _ _ 11 _ _ _ _ _)
    refine x_iload_n dX12_step_11 rfl rfl (?_ : Ex _ _ 12 _ _ _ _ _)
    refine x_iconst dX12_step_12 rfl (by decide) (?_ : Ex _ _ 13 _ _ _ _ _)
    obtain ⟨v5, m6, g7, h⟩ := cal_some h
    refine cS2 (e_X12_rowOf (d + 2) g7) (contN (by decide) (?_ : Ex _ _ 16 _ _ _ _ _)) og_X12_rowOf rfl ml_RX12_191 sm_X12_rowOf (Nat.le_of_ble_eq_true rfl) dX12_step_13
    refine x_goto (tgt := 20) dX12_step_16 rfl (?_ : Ex _ _ 20 _ _ _ _ _)
    exact e_X12_step_20 d h
theorem e_X12_step (d : Nat) {a0 a1 a2 a3 a4 : Int} {m : Mem} {v : Int} {m' : Mem} (h : X12_step a0 a1 a2 a3 a4 m = some (v, m')) : ExM (d + 3) fm_X12_step [(22, a0), (0, a1), (0, a2), (0, a3), (0, a4)] m (.inl (0, v)) m' := by
  exact ExM.of (by decide +kernel) (Nat.le_of_ble_eq_true rfl) (cat9 rfl) retI (e_X12_step_0 d h)
theorem dX12_forget_0 : decode cX12_forget 0 = .ok (.aload_n 0, 1) := by decide +kernel
theorem dX12_forget_1 : decode cX12_forget 1 = .ok (.iload_n 1, 1) := by decide +kernel
theorem dX12_forget_2 : decode cX12_forget 2 = .ok (.invokestatic 188, 3) := by decide +kernel
theorem dX12_forget_5 : decode cX12_forget 5 = .ok (.ifCond .eq 7, 3) := by decide +kernel
theorem dX12_forget_8 : decode cX12_forget 8 = .ok (.iconst 0, 1) := by decide +kernel
theorem dX12_forget_9 : decode cX12_forget 9 = .ok (.goto 4, 3) := by decide +kernel
theorem dX12_forget_12 : decode cX12_forget 12 = .ok (.iconst 1, 1) := by decide +kernel
theorem dX12_forget_13 : decode cX12_forget 13 = .ok (.invokevirtual 198, 3) := by decide +kernel
theorem dX12_forget_16 : decode cX12_forget 16 = .ok (.ifCond .ne 5, 3) := by decide +kernel
theorem dX12_forget_19 : decode cX12_forget 19 = .ok (.iconst 0, 1) := by decide +kernel
theorem dX12_forget_20 : decode cX12_forget 20 = .ok (.ireturn, 1) := by decide +kernel
theorem dX12_forget_21 : decode cX12_forget 21 = .ok (.aload_n 0, 1) := by decide +kernel
theorem dX12_forget_22 : decode cX12_forget 22 = .ok (.getfield 19, 3) := by decide +kernel
theorem dX12_forget_25 : decode cX12_forget 25 = .ok (.iload_n 1, 1) := by decide +kernel
theorem dX12_forget_26 : decode cX12_forget 26 = .ok (.iconst 5, 1) := by decide +kernel
theorem dX12_forget_27 : decode cX12_forget 27 = .ok (.invokestatic 191, 3) := by decide +kernel
theorem dX12_forget_30 : decode cX12_forget 30 = .ok (.iaload, 1) := by decide +kernel
theorem dX12_forget_31 : decode cX12_forget 31 = .ok (.istore_n 2, 1) := by decide +kernel
theorem dX12_forget_32 : decode cX12_forget 32 = .ok (.aload_n 0, 1) := by decide +kernel
theorem dX12_forget_33 : decode cX12_forget 33 = .ok (.getfield 19, 3) := by decide +kernel
theorem dX12_forget_36 : decode cX12_forget 36 = .ok (.iload_n 1, 1) := by decide +kernel
theorem dX12_forget_37 : decode cX12_forget 37 = .ok (.iconst 5, 1) := by decide +kernel
theorem dX12_forget_38 : decode cX12_forget 38 = .ok (.invokestatic 191, 3) := by decide +kernel
theorem dX12_forget_41 : decode cX12_forget 41 = .ok (.iconst 0, 1) := by decide +kernel
theorem dX12_forget_42 : decode cX12_forget 42 = .ok (.iastore, 1) := by decide +kernel
theorem dX12_forget_43 : decode cX12_forget 43 = .ok (.iload_n 2, 1) := by decide +kernel
theorem dX12_forget_44 : decode cX12_forget 44 = .ok (.ireturn, 1) := by decide +kernel
theorem e_X12_forget_13 (d : Nat) {l0 l1 s0 s1 : Int} {m : Mem} {v : Int} {m' : Mem} (h : X12_forget_13 l0 l1 s0 s1 m = some (v, m')) : Ex (d + 2) fm_X12_forget 13 [(22, l0), (0, l1), (3, 0)] [(0, s0), (22, s1)] m (.inl (0, v)) m' := by
  unfold X12_forget_13 at h
  obtain ⟨c1, h⟩ := chk_some h
  obtain ⟨v2, m3, g4, h⟩ := cal_some h
  refine cV1 (e_X12_isFine (d + 1) g4) (contN (by decide) (?_ : Ex _ _ 16 _ _ _ _ _)) og_X12_isFine rfl ml_RX12_198 12 rfl rfl c1 im_X12_isFine se_X12_isFine (Nat.le_of_ble_eq_true rfl) dX12_forget_13
  rcases ite_some h with ⟨b5, h⟩ | ⟨b5, h⟩
  · refine x_if_neN dX12_forget_16 (by decide) (fun hh => hh b5) (?_ : Ex _ _ 19 _ _ _ _ _)
    refine x_iconst dX12_forget_19 rfl (by decide) (?_ : Ex _ _ 20 _ _ _ _ _)
    cases h
    exact x_ret dX12_forget_20 (by decide : (0 : Int) ≠ 3)
  · refine x_if_ne (tgt := 21) dX12_forget_16 rfl b5 (?_ : Ex _ _ 21 _ _ _ _ _)
    refine x_aload_n dX12_forget_21 rfl rfl (Or.inr (by decide)) (?_ : Ex _ _ 22 _ _ _ _ _)
    obtain ⟨c6, h⟩ := chk_some h
    refine gt_12_5 c6 fl_RX12_19 dX12_forget_22 (?_ : Ex _ _ 25 _ _ _ _ _)
    refine x_iload_n dX12_forget_25 rfl rfl (?_ : Ex _ _ 26 _ _ _ _ _)
    refine x_iconst dX12_forget_26 rfl (by decide) (?_ : Ex _ _ 27 _ _ _ _ _)
    obtain ⟨v7, m8, g9, h⟩ := cal_some h
    refine cS2 (e_X12_rowOf (d + 1) g9) (contN (by decide) (?_ : Ex _ _ 30 _ _ _ _ _)) og_X12_rowOf rfl ml_RX12_191 sm_X12_rowOf (Nat.le_of_ble_eq_true rfl) dX12_forget_27
    obtain ⟨⟨c10, c11, c12⟩, h⟩ := chk_some h
    refine ld_i_15 c10 c11 c12 dX12_forget_30 (?_ : Ex _ _ 31 _ _ _ _ _)
    refine x_istore_n (ls2 := [(22, l0), (0, l1), (0, m8 (m3 l0 5) v7)]) dX12_forget_31 rfl (Nat.le_of_ble_eq_true rfl) rfl (?_ : Ex _ _ 32 _ _ _ _ _)
    refine x_aload_n dX12_forget_32 rfl rfl (Or.inr (by decide)) (?_ : Ex _ _ 33 _ _ _ _ _)
    refine gt_12_5 c6 fl_RX12_19 dX12_forget_33 (?_ : Ex _ _ 36 _ _ _ _ _)
    refine x_iload_n dX12_forget_36 rfl rfl (?_ : Ex _ _ 37 _ _ _ _ _)
    refine x_iconst dX12_forget_37 rfl (by decide) (?_ : Ex _ _ 38 _ _ _ _ _)
    obtain ⟨v13, m14, g15, h⟩ := cal_some h
    refine cS2 (e_X12_rowOf (d + 1) g15) (contN (by decide) (?_ : Ex _ _ 41 _ _ _ _ _)) og_X12_rowOf rfl ml_RX12_191 sm_X12_rowOf (Nat.le_of_ble_eq_true rfl) dX12_forget_38
    refine x_iconst dX12_forget_41 rfl (by decide) (?_ : Ex _ _ 42 _ _ _ _ _)
    obtain ⟨⟨c16, c17, c18⟩, h⟩ := chk_some h
    obtain ⟨m19, hm19, h⟩ := st_some h
    refine sd_i_15 c16 c17 c18 dX12_forget_42 (?_ : Ex _ _ 43 _ _ _ _ _)
    rw [← hm19]
    refine x_iload_n dX12_forget_43 rfl rfl (?_ : Ex _ _ 44 _ _ _ _ _)
    cases h
    exact x_ret dX12_forget_44 (by decide : (0 : Int) ≠ 3)
theorem e_X12_forget_0 (d : Nat) {l0 l1 : Int} {m : Mem} {v : Int} {m' : Mem} (h : X12_forget_0 l0 l1 m = some (v, m')) : Ex (d + 2) fm_X12_forget 0 [(22, l0), (0, l1), (3, 0)] [] m (.inl (0, v)) m' := by
  unfold X12_forget_0 at h
  refine x_aload_n dX12_forget_0 rfl rfl (Or.inr (by decide)) (?_ : Ex _ _ 1 _ _ _ _ _)
  refine x_iload_n dX12_forget_1 rfl rfl (?_ : Ex _ _ 2 _ _ _ _ _)
  obtain ⟨v1, m2, g3, h⟩ := cal_some h
  refine cS1 (e_X12_isType d g3) (contN (by decide) (?_ : Ex _ _ 5 _ _ _ _ _)) og_X12_isType rfl ml_RX12_188 sm_X12_isType (Nat.le_of_ble_eq_true rfl) dX12_forget_2
  rcases ite_some h with ⟨b4, h⟩ | ⟨b4, h⟩
  · refine x_if_eq (tgt := 12) dX12_forget_5 rfl b4 (?_ : Ex _ _ 12 _ _ _ _ _)
    refine x_iconst dX12_forget_12 rfl (by decide) (?_ : Ex _ _ 13 _ _ _ _ _)
    exact e_X12_forget_13 d h
  · refine x_if_eqN dX12_forget_5 (by decide) b4 (?_ : Ex _ _ 8 _ _ _ _ _)
    refine x_iconst dX12_forget_8 rfl (by decide) (?_ : Ex _ _ 9 _ _ _ _ _)
    refine x_goto (tgt := 13) dX12_forget_9 rfl (?_ : Ex _ _ 13 _ _ _ _ _)
    exact e_X12_forget_13 d h
theorem e_X12_forget (d : Nat) {a0 a1 : Int} {m : Mem} {v : Int} {m' : Mem} (h : X12_forget a0 a1 m = some (v, m')) : ExM (d + 2) fm_X12_forget [(22, a0), (0, a1)] m (.inl (0, v)) m' := by
  exact ExM.of (by decide +kernel) (Nat.le_of_ble_eq_true rfl) (cat9 rfl) retI (e_X12_forget_0 d h)
theorem dX12_leads_0 : decode cX12_leads 0 = .ok (.bipush 12, 2) := by decide +kernel
theorem dX12_leads_2 : decode cX12_leads 2 = .ok (.iload_n 1, 1) := by decide +kernel
theorem dX12_leads_3 : decode cX12_leads 3 = .ok (.imul, 1) := by decide +kernel
theorem dX12_leads_4 : decode cX12_leads 4 = .ok (.iload_n 2, 1) := by decide +kernel
theorem dX12_leads_5 : decode cX12_leads 5 = .ok (.iadd, 1) := by decide +kernel
theorem dX12_leads_6 : decode cX12_leads 6 = .ok (.istore_n 3, 1) := by decide +kernel
theorem dX12_leads_7 : decode cX12_leads 7 = .ok (.aload_n 0, 1) := by decide +kernel
theorem dX12_leads_8 : decode cX12_leads 8 = .ok (.getfield 7, 3) := by decide +kernel
theorem dX12_leads_11 : decode cX12_leads 11 = .ok (.iload_n 3, 1) := by decide +kernel
theorem dX12_leads_12 : decode cX12_leads 12 = .ok (.iaload, 1) := by decide +kernel
theorem dX12_leads_13 : decode cX12_leads 13 = .ok (.bipush 6, 2) := by decide +kernel
theorem dX12_leads_15 : decode cX12_leads 15 = .ok (.if_icmp .ne 14, 3) := by decide +kernel
theorem dX12_leads_18 : decode cX12_leads 18 = .ok (.iload_n 2, 1) := by decide +kernel
theorem dX12_leads_19 : decode cX12_leads 19 = .ok (.aload_n 0, 1) := by decide +kernel
theorem dX12_leads_20 : decode cX12_leads 20 = .ok (.getfield 16, 3) := by decide +kernel
theorem dX12_leads_23 : decode cX12_leads 23 = .ok (.iload_n 3, 1) := by decide +kernel
theorem dX12_leads_24 : decode cX12_leads 24 = .ok (.iaload, 1) := by decide +kernel
theorem dX12_leads_25 : decode cX12_leads 25 = .ok (.isub, 1) := by decide +kernel
theorem dX12_leads_26 : decode cX12_leads 26 = .ok (.ifCond .lt 7, 3) := by decide +kernel
theorem dX12_leads_29 : decode cX12_leads 29 = .ok (.iconst 1, 1) := by decide +kernel
theorem dX12_leads_30 : decode cX12_leads 30 = .ok (.goto 4, 3) := by decide +kernel
theorem dX12_leads_33 : decode cX12_leads 33 = .ok (.iconst 0, 1) := by decide +kernel
theorem dX12_leads_34 : decode cX12_leads 34 = .ok (.istore 4, 2) := by decide +kernel
theorem dX12_leads_36 : decode cX12_leads 36 = .ok (.iload 4, 2) := by decide +kernel
theorem dX12_leads_38 : decode cX12_leads 38 = .ok (.ifCond .eq 47, 3) := by decide +kernel
theorem dX12_leads_41 : decode cX12_leads 41 = .ok (.aload_n 0, 1) := by decide +kernel
theorem dX12_leads_42 : decode cX12_leads 42 = .ok (.getfield 7, 3) := by decide +kernel
theorem dX12_leads_45 : decode cX12_leads 45 = .ok (.iload_n 3, 1) := by decide +kernel
theorem dX12_leads_46 : decode cX12_leads 46 = .ok (.iaload, 1) := by decide +kernel
theorem dX12_leads_47 : decode cX12_leads 47 = .ok (.iconst 5, 1) := by decide +kernel
theorem dX12_leads_48 : decode cX12_leads 48 = .ok (.if_icmp .eq 14, 3) := by decide +kernel
theorem dX12_leads_51 : decode cX12_leads 51 = .ok (.aload_n 0, 1) := by decide +kernel
theorem dX12_leads_52 : decode cX12_leads 52 = .ok (.getfield 7, 3) := by decide +kernel
theorem dX12_leads_55 : decode cX12_leads 55 = .ok (.iload_n 3, 1) := by decide +kernel
theorem dX12_leads_56 : decode cX12_leads 56 = .ok (.iaload, 1) := by decide +kernel
theorem dX12_leads_57 : decode cX12_leads 57 = .ok (.bipush 10, 2) := by decide +kernel
theorem dX12_leads_59 : decode cX12_leads 59 = .ok (.if_icmp .ne 22, 3) := by decide +kernel
theorem dX12_leads_62 : decode cX12_leads 62 = .ok (.iload_n 2, 1) := by decide +kernel
theorem dX12_leads_63 : decode cX12_leads 63 = .ok (.iconst 1, 1) := by decide +kernel
theorem dX12_leads_64 : decode cX12_leads 64 = .ok (.iadd, 1) := by decide +kernel
theorem dX12_leads_65 : decode cX12_leads 65 = .ok (.aload_n 0, 1) := by decide +kernel
theorem dX12_leads_66 : decode cX12_leads 66 = .ok (.getfield 16, 3) := by decide +kernel
theorem dX12_leads_69 : decode cX12_leads 69 = .ok (.iload_n 3, 1) := by decide +kernel
theorem dX12_leads_70 : decode cX12_leads 70 = .ok (.iaload, 1) := by decide +kernel
theorem dX12_leads_71 : decode cX12_leads 71 = .ok (.iadd, 1) := by decide +kernel
theorem dX12_leads_72 : decode cX12_leads 72 = .ok (.aload_n 0, 1) := by decide +kernel
theorem dX12_leads_73 : decode cX12_leads 73 = .ok (.getfield 19, 3) := by decide +kernel
theorem dX12_leads_76 : decode cX12_leads 76 = .ok (.iload_n 1, 1) := by decide +kernel
theorem dX12_leads_77 : decode cX12_leads 77 = .ok (.iaload, 1) := by decide +kernel
theorem dX12_leads_78 : decode cX12_leads 78 = .ok (.if_icmp .gt 7, 3) := by decide +kernel
theorem dX12_leads_81 : decode cX12_leads 81 = .ok (.iconst 1, 1) := by decide +kernel
theorem dX12_leads_82 : decode cX12_leads 82 = .ok (.goto 4, 3) := by decide +kernel
theorem dX12_leads_85 : decode cX12_leads 85 = .ok (.iconst 0, 1) := by decide +kernel
theorem dX12_leads_86 : decode cX12_leads 86 = .ok (.istore 4, 2) := by decide +kernel
theorem dX12_leads_88 : decode cX12_leads 88 = .ok (.iconst 1, 1) := by decide +kernel
theorem dX12_leads_89 : decode cX12_leads 89 = .ok (.istore 5, 2) := by decide +kernel
theorem dX12_leads_91 : decode cX12_leads 91 = .ok (.aload_n 0, 1) := by decide +kernel
theorem dX12_leads_92 : decode cX12_leads 92 = .ok (.getfield 7, 3) := by decide +kernel
theorem dX12_leads_95 : decode cX12_leads 95 = .ok (.iload_n 3, 1) := by decide +kernel
theorem dX12_leads_96 : decode cX12_leads 96 = .ok (.iaload, 1) := by decide +kernel
theorem dX12_leads_97 : decode cX12_leads 97 = .ok (.iconst 4, 1) := by decide +kernel
theorem dX12_leads_98 : decode cX12_leads 98 = .ok (.if_icmp .ne 58, 3) := by decide +kernel
theorem dX12_leads_101 : decode cX12_leads 101 = .ok (.iload 5, 2) := by decide +kernel
theorem dX12_leads_103 : decode cX12_leads 103 = .ok (.aload_n 0, 1) := by decide +kernel
theorem dX12_leads_104 : decode cX12_leads 104 = .ok (.getfield 13, 3) := by decide +kernel
theorem dX12_leads_107 : decode cX12_leads 107 = .ok (.iload_n 3, 1) := by decide +kernel
theorem dX12_leads_108 : decode cX12_leads 108 = .ok (.iaload, 1) := by decide +kernel
theorem dX12_leads_109 : decode cX12_leads 109 = .ok (.if_icmp .gt 47, 3) := by decide +kernel
theorem dX12_leads_112 : decode cX12_leads 112 = .ok (.iload 4, 2) := by decide +kernel
theorem dX12_leads_114 : decode cX12_leads 114 = .ok (.ifCond .eq 42, 3) := by decide +kernel
theorem dX12_leads_117 : decode cX12_leads 117 = .ok (.iload_n 2, 1) := by decide +kernel
theorem dX12_leads_118 : decode cX12_leads 118 = .ok (.iload 5, 2) := by decide +kernel
theorem dX12_leads_120 : decode cX12_leads 120 = .ok (.iadd, 1) := by decide +kernel
theorem dX12_leads_121 : decode cX12_leads 121 = .ok (.aload_n 0, 1) := by decide +kernel
theorem dX12_leads_122 : decode cX12_leads 122 = .ok (.getfield 19, 3) := by decide +kernel
theorem dX12_leads_125 : decode cX12_leads 125 = .ok (.iload_n 1, 1) := by decide +kernel
theorem dX12_leads_126 : decode cX12_leads 126 = .ok (.iaload, 1) := by decide +kernel
theorem dX12_leads_127 : decode cX12_leads 127 = .ok (.if_icmp .ge 20, 3) := by decide +kernel
theorem dX12_leads_130 : decode cX12_leads 130 = .ok (.aload_n 0, 1) := by decide +kernel
theorem dX12_leads_131 : decode cX12_leads 131 = .ok (.getfield 7, 3) := by decide +kernel
theorem dX12_leads_134 : decode cX12_leads 134 = .ok (.iload_n 3, 1) := by decide +kernel
theorem dX12_leads_135 : decode cX12_leads 135 = .ok (.iload 5, 2) := by decide +kernel
theorem dX12_leads_137 : decode cX12_leads 137 = .ok (.iadd, 1) := by decide +kernel
theorem dX12_leads_138 : decode cX12_leads 138 = .ok (.iaload, 1) := by decide +kernel
theorem dX12_leads_139 : decode cX12_leads 139 = .ok (.iconst 3, 1) := by decide +kernel
theorem dX12_leads_140 : decode cX12_leads 140 = .ok (.if_icmp .gt 7, 3) := by decide +kernel
theorem dX12_leads_143 : decode cX12_leads 143 = .ok (.iconst 1, 1) := by decide +kernel
theorem dX12_leads_144 : decode cX12_leads 144 = .ok (.goto 4, 3) := by decide +kernel
theorem dX12_leads_147 : decode cX12_leads 147 = .ok (.iconst 0, 1) := by decide +kernel
theorem dX12_leads_148 : decode cX12_leads 148 = .ok (.istore 4, 2) := by decide +kernel
theorem dX12_leads_150 : decode cX12_leads 150 = .ok (.iinc 5 1, 3) := by decide +kernel
theorem dX12_leads_153 : decode cX12_leads 153 = .ok (.goto (-62), 3) := by decide +kernel
theorem dX12_leads_156 : decode cX12_leads 156 = .ok (.iload 4, 2) := by decide +kernel
theorem dX12_leads_158 : decode cX12_leads 158 = .ok (.ireturn, 1) := by decide +kernel
theorem e_X12_leads_91 (d : Nat) : ∀ (n : Nat) {l0 l1 l2 l3 l4 l5 : Int} {m : Mem} {v : Int} {m' : Mem}, X12_leads_91 n l0 l1 l2 l3 l4 l5 m = some (v, m') → Ex d fm_X12_leads 91 [(22, l0), (0, l1), (0, l2), (0, l3), (0, l4), (0, l5)] [] m (.inl (0, v)) m' := by
  intro n
  induction n with
  | zero =>
    intro l0 l1 l2 l3 l4 l5 m v m' h
    have h : (none : Option R2) = some _ := h
    cases h
  | succ n ih =>
    intro l0 l1 l2 l3 l4 l5 m v m' h
    rw [X12_leads_91] at h
    refine x_aload_n dX12_leads_91 rfl rfl (Or.inr (by decide)) (?_ : Ex _ _ 92 _ _ _ _ _)
    obtain ⟨c1, h⟩ := chk_some h
    refine gt_12_2 c1 fl_RX12_7 dX12_leads_92 (?_ : Ex _ _ 95 _ _ _ _ _)
    refine x_iload_n dX12_leads_95 rfl rfl (?_ : Ex _ _ 96 _ _ _ _ _)
    obtain ⟨⟨c2, c3, c4⟩, h⟩ := chk_some h
    refine ld_i_180 c2 c3 c4 dX12_leads_96 (?_ : Ex _ _ 97 _ _ _ _ _)
    refine x_iconst dX12_leads_97 rfl (by decide) (?_ : Ex _ _ 98 _ _ _ _ _)
    rcases ite_some h with ⟨b5, h⟩ | ⟨b5, h⟩
    · refine x_icmp_neN dX12_leads_98 (by decide) (fun hh => hh b5) (?_ : Ex _ _ 101 _ _ _ _ _)
      refine x_iload dX12_leads_101 rfl (?_ : Ex _ _ 103 _ _ _ _ _)
      refine x_aload_n dX12_leads_103 rfl rfl (Or.inr (by decide)) (?_ : Ex _ _ 104 _ _ _ _ _)
      refine gt_12_3 c1 fl_RX12_13 dX12_leads_104 (?_ : Ex _ _ 107 _ _ _ _ _)
      refine x_iload_n dX12_leads_107 rfl rfl (?_ : Ex _ _ 108 _ _ _ _ _)
      obtain ⟨⟨c6, c7, c8⟩, h⟩ := chk_some h
      refine ld_i_180 c6 c7 c8 dX12_leads_108 (?_ : Ex _ _ 109 _ _ _ _ _)
      rcases ite_some h with ⟨b9, h⟩ | ⟨b9, h⟩
      · refine x_icmp_gt (tgt := 156) dX12_leads_109 rfl b9 (?_ : Ex _ _ 156 _ _ _ _ _)
        refine x_iload dX12_leads_156 rfl (?_ : Ex _ _ 158 _ _ _ _ _)
        cases h
        exact x_ret dX12_leads_158 (by decide : (0 : Int) ≠ 3)
      · refine x_icmp_gtN dX12_leads_109 (by decide) b9 (?_ : Ex _ _ 112 _ _ _ _ _)
        refine x_iload dX12_leads_112 rfl (?_ : Ex _ _ 114 _ _ _ _ _)
        rcases ite_some h with ⟨b10, h⟩ | ⟨b10, h⟩
        · refine x_if_eq (tgt := 156) dX12_leads_114 rfl b10 (?_ : Ex _ _ 156 _ _ _ _ _)
          refine x_iload dX12_leads_156 rfl (?_ : Ex _ _ 158 _ _ _ _ _)
          cases h
          exact x_ret dX12_leads_158 (by decide : (0 : Int) ≠ 3)
        · refine x_if_eqN dX12_leads_114 (by decide) b10 (?_ : Ex _ _ 117 _ _ _ _ _)
          refine x_iload_n dX12_leads_117 rfl rfl (?_ : Ex _ _ 118 _ _ _ _ _)
          refine x_iload dX12_leads_118 rfl (?_ : Ex _ _ 120 _ _ _ _ _)
          obtain ⟨c11, h⟩ := chk_some h
          refine x_iadd dX12_leads_120 c11 (?_ : Ex _ _ 121 _ _ _ _ _)
          refine x_aload_n dX12_leads_121 rfl rfl (Or.inr (by decide)) (?_ : Ex _ _ 122 _ _ _ _ _)
          refine gt_12_5 c1 fl_RX12_19 dX12_leads_122 (?_ : Ex _ _ 125 _ _ _ _ _)
          refine x_iload_n dX12_leads_125 rfl rfl (?_ : Ex _ _ 126 _ _ _ _ _)
          obtain ⟨⟨c12, c13, c14⟩, h⟩ := chk_some h
          refine ld_i_15 c12 c13 c14 dX12_leads_126 (?_ : Ex _ _ 127 _ _ _ _ _)
          rcases ite_some h with ⟨b15, h⟩ | ⟨b15, h⟩
          · refine x_icmp_ge (tgt := 147) dX12_leads_127 rfl b15 (?_ : Ex _ _ 147 _ _ _ _ _)
            refine x_iconst dX12_leads_147 rfl (by decide) (?_ : Ex _ _ 148 _ _ _ _ _)
            refine x_istore (ls2 := [(22, l0), (0, l1), (0, l2), (0, l3), (0, 0), (0, l5)]) dX12_leads_148 (Nat.le_of_ble_eq_true rfl) rfl (?_ : Ex _ _ 150 _ _ _ _ _)
            obtain ⟨c16, h⟩ := chk_some h
            refine x_iinc (ls2 := [(22, l0), (0, l1), (0, l2), (0, l3), (0, 0), (0, (l5 + 1))]) dX12_leads_150 rfl c16 rfl (?_ : Ex _ _ 153 _ _ _ _ _)
            refine x_goto (tgt := 91) dX12_leads_153 rfl (?_ : Ex _ _ 91 _ _ _ _ _)
            exact ih h
          · refine x_icmp_geN dX12_leads_127 (by decide) b15 (?_ : Ex _ _ 130 _ _ _ _ _)
            refine x_aload_n dX12_leads_130 rfl rfl (Or.inr (by decide)) (?_ : Ex _ _ 131 _ _ _ _ _)
            refine gt_12_2 c1 fl_RX12_7 dX12_leads_131 (?_ : Ex _ _ 134 _ _ _ _ _)
            refine x_iload_n dX12_leads_134 rfl rfl (?_ : Ex _ _ 135 _ _ _ _ _)
            refine x_iload dX12_leads_135 rfl (?_ : Ex _ _ 137 _ _ _ _ _)
            obtain ⟨c17, h⟩ := chk_some h
            refine x_iadd dX12_leads_137 c17 (?_ : Ex _ _ 138 _ _ _ _ _)
            obtain ⟨⟨c18, c19⟩, h⟩ := chk_some h
            refine ld_i_180 c2 c18 c19 dX12_leads_138 (?_ : Ex _ _ 139 _ _ _ _ _)
            refine x_iconst dX12_leads_139 rfl (by decide) (?_ : Ex _ _ 140 _ _ _ _ _)
            rcases ite_some h with ⟨b20, h⟩ | ⟨b20, h⟩
            · refine x_icmp_gt (tgt := 147) dX12_leads_140 rfl b20 (?_ : Ex _ _ 147 _ _ _ _ _)
              refine x_iconst dX12_leads_147 rfl (by decide) (?_ : Ex _ _ 148 _ _ _ _ _)
              refine x_istore (ls2 := [(22, l0), (0, l1), (0, l2), (0, l3), (0, 0), (0, l5)]) dX12_leads_148 (Nat.le_of_ble_eq_true rfl) rfl (?_ : Ex _ _ 150 _ _ _ _ _)
              obtain ⟨c21, h⟩ := chk_some h
              refine x_iinc (ls2 := [(22, l0), (0, l1), (0, l2), (0, l3), (0, 0), (0, (l5 + 1))]) dX12_leads_150 rfl c21 rfl (?_ : Ex _ _ 153 _ _ _ _ _)
              refine x_goto (tgt := 91) dX12_leads_153 rfl (?_ : Ex _ _ 91 _ _ _ _ _)
              exact ih h
            · refine x_icmp_gtN dX12_leads_140 (by decide) b20 (?_ : Ex _ _ 143 _ _ _ _ _)
              refine x_iconst dX12_leads_143 rfl (by decide) (?_ : Ex _ _ 144 _ _ _ _ _)
              refine x_goto (tgt := 148) dX12_leads_144 rfl (?_ : Ex _ _ 148 _ _ _ _ _)
              refine x_istore (ls2 := [(22, l0), (0, l1), (0, l2), (0, l3), (0, 1), (0, l5)]) dX12_leads_148 (Nat.le_of_ble_eq_true rfl) rfl (?_ : Ex _ _ 150 _ _ _ _ _)
              obtain ⟨c22, h⟩ := chk_some h
              refine x_iinc (ls2 := [(22, l0), (0, l1), (0, l2), (0, l3), (0, 1), (0, (l5 + 1))]) dX12_leads_150 rfl c22 rfl (?_ : Ex _ _ 153 _ _ _ _ _)
              refine x_goto (tgt := 91) dX12_leads_153 rfl (?_ : Ex _ _ 91 _ _ _ _ _)
              exact ih h
    · refine x_icmp_ne (tgt := 156) dX12_leads_98 rfl b5 (?_ : Ex _ _ 156 _ _ _ _ _)
      refine x_iload dX12_leads_156 rfl (?_ : Ex _ _ 158 _ _ _ _ _)
      cases h
      exact x_ret dX12_leads_158 (by decide : (0 : Int) ≠ 3)
theorem e_X12_leads_62 (d : Nat) {l0 l1 l2 l3 : Int} {m : Mem} {v : Int} {m' : Mem} (h : X12_leads_62 l0 l1 l2 l3 m = some (v, m')) : Ex d fm_X12_leads 62 [(22, l0), (0, l1), (0, l2), (0, l3), (3, 0), (3, 0)] [] m (.inl (0, v)) m' := by
  unfold X12_leads_62 at h
  refine x_iload_n dX12_leads_62 rfl rfl (?_ : Ex _ _ 63 _ _ _ _ _)
  refine x_iconst dX12_leads_63 rfl (by decide) (?_ : Ex _ _ 64 _ _ _ _ _)
  obtain ⟨c1, h⟩ := chk_some h
  refine x_iadd dX12_leads_64 c1 (?_ : Ex _ _ 65 _ _ _ _ _)
  refine x_aload_n dX12_leads_65 rfl rfl (Or.inr (by decide)) (?_ : Ex _ _ 66 _ _ _ _ _)
  obtain ⟨c2, h⟩ := chk_some h
  refine gt_12_4 c2 fl_RX12_16 dX12_leads_66 (?_ : Ex _ _ 69 _ _ _ _ _)
  refine x_iload_n dX12_leads_69 rfl rfl (?_ : Ex _ _ 70 _ _ _ _ _)
  obtain ⟨⟨c3, c4, c5⟩, h⟩ := chk_some h
  refine ld_i_180 c3 c4 c5 dX12_leads_70 (?_ : Ex _ _ 71 _ _ _ _ _)
  obtain ⟨c6, h⟩ := chk_some h
  refine x_iadd dX12_leads_71 c6 (?_ : Ex _ _ 72 _ _ _ _ _)
  refine x_aload_n dX12_leads_72 rfl rfl (Or.inr (by decide)) (?_ : Ex _ _ 73 _ _ _ _ _)
  refine gt_12_5 c2 fl_RX12_19 dX12_leads_73 (?_ : Ex _ _ 76 _ _ _ _ _)
  refine x_iload_n dX12_leads_76 rfl rfl (?_ : Ex _ _ 77 _ _ _ _ _)
  obtain ⟨⟨c7, c8, c9⟩, h⟩ := chk_some h
  refine ld_i_15 c7 c8 c9 dX12_leads_77 (?_ : Ex _ _ 78 _ _ _ _ _)
  rcases ite_some h with ⟨b10, h⟩ | ⟨b10, h⟩
  · refine x_icmp_gt (tgt := 85) dX12_leads_78 rfl b10 (?_ : Ex _ _ 85 _ _ _ _ _)
    refine x_iconst dX12_leads_85 rfl (by decide) (?_ : Ex _ _ 86 _ _ _ _ _)
    refine x_istore (ls2 := [(22, l0), (0, l1), (0, l2), (0, l3), (0, 0), (3, 0)]) dX12_leads_86 (Nat.le_of_ble_eq_true rfl) rfl (?_ : Ex _ _ 88 _ _ _ _ _)
    refine x_iconst dX12_leads_88 rfl (by decide) (?_ : Ex _ _ 89 _ _ _ _ _)
    refine x_istore (ls2 := [(22, l0), (0, l1), (0, l2), (0, l3), (0, 0), (0, 1)]) dX12_leads_89 (Nat.le_of_ble_eq_true rfl) rfl (?_ : Ex _ _ 91 _ _ _ _ _)
    exact e_X12_leads_91 d fuel9 h
  · refine x_icmp_gtN dX12_leads_78 (by decide) b10 (?_ : Ex _ _ 81 _ _ _ _ _)
    refine x_iconst dX12_leads_81 rfl (by decide) (?_ : Ex _ _ 82 _ _ _ _ _)
    refine x_goto (tgt := 86) dX12_leads_82 rfl (?_ : Ex _ _ 86 _ _ _ _ _)
    refine x_istore (ls2 := [(22, l0), (0, l1), (0, l2), (0, l3), (0, 1), (3, 0)]) dX12_leads_86 (Nat.le_of_ble_eq_true rfl) rfl (?_ : Ex _ _ 88 _ _ _ _ _)
    refine x_iconst dX12_leads_88 rfl (by decide) (?_ : Ex _ _ 89 _ _ _ _ _)
    refine x_istore (ls2 := [(22, l0), (0, l1), (0, l2), (0, l3), (0, 1), (0, 1)]) dX12_leads_89 (Nat.le_of_ble_eq_true rfl) rfl (?_ : Ex _ _ 91 _ _ _ _ _)
    exact e_X12_leads_91 d fuel9 h
theorem e_X12_leads_34 (d : Nat) {l0 l1 l2 l3 s0 : Int} {m : Mem} {v : Int} {m' : Mem} (h : X12_leads_34 l0 l1 l2 l3 s0 m = some (v, m')) : Ex d fm_X12_leads 34 [(22, l0), (0, l1), (0, l2), (0, l3), (3, 0), (3, 0)] [(0, s0)] m (.inl (0, v)) m' := by
  unfold X12_leads_34 at h
  refine x_istore (ls2 := [(22, l0), (0, l1), (0, l2), (0, l3), (0, s0), (3, 0)]) dX12_leads_34 (Nat.le_of_ble_eq_true rfl) rfl (?_ : Ex _ _ 36 _ _ _ _ _)
  refine x_iload dX12_leads_36 rfl (?_ : Ex _ _ 38 _ _ _ _ _)
  rcases ite_some h with ⟨b1, h⟩ | ⟨b1, h⟩
  · refine x_if_eq (tgt := 85) dX12_leads_38 rfl b1 (?_ : Ex _ _ 85 _ _ _ _ _)
    refine x_iconst dX12_leads_85 rfl (by decide) (?_ : Ex _ _ 86 _ _ _ _ _)
    refine x_istore (ls2 := [(22, l0), (0, l1), (0, l2), (0, l3), (0, 0), (3, 0)]) dX12_leads_86 (Nat.le_of_ble_eq_true rfl) rfl (?_ : Ex _ _ 88 _ _ _ _ _)
    refine x_iconst dX12_leads_88 rfl (by decide) (?_ : Ex _ _ 89 _ _ _ _ _)
    refine x_istore (ls2 := [(22, l0), (0, l1), (0, l2), (0, l3), (0, 0), (0, 1)]) dX12_leads_89 (Nat.le_of_ble_eq_true rfl) rfl (?_ : Ex _ _ 91 _ _ _ _ _)
    exact e_X12_leads_91 d fuel9 h
  · refine x_if_eqN dX12_leads_38 (by decide) b1 (?_ : Ex _ _ 41 _ _ _ _ _)
    refine x_aload_n dX12_leads_41 rfl rfl (Or.inr (by decide)) (?_ : Ex _ _ 42 _ _ _ _ _)
    obtain ⟨c2, h⟩ := chk_some h
    refine gt_12_2 c2 fl_RX12_7 dX12_leads_42 (?_ : Ex _ _ 45 _ _ _ _ _)
    refine x_iload_n dX12_leads_45 rfl rfl (?_ : Ex _ _ 46 _ _ _ _ _)
    obtain ⟨⟨c3, c4, c5⟩, h⟩ := chk_some h
    refine ld_i_180 c3 c4 c5 dX12_leads_46 (?_ : Ex _ _ 47 _ _ _ _ _)
    refine x_iconst dX12_leads_47 rfl (by decide) (?_ : Ex _ _ 48 _ _ _ _ _)
    rcases ite_some h with ⟨b6, h⟩ | ⟨b6, h⟩
    · refine x_icmp_eq (tgt := 62) dX12_leads_48 rfl b6 (?_ : Ex _ _ 62 _ _ _ _ _)
      refine Ex.wk (ls2 := [(22, l0), (0, l1), (0, l2), (0, l3), (3, 0), (3, 0)]) ⟨Or.inr rfl, Or.inr rfl, Or.inr rfl, Or.inr rfl, Or.inl rfl, Or.inl rfl, trivial⟩ ?_
      exact e_X12_leads_62 d h
    · refine x_icmp_eqN dX12_leads_48 (by decide) b6 (?_ : Ex _ _ 51 _ _ _ _ _)
      refine x_aload_n dX12_leads_51 rfl rfl (Or.inr (by decide)) (?_ : Ex _ _ 52 _ _ _ _ _)
      refine gt_12_2 c2 fl_RX12_7 dX12_leads_52 (?_ : Ex _ _ 55 _ _ _ _ _)
      refine x_iload_n dX12_leads_55 rfl rfl (?_ : Ex _ _ 56 _ _ _ _ _)
      obtain ⟨⟨c7, c8⟩, h⟩ := chk_some h
      refine ld_i_180 c3 c7 c8 dX12_leads_56 (?_ : Ex _ _ 57 _ _ _ _ _)
      refine x_bipush dX12_leads_57 kb_10 (by decide) (?_ : Ex _ _ 59 _ _ _ _ _)
      rcases ite_some h with ⟨b9, h⟩ | ⟨b9, h⟩
      · refine x_icmp_neN dX12_leads_59 (by decide) (fun hh => hh b9) (?_ : Ex _ _ 62 _ _ _ _ _)
        refine Ex.wk (ls2 := [(22, l0), (0, l1), (0, l2), (0, l3), (3, 0), (3, 0)]) ⟨Or.inr rfl, Or.inr rfl, Or.inr rfl, Or.inr rfl, Or.inl rfl, Or.inl rfl, trivial⟩ ?_
        exact e_X12_leads_62 d h
      · refine x_icmp_ne (tgt := 81) dX12_leads_59 rfl b9 (?_ : Ex _ _ 81 _ _ _ _ _)
        refine x_iconst dX12_leads_81 rfl (by decide) (?_ : Ex _ _ 82 _ _ _ _ _)
        refine x_goto (tgt := 86) dX12_leads_82 rfl (?_ : Ex _ _ 86 _ _ _ _ _)
        refine x_istore (ls2 := [(22, l0), (0, l1), (0, l2), (0, l3), (0, 1), (3, 0)]) dX12_leads_86 (Nat.le_of_ble_eq_true rfl) rfl (?_ : Ex _ _ 88 _ _ _ _ _)
        refine x_iconst dX12_leads_88 rfl (by decide) (?_ : Ex _ _ 89 _ _ _ _ _)
        refine x_istore (ls2 := [(22, l0), (0, l1), (0, l2), (0, l3), (0, 1), (0, 1)]) dX12_leads_89 (Nat.le_of_ble_eq_true rfl) rfl (?_ : Ex _ _ 91 _ _ _ _ _)
        exact e_X12_leads_91 d fuel9 h
theorem e_X12_leads_0 (d : Nat) {l0 l1 l2 : Int} {m : Mem} {v : Int} {m' : Mem} (h : X12_leads_0 l0 l1 l2 m = some (v, m')) : Ex d fm_X12_leads 0 [(22, l0), (0, l1), (0, l2), (3, 0), (3, 0), (3, 0)] [] m (.inl (0, v)) m' := by
  unfold X12_leads_0 at h
  refine x_bipush dX12_leads_0 kb_12 (by decide) (?_ : Ex _ _ 2 _ _ _ _ _)
  refine x_iload_n dX12_leads_2 rfl rfl (?_ : Ex _ _ 3 _ _ _ _ _)
  obtain ⟨c1, h⟩ := chk_some h
  refine x_imul dX12_leads_3 c1 (?_ : Ex _ _ 4 _ _ _ _ _)
  refine x_iload_n dX12_leads_4 rfl rfl (?_ : Ex _ _ 5 _ _ _ _ _)
  obtain ⟨c2, h⟩ := chk_some h
  refine x_iadd dX12_leads_5 c2 (?_ : Ex _ _ 6 _ _ _ _ _)
  refine x_istore_n (ls2 := [(22, l0), (0, l1), (0, l2), (0, ((12 * l1) + l2)), (3, 0), (3, 0)]) dX12_leads_6 rfl (Nat.le_of_ble_eq_true rfl) rfl (?_ : Ex _ _ 7 _ _ _ _ _)
  refine x_aload_n dX12_leads_7 rfl rfl (Or.inr (by decide)) (?_ : Ex _ _ 8 _ _ _ _ _)
  obtain ⟨c3, h⟩ := chk_some h
  refine gt_12_2 c3 fl_RX12_7 dX12_leads_8 (?_ : Ex _ _ 11 _ _ _ _ _)
  refine x_iload_n dX12_leads_11 rfl rfl (?_ : Ex _ _ 12 _ _ _ _ _)
  obtain ⟨⟨c4, c5, c6⟩, h⟩ := chk_some h
  refine ld_i_180 c4 c5 c6 dX12_leads_12 (?_ : Ex _ _ 13 _ _ _ _ _)
  refine x_bipush dX12_leads_13 kb_6 (by decide) (?_ : Ex _ _ 15 _ _ _ _ _)
  rcases ite_some h with ⟨b7, h⟩ | ⟨b7, h⟩
  · refine x_icmp_neN dX12_leads_15 (by decide) (fun hh => hh b7) (?_ : Ex _ _ 18 _ _ _ _ _)
    refine x_iload_n dX12_leads_18 rfl rfl (?_ : Ex _ _ 19 _ _ _ _ _)
    refine x_aload_n dX12_leads_19 rfl rfl (Or.inr (by decide)) (?_ : Ex _ _ 20 _ _ _ _ _)
    refine gt_12_4 c3 fl_RX12_16 dX12_leads_20 (?_ : Ex _ _ 23 _ _ _ _ _)
    refine x_iload_n dX12_leads_23 rfl rfl (?_ : Ex _ _ 24 _ _ _ _ _)
    obtain ⟨⟨c8, c9, c10⟩, h⟩ := chk_some h
    refine ld_i_180 c8 c9 c10 dX12_leads_24 (?_ : Ex _ _ 25 _ _ _ _ _)
    obtain ⟨c11, h⟩ := chk_some h
    refine x_isub dX12_leads_25 c11 (?_ : Ex _ _ 26 _ _ _ _ _)
    rcases ite_some h with ⟨b12, h⟩ | ⟨b12, h⟩
    · refine x_if_lt (tgt := 33) dX12_leads_26 rfl b12 (?_ : Ex _ _ 33 _ _ _ _ _)
      refine x_iconst dX12_leads_33 rfl (by decide) (?_ : Ex _ _ 34 _ _ _ _ _)
      exact e_X12_leads_34 d h
    · refine x_if_ltN dX12_leads_26 (by decide) b12 (?_ : Ex _ _ 29 _ _ _ _ _)
      refine x_iconst dX12_leads_29 rfl (by decide) (?_ : Ex _ _ 30 _ _ _ _ _)
      refine x_goto (tgt := 34) dX12_leads_30 rfl (?_ : Ex _ _ 34 _ _ _ _ _)
      exact e_X12_leads_34 d h
  · refine x_icmp_ne (tgt := 29) dX12_leads_15 rfl b7 (?_ : Ex _ _ 29 _ _ _ _ _)
    refine x_iconst dX12_leads_29 rfl (by decide) (?_ : Ex _ _ 30 _ _ _ _ _)
    refine x_goto (tgt := 34) dX12_leads_30 rfl (?_ : Ex _ _ 34 _ _ _ _ _)
    exact e_X12_leads_34 d h
theorem e_X12_leads (d : Nat) {a0 a1 a2 : Int} {m : Mem} {v : Int} {m' : Mem} (h : X12_leads a0 a1 a2 m = some (v, m')) : ExM d fm_X12_leads [(22, a0), (0, a1), (0, a2)] m (.inl (0, v)) m' := by
  obtain ⟨hb, h⟩ := boolR_some h
  exact ExM.of (by decide +kernel) (Nat.le_of_ble_eq_true rfl) (cat9 rfl) (retZ hb) (e_X12_leads_0 d h)
theorem dX12_release_0 : decode cX12_release 0 = .ok (.iload_n 1, 1) := by decide +kernel
theorem dX12_release_1 : decode cX12_release 1 = .ok (.invokestatic 188, 3) := by decide +kernel
theorem dX12_release_4 : decode cX12_release 4 = .ok (.istore_n 2, 1) := by decide +kernel
theorem dX12_release_5 : decode cX12_release 5 = .ok (.iload_n 2, 1) := by decide +kernel
theorem dX12_release_6 : decode cX12_release 6 = .ok (.ifCond .eq 20, 3) := by decide +kernel
theorem dX12_release_9 : decode cX12_release 9 = .ok (.aload_n 0, 1) := by decide +kernel
theorem dX12_release_10 : decode cX12_release 10 = .ok (.getfield 19, 3) := by decide +kernel
theorem dX12_release_13 : decode cX12_release 13 = .ok (.iload_n 1, 1) := by decide +kernel
theorem dX12_release_14 : decode cX12_release 14 = .ok (.iconst 5, 1) := by decide +kernel
theorem dX12_release_15 : decode cX12_release 15 = .ok (.invokestatic 191, 3) := by decide +kernel
theorem dX12_release_18 : decode cX12_release 18 = .ok (.iaload, 1) := by decide +kernel
theorem dX12_release_19 : decode cX12_release 19 = .ok (.ifCond .le 7, 3) := by decide +kernel
theorem dX12_release_22 : decode cX12_release 22 = .ok (.iconst 1, 1) := by decide +kernel
theorem dX12_release_23 : decode cX12_release 23 = .ok (.goto 4, 3) := by decide +kernel
theorem dX12_release_26 : decode cX12_release 26 = .ok (.iconst 0, 1) := by decide +kernel
theorem dX12_release_27 : decode cX12_release 27 = .ok (.istore_n 3, 1) := by decide +kernel
theorem dX12_release_28 : decode cX12_release 28 = .ok (.iconst 0, 1) := by decide +kernel
theorem dX12_release_29 : decode cX12_release 29 = .ok (.istore 4, 2) := by decide +kernel
theorem dX12_release_31 : decode cX12_release 31 = .ok (.iload_n 3, 1) := by decide +kernel
theorem dX12_release_32 : decode cX12_release 32 = .ok (.ifCond .eq 36, 3) := by decide +kernel
theorem dX12_release_35 : decode cX12_release 35 = .ok (.iload 4, 2) := by decide +kernel
theorem dX12_release_37 : decode cX12_release 37 = .ok (.aload_n 0, 1) := by decide +kernel
theorem dX12_release_38 : decode cX12_release 38 = .ok (.getfield 19, 3) := by decide +kernel
theorem dX12_release_41 : decode cX12_release 41 = .ok (.iload_n 1, 1) := by decide +kernel
theorem dX12_release_42 : decode cX12_release 42 = .ok (.iconst 5, 1) := by decide +kernel
theorem dX12_release_43 : decode cX12_release 43 = .ok (.invokestatic 191, 3) := by decide +kernel
theorem dX12_release_46 : decode cX12_release 46 = .ok (.iaload, 1) := by decide +kernel
theorem dX12_release_47 : decode cX12_release 47 = .ok (.if_icmp .ge 21, 3) := by decide +kernel
theorem dX12_release_50 : decode cX12_release 50 = .ok (.aload_n 0, 1) := by decide +kernel
theorem dX12_release_51 : decode cX12_release 51 = .ok (.iload_n 1, 1) := by decide +kernel
theorem dX12_release_52 : decode cX12_release 52 = .ok (.iconst 5, 1) := by decide +kernel
theorem dX12_release_53 : decode cX12_release 53 = .ok (.invokestatic 191, 3) := by decide +kernel
theorem dX12_release_56 : decode cX12_release 56 = .ok (.iload 4, 2) := by decide +kernel
theorem dX12_release_58 : decode cX12_release 58 = .ok (.invokevirtual 201, 3) := by decide +kernel
theorem dX12_release_61 : decode cX12_release 61 = .ok (.istore_n 3, 1) := by decide +kernel
theorem dX12_release_62 : decode cX12_release 62 = .ok (.iinc 4 1, 3) := by decide +kernel
theorem dX12_release_65 : decode cX12_release 65 = .ok (.goto (-34), 3) := by decide +kernel
theorem dX12_release_68 : decode cX12_release 68 = .ok (.aload_n 0, 1) := by decide +kernel
theorem dX12_release_69 : decode cX12_release 69 = .ok (.iload_n 2, 1) := by decide +kernel
theorem dX12_release_70 : decode cX12_release 70 = .ok (.ifCond .ne 7, 3) := by decide +kernel
theorem dX12_release_73 : decode cX12_release 73 = .ok (.iconst 1, 1) := by decide +kernel
theorem dX12_release_74 : decode cX12_release 74 = .ok (.goto 12, 3) := by decide +kernel
theorem dX12_release_77 : decode cX12_release 77 = .ok (.iload_n 3, 1) := by decide +kernel
theorem dX12_release_78 : decode cX12_release 78 = .ok (.ifCond .ne 7, 3) := by decide +kernel
theorem dX12_release_81 : decode cX12_release 81 = .ok (.iconst 2, 1) := by decide +kernel
theorem dX12_release_82 : decode cX12_release 82 = .ok (.goto 4, 3) := by decide +kernel
theorem dX12_release_85 : decode cX12_release 85 = .ok (.iconst 0, 1) := by decide +kernel
theorem dX12_release_86 : decode cX12_release 86 = .ok (.invokevirtual 198, 3) := by decide +kernel
theorem dX12_release_89 : decode cX12_release 89 = .ok (.ifCond .ne 5, 3) := by decide +kernel
theorem dX12_release_92 : decode cX12_release 92 = .ok (.iconst 0, 1) := by decide +kernel
theorem dX12_release_93 : decode cX12_release 93 = .ok (.ireturn, 1) := by decide +kernel
theorem dX12_release_94 : decode cX12_release 94 = .ok (.aload_n 0, 1) := by decide +kernel
theorem dX12_release_95 : decode cX12_release 95 = .ok (.getfield 22, 3) := by decide +kernel
theorem dX12_release_98 : decode cX12_release 98 = .ok (.iload_n 1, 1) := by decide +kernel
theorem dX12_release_99 : decode cX12_release 99 = .ok (.dup2, 1) := by decide +kernel
theorem dX12_release_100 : decode cX12_release 100 = .ok (.iaload, 1) := by decide +kernel
theorem dX12_release_101 : decode cX12_release 101 = .ok (.iconst 1, 1) := by decide +kernel
theorem dX12_release_102 : decode cX12_release 102 = .ok (.iadd, 1) := by decide +kernel
theorem dX12_release_103 : decode cX12_release 103 = .ok (.iastore, 1) := by decide +kernel
theorem dX12_release_104 : decode cX12_release 104 = .ok (.iload_n 1, 1) := by decide +kernel
theorem dX12_release_105 : decode cX12_release 105 = .ok (.iconst 5, 1) := by decide +kernel
theorem dX12_release_106 : decode cX12_release 106 = .ok (.invokestatic 191, 3) := by decide +kernel
theorem dX12_release_109 : decode cX12_release 109 = .ok (.istore 4, 2) := by decide +kernel
theorem dX12_release_111 : decode cX12_release 111 = .ok (.iload_n 1, 1) := by decide +kernel
theorem dX12_release_112 : decode cX12_release 112 = .ok (.aload_n 0, 1) := by decide +kernel
theorem dX12_release_113 : decode cX12_release 113 = .ok (.getfield 22, 3) := by decide +kernel
theorem dX12_release_116 : decode cX12_release 116 = .ok (.iload_n 1, 1) := by decide +kernel
theorem dX12_release_117 : decode cX12_release 117 = .ok (.iaload, 1) := by decide +kernel
theorem dX12_release_118 : decode cX12_release 118 = .ok (.invokestatic 191, 3) := by decide +kernel
theorem dX12_release_121 : decode cX12_release 121 = .ok (.istore 5, 2) := by decide +kernel
theorem dX12_release_123 : decode cX12_release 123 = .ok (.iconst 0, 1) := by decide +kernel
theorem dX12_release_124 : decode cX12_release 124 = .ok (.istore 6, 2) := by decide +kernel
theorem dX12_release_126 : decode cX12_release 126 = .ok (.iload 6, 2) := by decide +kernel
theorem dX12_release_128 : decode cX12_release 128 = .ok (.bipush 12, 2) := by decide +kernel
theorem dX12_release_130 : decode cX12_release 130 = .ok (.if_icmp .ge 87, 3) := by decide +kernel
theorem dX12_release_133 : decode cX12_release 133 = .ok (.aload_n 0, 1) := by decide +kernel
theorem dX12_release_134 : decode cX12_release 134 = .ok (.getfield 7, 3) := by decide +kernel
theorem dX12_release_137 : decode cX12_release 137 = .ok (.bipush 12, 2) := by decide +kernel
theorem dX12_release_139 : decode cX12_release 139 = .ok (.iload 5, 2) := by decide +kernel
theorem dX12_release_141 : decode cX12_release 141 = .ok (.imul, 1) := by decide +kernel
theorem dX12_release_142 : decode cX12_release 142 = .ok (.iload 6, 2) := by decide +kernel
theorem dX12_release_144 : decode cX12_release 144 = .ok (.iadd, 1) := by decide +kernel
theorem dX12_release_145 : decode cX12_release 145 = .ok (.aload_n 0, 1) := by decide +kernel
theorem dX12_release_146 : decode cX12_release 146 = .ok (.getfield 7, 3) := by decide +kernel
theorem dX12_release_149 : decode cX12_release 149 = .ok (.bipush 12, 2) := by decide +kernel
theorem dX12_release_151 : decode cX12_release 151 = .ok (.iload 4, 2) := by decide +kernel
theorem dX12_release_153 : decode cX12_release 153 = .ok (.imul, 1) := by decide +kernel
theorem dX12_release_154 : decode cX12_release 154 = .ok (.iload 6, 2) := by decide +kernel
theorem dX12_release_156 : decode cX12_release 156 = .ok (.iadd, 1) := by decide +kernel
theorem dX12_release_157 : decode cX12_release 157 = .ok (.iaload, 1) := by decide +kernel
theorem dX12_release_158 : decode cX12_release 158 = .ok (.iastore, 1) := by decide +kernel
theorem dX12_release_159 : decode cX12_release 159 = .ok (.aload_n 0, 1) := by decide +kernel
theorem dX12_release_160 : decode cX12_release 160 = .ok (.getfield 13, 3) := by decide +kernel
theorem dX12_release_163 : decode cX12_release 163 = .ok (.bipush 12, 2) := by decide +kernel
theorem dX12_release_165 : decode cX12_release 165 = .ok (.iload 5, 2) := by decide +kernel
theorem dX12_release_167 : decode cX12_release 167 = .ok (.imul, 1) := by decide +kernel
theorem dX12_release_168 : decode cX12_release 168 = .ok (.iload 6, 2) := by decide +kernel
theorem dX12_release_170 : decode cX12_release 170 = .ok (.iadd, 1) := by decide +kernel
theorem dX12_release_171 : decode cX12_release 171 = .ok (.aload_n 0, 1) := by decide +kernel
theorem dX12_release_172 : decode cX12_release 172 = .ok (.getfield 13, 3) := by decide +kernel
theorem dX12_release_175 : decode cX12_release 175 = .ok (.bipush 12, 2) := by decide +kernel
theorem dX12_release_177 : decode cX12_release 177 = .ok (.iload 4, 2) := by decide +kernel
theorem dX12_release_179 : decode cX12_release 179 = .ok (.imul, 1) := by decide +kernel
theorem dX12_release_180 : decode cX12_release 180 = .ok (.iload 6, 2) := by decide +kernel
theorem dX12_release_182 : decode cX12_release 182 = .ok (.iadd, 1) := by decide +kernel
theorem dX12_release_183 : decode cX12_release 183 = .ok (.iaload, 1) := by decide +kernel
theorem dX12_release_184 : decode cX12_release 184 = .ok (.iastore, 1) := by decide +kernel
theorem dX12_release_185 : decode cX12_release 185 = .ok (.aload_n 0, 1) := by decide +kernel
theorem dX12_release_186 : decode cX12_release 186 = .ok (.getfield 16, 3) := by decide +kernel
theorem dX12_release_189 : decode cX12_release 189 = .ok (.bipush 12, 2) := by decide +kernel
theorem dX12_release_191 : decode cX12_release 191 = .ok (.iload 5, 2) := by decide +kernel
theorem dX12_release_193 : decode cX12_release 193 = .ok (.imul, 1) := by decide +kernel
theorem dX12_release_194 : decode cX12_release 194 = .ok (.iload 6, 2) := by decide +kernel
theorem dX12_release_196 : decode cX12_release 196 = .ok (.iadd, 1) := by decide +kernel
theorem dX12_release_197 : decode cX12_release 197 = .ok (.aload_n 0, 1) := by decide +kernel
theorem dX12_release_198 : decode cX12_release 198 = .ok (.getfield 16, 3) := by decide +kernel
theorem dX12_release_201 : decode cX12_release 201 = .ok (.bipush 12, 2) := by decide +kernel
theorem dX12_release_203 : decode cX12_release 203 = .ok (.iload 4, 2) := by decide +kernel
theorem dX12_release_205 : decode cX12_release 205 = .ok (.imul, 1) := by decide +kernel
theorem dX12_release_206 : decode cX12_release 206 = .ok (.iload 6, 2) := by decide +kernel
theorem dX12_release_208 : decode cX12_release 208 = .ok (.iadd, 1) := by decide +kernel
theorem dX12_release_209 : decode cX12_release 209 = .ok (.iaload, 1) := by decide +kernel
theorem dX12_release_210 : decode cX12_release 210 = .ok (.iastore, 1) := by decide +kernel
theorem dX12_release_211 : decode cX12_release 211 = .ok (.iinc 6 1, 3) := by decide +kernel
theorem dX12_release_214 : decode cX12_release 214 = .ok (.goto (-88), 3) := by decide +kernel
theorem dX12_release_217 : decode cX12_release 217 = .ok (.aload_n 0, 1) := by decide +kernel
theorem dX12_release_218 : decode cX12_release 218 = .ok (.getfield 19, 3) := by decide +kernel
theorem dX12_release_221 : decode cX12_release 221 = .ok (.iload 5, 2) := by decide +kernel
theorem dX12_release_223 : decode cX12_release 223 = .ok (.aload_n 0, 1) := by decide +kernel
theorem dX12_release_224 : decode cX12_release 224 = .ok (.getfield 19, 3) := by decide +kernel
theorem dX12_release_227 : decode cX12_release 227 = .ok (.iload 4, 2) := by decide +kernel
theorem dX12_release_229 : decode cX12_release 229 = .ok (.iaload, 1) := by decide +kernel
theorem dX12_release_230 : decode cX12_release 230 = .ok (.iastore, 1) := by decide +kernel
theorem dX12_release_231 : decode cX12_release 231 = .ok (.aload_n 0, 1) := by decide +kernel
theorem dX12_release_232 : decode cX12_release 232 = .ok (.getfield 19, 3) := by decide +kernel
theorem dX12_release_235 : decode cX12_release 235 = .ok (.iload 4, 2) := by decide +kernel
theorem dX12_release_237 : decode cX12_release 237 = .ok (.iconst 0, 1) := by decide +kernel
theorem dX12_release_238 : decode cX12_release 238 = .ok (.iastore, 1) := by decide +kernel
theorem dX12_release_239 : decode cX12_release 239 = .ok (.aload_n 0, 1) := by decide +kernel
theorem dX12_release_240 : decode cX12_release 240 = .ok (.getfield 22, 3) := by decide +kernel
theorem dX12_release_243 : decode cX12_release 243 = .ok (.iload_n 1, 1) := by decide +kernel
theorem dX12_release_244 : decode cX12_release 244 = .ok (.iaload, 1) := by decide +kernel
theorem dX12_release_245 : decode cX12_release 245 = .ok (.ireturn, 1) := by decide +kernel
theorem e_X12_release_217 (d : Nat) {l0 l1 l4 l5 : Int} {m : Mem} {v : Int} {m' : Mem} (h : X12_release_217 l0 l1 l4 l5 m = some (v, m')) : Ex (d + 2) fm_X12_release 217 [(22, l0), (0, l1), (3, 0), (3, 0), (0, l4), (0, l5), (3, 0)] [] m (.inl (0, v)) m' := by
  unfold X12_release_217 at h
  refine x_aload_n dX12_release_217 rfl rfl (Or.inr (by decide)) (?_ : Ex _ _ 218 _ _ _ _ _)
  obtain ⟨c1, h⟩ := chk_some h
  refine gt_12_5 c1 fl_RX12_19 dX12_release_218 (?_ : Ex _ _ 221 _ _ _ _ _)
  refine x_iload dX12_release_221 rfl (?_ : Ex _ _ 223 _ _ _ _ _)
  refine x_aload_n dX12_release_223 rfl rfl (Or.inr (by decide)) (?_ : Ex _ _ 224 _ _ _ _ _)
  refine gt_12_5 c1 fl_RX12_19 dX12_release_224 (?_ : Ex _ _ 227 _ _ _ _ _)
  refine x_iload dX12_release_227 rfl (?_ : Ex _ _ 229 _ _ _ _ _)
  obtain ⟨⟨c2, c3, c4⟩, h⟩ := chk_some h
  refine ld_i_15 c2 c3 c4 dX12_release_229 (?_ : Ex _ _ 230 _ _ _ _ _)
  obtain ⟨⟨c5, c6⟩, h⟩ := chk_some h
  obtain ⟨m7, hm7, h⟩ := st_some h
  refine sd_i_15 c2 c5 c6 dX12_release_230 (?_ : Ex _ _ 231 _ _ _ _ _)
  rw [← hm7]
  refine x_aload_n dX12_release_231 rfl rfl (Or.inr (by decide)) (?_ : Ex _ _ 232 _ _ _ _ _)
  refine gt_12_5 c1 fl_RX12_19 dX12_release_232 (?_ : Ex _ _ 235 _ _ _ _ _)
  refine x_iload dX12_release_235 rfl (?_ : Ex _ _ 237 _ _ _ _ _)
  refine x_iconst dX12_release_237 rfl (by decide) (?_ : Ex _ _ 238 _ _ _ _ _)
  obtain ⟨⟨c8, c9, c10⟩, h⟩ := chk_some h
  obtain ⟨m11, hm11, h⟩ := st_some h
  refine sd_i_15 c8 c9 c10 dX12_release_238 (?_ : Ex _ _ 239 _ _ _ _ _)
  rw [← hm11]
  refine x_aload_n dX12_release_239 rfl rfl (Or.inr (by decide)) (?_ : Ex _ _ 240 _ _ _ _ _)
  refine gt_12_6 c1 fl_RX12_22 dX12_release_240 (?_ : Ex _ _ 243 _ _ _ _ _)
  refine x_iload_n dX12_release_243 rfl rfl (?_ : Ex _ _ 244 _ _ _ _ _)
  obtain ⟨⟨c12, c13, c14⟩, h⟩ := chk_some h
  refine ld_i_3 c12 c13 c14 dX12_release_244 (?_ : Ex _ _ 245 _ _ _ _ _)
  cases h
  exact x_ret dX12_release_245 (by decide : (0 : Int) ≠ 3)
theorem e_X12_release_126 (d : Nat) {k217 : Int → Int → Int → Int → Mem → Option R2} (hk217 : ∀ {l0 l1 l4 l5 : Int} {m : Mem} {v : Int} {m' : Mem}, k217 l0 l1 l4 l5 m = some (v, m') → Ex (d + 2) fm_X12_release 217 [(22, l0), (0, l1), (3, 0), (3, 0), (0, l4), (0, l5), (3, 0)] [] m (.inl (0, v)) m') : ∀ (n : Nat) {l0 l1 l4 l5 l6 : Int} {m : Mem} {v : Int} {m' : Mem}, X12_release_126 k217 n l0 l1 l4 l5 l6 m = some (v, m') → Ex (d + 2) fm_X12_release 126 [(22, l0), (0, l1), (3, 0), (3, 0), (0, l4), (0, l5), (0, l6)] [] m (.inl (0, v)) m' := by
  intro n
  induction n with
  | zero =>
    intro l0 l1 l4 l5 l6 m v m' h
    have h : (none : Option R2) = some _ := h
    cases h
  | succ n ih =>
    intro l0 l1 l4 l5 l6 m v m' h
    rw [X12_release_126] at h
    refine x_iload dX12_release_126 rfl (?_ : Ex _ _ 128 _ _ _ _ _)
    refine x_bipush dX12_release_128 kb_12 (by decide) (?_ : Ex _ _ 130 _ _ _ _ _)
    rcases ite_some h with ⟨b1, h⟩ | ⟨b1, h⟩
    · refine x_icmp_ge (tgt := 217) dX12_release_130 rfl b1 (?_ : Ex _ _ 217 _ _ _ _ _)
      refine Ex.wk (ls2 := [(22, l0), (0, l1), (3, 0), (3, 0), (0, l4), (0, l5), (3, 0)]) ⟨Or.inr rfl, Or.inr rfl, Or.inl rfl, Or.inl rfl, Or.inr rfl, Or.inr rfl, Or.inl rfl, trivial⟩ ?_
      exact hk217 h
    · refine x_icmp_geN dX12_release_130 (by decide) b1 (?_ : Ex _ _ 133 _ _ _ _ _)
      refine x_aload_n dX12_release_133 rfl rfl (Or.inr (by decide)) (?_ : Ex _ _ 134 _ _ _ _ _)
      obtain ⟨c2, h⟩ := chk_some h
      refine gt_12_2 c2 fl_RX12_7 dX12_release_134 (?_ : Ex _ _ 137 _ _ _ _ _)
      refine x_bipush dX12_release_137 kb_12 (by decide) (?_ : Ex _ _ 139 _ _ _ _ _)
      refine x_iload dX12_release_139 rfl (?_ : Ex _ _ 141 _ _ _ _ _)
      obtain ⟨c3, h⟩ := chk_some h
      refine x_imul dX12_release_141 c3 (?_ : Ex _ _ 142 _ _ _ _ _)
      refine x_iload dX12_release_142 rfl (?_ : Ex _ _ 144 _ _ _ _ _)
      obtain ⟨c4, h⟩ := chk_some h
      refine x_iadd dX12_release_144 c4 (?_ : Ex _ _ 145 _ _ _ _ _)
      refine x_aload_n dX12_release_145 rfl rfl (Or.inr (by decide)) (?_ : Ex _ _ 146 _ _ _ _ _)
      refine gt_12_2 c2 fl_RX12_7 dX12_release_146 (?_ : Ex _ _ 149 _ _ _ _ _)
      refine x_bipush dX12_release_149 kb_12 (by decide) (?_ : Ex _ _ 151 _ _ _ _ _)
      refine x_iload dX12_release_151 rfl (?_ : Ex _ _ 153 _ _ _ _ _)
      obtain ⟨c5, h⟩ := chk_some h
      refine x_imul dX12_release_153 c5 (?_ : Ex _ _ 154 _ _ _ _ _)
      refine x_iload dX12_release_154 rfl (?_ : Ex _ _ 156 _ _ _ _ _)
      obtain ⟨c6, h⟩ := chk_some h
      refine x_iadd dX12_release_156 c6 (?_ : Ex _ _ 157 _ _ _ _ _)
      obtain ⟨⟨c7, c8, c9⟩, h⟩ := chk_some h
      refine ld_i_180 c7 c8 c9 dX12_release_157 (?_ : Ex _ _ 158 _ _ _ _ _)
      obtain ⟨⟨c10, c11⟩, h⟩ := chk_some h
      obtain ⟨m12, hm12, h⟩ := st_some h
      refine sd_i_180 c7 c10 c11 dX12_release_158 (?_ : Ex _ _ 159 _ _ _ _ _)
      rw [← hm12]
      refine x_aload_n dX12_release_159 rfl rfl (Or.inr (by decide)) (?_ : Ex _ _ 160 _ _ _ _ _)
      refine gt_12_3 c2 fl_RX12_13 dX12_release_160 (?_ : Ex _ _ 163 _ _ _ _ _)
      refine x_bipush dX12_release_163 kb_12 (by decide) (?_ : Ex _ _ 165 _ _ _ _ _)
      refine x_iload dX12_release_165 rfl (?_ : Ex _ _ 167 _ _ _ _ _)
      obtain ⟨c13, h⟩ := chk_some h
      refine x_imul dX12_release_167 c13 (?_ : Ex _ _ 168 _ _ _ _ _)
      refine x_iload dX12_release_168 rfl (?_ : Ex _ _ 170 _ _ _ _ _)
      obtain ⟨c14, h⟩ := chk_some h
      refine x_iadd dX12_release_170 c14 (?_ : Ex _ _ 171 _ _ _ _ _)
      refine x_aload_n dX12_release_171 rfl rfl (Or.inr (by decide)) (?_ : Ex _ _ 172 _ _ _ _ _)
      refine gt_12_3 c2 fl_RX12_13 dX12_release_172 (?_ : Ex _ _ 175 _ _ _ _ _)
      refine x_bipush dX12_release_175 kb_12 (by decide) (?_ : Ex _ _ 177 _ _ _ _ _)
      refine x_iload dX12_release_177 rfl (?_ : Ex _ _ 179 _ _ _ _ _)
      obtain ⟨c15, h⟩ := chk_some h
      refine x_imul dX12_release_179 c15 (?_ : Ex _ _ 180 _ _ _ _ _)
      refine x_iload dX12_release_180 rfl (?_ : Ex _ _ 182 _ _ _ _ _)
      obtain ⟨c16, h⟩ := chk_some h
      refine x_iadd dX12_release_182 c16 (?_ : Ex _ _ 183 _ _ _ _ _)
      obtain ⟨⟨c17, c18, c19⟩, h⟩ := chk_some h
      refine ld_i_180 c17 c18 c19 dX12_release_183 (?_ : Ex _ _ 184 _ _ _ _ _)
      obtain ⟨⟨c20, c21⟩, h⟩ := chk_some h
      obtain ⟨m22, hm22, h⟩ := st_some h
      refine sd_i_180 c17 c20 c21 dX12_release_184 (?_ : Ex _ _ 185 _ _ _ _ _)
      rw [← hm22]
      refine x_aload_n dX12_release_185 rfl rfl (Or.inr (by decide)) (?_ : Ex _ _ 186 _ _ _ _ _)
      refine gt_12_4 c2 fl_RX12_16 dX12_release_186 (?_ : Ex _ _ 189 _ _ _ _ _)
      refine x_bipush dX12_release_189 kb_12 (by decide) (?_ : Ex _ _ 191 _ _ _ _ _)
      refine x_iload dX12_release_191 rfl (?_ : Ex _ _ 193 _ _ _ _ _)
      obtain ⟨c23, h⟩ := chk_some h
      refine x_imul dX12_release_193 c23 (?_ : Ex _ _ 194 _ _ _ _ _)
      refine x_iload dX12_release_194 rfl (?_ : Ex _ _ 196 _ _ _ _ _)
      obtain ⟨c24, h⟩ := chk_some h
      refine x_iadd dX12_release_196 c24 (?_ : Ex _ _ 197 _ _ _ _ _)
      refine x_aload_n dX12_release_197 rfl rfl (Or.inr (by decide)) (?_ : Ex _ _ 198 _ _ _ _ _)
      refine gt_12_4 c2 fl_RX12_16 dX12_release_198 (?_ : Ex _ _ 201 _ _ _ _ _)
      refine x_bipush dX12_release_201 kb_12 (by decide) (?_ : Ex _ _ 203 _ _ _ _ _)
      refine x_iload dX12_release_203 rfl (?_ : Ex _ _ 205 _ _ _ _ _)
      obtain ⟨c25, h⟩ := chk_some h
      refine x_imul dX12_release_205 c25 (?_ : Ex _ _ 206 _ _ _ _ _)
      refine x_iload dX12_release_206 rfl (?_ : Ex _ _ 208 _ _ _ _ _)
      obtain ⟨c26, h⟩ := chk_some h
      refine x_iadd dX12_release_208 c26 (?_ : Ex _ _ 209 _ _ _ _ _)
      obtain ⟨⟨c27, c28, c29⟩, h⟩ := chk_some h
      refine ld_i_180 c27 c28 c29 dX12_release_209 (?_ : Ex _ _ 210 _ _ _ _ _)
      obtain ⟨⟨c30, c31⟩, h⟩ := chk_some h
      obtain ⟨m32, hm32, h⟩ := st_some h
      refine sd_i_180 c27 c30 c31 dX12_release_210 (?_ : Ex _ _ 211 _ _ _ _ _)
      rw [← hm32]
      obtain ⟨c33, h⟩ := chk_some h
      refine x_iinc (ls2 := [(22, l0), (0, l1), (3, 0), (3, 0), (0, l4), (0, l5), (0, (l6 + 1))]) dX12_release_211 rfl c33 rfl (?_ : Ex _ _ 214 _ _ _ _ _)
      refine x_goto (tgt := 126) dX12_release_214 rfl (?_ : Ex _ _ 126 _ _ _ _ _)
      exact ih h
theorem e_X12_release_86 (d : Nat) {l0 l1 s0 s1 : Int} {m : Mem} {v : Int} {m' : Mem} (h : X12_release_86 l0 l1 s0 s1 m = some (v, m')) : Ex (d + 2) fm_X12_release 86 [(22, l0), (0, l1), (3, 0), (3, 0), (3, 0), (3, 0), (3, 0)] [(0, s0), (22, s1)] m (.inl (0, v)) m' := by
  unfold X12_release_86 at h
  obtain ⟨c1, h⟩ := chk_some h
  obtain ⟨v2, m3, g4, h⟩ := cal_some h
  refine cV1 (e_X12_isFine (d + 1) g4) (contN (by decide) (?_ : Ex _ _ 89 _ _ _ _ _)) og_X12_isFine rfl ml_RX12_198 12 rfl rfl c1 im_X12_isFine se_X12_isFine (Nat.le_of_ble_eq_true rfl) dX12_release_86
  rcases ite_some h with ⟨b5, h⟩ | ⟨b5, h⟩
  · refine x_if_neN dX12_release_89 (by decide) (fun hh => hh b5) (?_ : Ex _ _ 92 _ _ _ _ _)
    refine x_iconst dX12_release_92 rfl (by decide) (?_ : Ex _ _ 93 _ _ _ _ _)
    cases h
    exact x_ret dX12_release_93 (by decide : (0 : Int) ≠ 3)
  · refine x_if_ne (tgt := 94) dX12_release_89 rfl b5 (?_ : Ex _ _ 94 _ _ _ _ _)
    refine x_aload_n dX12_release_94 rfl rfl (Or.inr (by decide)) (?_ : Ex _ _ 95 _ _ _ _ _)
    obtain ⟨c6, h⟩ := chk_some h
    refine gt_12_6 c6 fl_RX12_22 dX12_release_95 (?_ : Ex _ _ 98 _ _ _ _ _)
    refine x_iload_n dX12_release_98 rfl rfl (?_ : Ex _ _ 99 _ _ _ _ _)
    refine x_dup2 (by decide : (0 : Int) ≠ 2) (by decide : (100003 : Int) ≠ 2) dX12_release_99 (?_ : Ex _ _ 100 _ _ _ _ _)
    obtain ⟨⟨c7, c8, c9⟩, h⟩ := chk_some h
    refine ld_i_3 c7 c8 c9 dX12_release_100 (?_ : Ex _ _ 101 _ _ _ _ _)
    refine x_iconst dX12_release_101 rfl (by decide) (?_ : Ex _ _ 102 _ _ _ _ _)
    obtain ⟨c10, h⟩ := chk_some h
    refine x_iadd dX12_release_102 c10 (?_ : Ex _ _ 103 _ _ _ _ _)
    obtain ⟨⟨c11, c12⟩, h⟩ := chk_some h
    obtain ⟨m13, hm13, h⟩ := st_some h
    refine sd_i_3 c7 c11 c12 dX12_release_103 (?_ : Ex _ _ 104 _ _ _ _ _)
    rw [← hm13]
    refine x_iload_n dX12_release_104 rfl rfl (?_ : Ex _ _ 105 _ _ _ _ _)
    refine x_iconst dX12_release_105 rfl (by decide) (?_ : Ex _ _ 106 _ _ _ _ _)
    obtain ⟨v14, m15, g16, h⟩ := cal_some h
    refine cS2 (e_X12_rowOf (d + 1) g16) (contN (by decide) (?_ : Ex _ _ 109 _ _ _ _ _)) og_X12_rowOf rfl ml_RX12_191 sm_X12_rowOf (Nat.le_of_ble_eq_true rfl) dX12_release_106
    refine x_istore (ls2 := [(22, l0), (0, l1), (3, 0), (3, 0), (0, v14), (3, 0), (3, 0)]) dX12_release_109 (Nat.le_of_ble_eq_true rfl) rfl (?_ : Ex _ _ 111 _ _ _ _ _)
    refine x_iload_n dX12_release_111 rfl rfl (?_ : Ex _ _ 112 _ _ _ _ _)
    refine x_aload_n dX12_release_112 rfl rfl (Or.inr (by decide)) (?_ : Ex _ _ 113 _ _ _ _ _)
    refine gt_12_6 c6 fl_RX12_22 dX12_release_113 (?_ : Ex _ _ 116 _ _ _ _ _)
    refine x_iload_n dX12_release_116 rfl rfl (?_ : Ex _ _ 117 _ _ _ _ _)
    obtain ⟨⟨c17, c18, c19⟩, h⟩ := chk_some h
    refine ld_i_3 c17 c18 c19 dX12_release_117 (?_ : Ex _ _ 118 _ _ _ _ _)
    obtain ⟨v20, m21, g22, h⟩ := cal_some h
    refine cS2 (e_X12_rowOf (d + 1) g22) (contN (by decide) (?_ : Ex _ _ 121 _ _ _ _ _)) og_X12_rowOf rfl ml_RX12_191 sm_X12_rowOf (Nat.le_of_ble_eq_true rfl) dX12_release_118
    refine x_istore (ls2 := [(22, l0), (0, l1), (3, 0), (3, 0), (0, v14), (0, v20), (3, 0)]) dX12_release_121 (Nat.le_of_ble_eq_true rfl) rfl (?_ : Ex _ _ 123 _ _ _ _ _)
    refine x_iconst dX12_release_123 rfl (by decide) (?_ : Ex _ _ 124 _ _ _ _ _)
    refine x_istore (ls2 := [(22, l0), (0, l1), (3, 0), (3, 0), (0, v14), (0, v20), (0, 0)]) dX12_release_124 (Nat.le_of_ble_eq_true rfl) rfl (?_ : Ex _ _ 126 _ _ _ _ _)
    exact e_X12_release_126 d (fun h => e_X12_release_217 d h) fuel9 h
theorem e_X12_release_68 (d : Nat) {l0 l1 l2 l3 : Int} {m : Mem} {v : Int} {m' : Mem} (h : X12_release_68 l0 l1 l2 l3 m = some (v, m')) : Ex (d + 2) fm_X12_release 68 [(22, l0), (0, l1), (0, l2), (0, l3), (3, 0), (3, 0), (3, 0)] [] m (.inl (0, v)) m' := by
  unfold X12_release_68 at h
  refine x_aload_n dX12_release_68 rfl rfl (Or.inr (by decide)) (?_ : Ex _ _ 69 _ _ _ _ _)
  refine x_iload_n dX12_release_69 rfl rfl (?_ : Ex _ _ 70 _ _ _ _ _)
  rcases ite_some h with ⟨b1, h⟩ | ⟨b1, h⟩
  · refine x_if_neN dX12_release_70 (by decide) (fun hh => hh b1) (?_ : Ex _ _ 73 _ _ _ _ _)
    refine x_iconst dX12_release_73 rfl (by decide) (?_ : Ex _ _ 74 _ _ _ _ _)
    refine x_goto (tgt := 86) dX12_release_74 rfl (?_ : Ex _ _ 86 _ _ _ _ _)
    refine Ex.wk (ls2 := [(22, l0), (0, l1), (3, 0), (3, 0), (3, 0), (3, 0), (3, 0)]) ⟨Or.inr rfl, Or.inr rfl, Or.inl rfl, Or.inl rfl, Or.inl rfl, Or.inl rfl, Or.inl rfl, trivial⟩ ?_
    exact e_X12_release_86 d h
  · refine x_if_ne (tgt := 77) dX12_release_70 rfl b1 (?_ : Ex _ _ 77 _ _ _ _ _)
    refine x_iload_n dX12_release_77 rfl rfl (?_ : Ex _ _ 78 _ _ _ _ _)
    rcases ite_some h with ⟨b2, h⟩ | ⟨b2, h⟩
    · refine x_if_neN dX12_release_78 (by decide) (fun hh => hh b2) (?_ : Ex _ _ 81 _ _ _ _ _)
      refine x_iconst dX12_release_81 rfl (by decide) (?_ : Ex _ _ 82 _ _ _ _ _)
      refine x_goto (tgt := 86) dX12_release_82 rfl (?_ : Ex _ _ 86 _ _ _ _ _)
      refine Ex.wk (ls2 := [(22, l0), (0, l1), (3, 0), (3, 0), (3, 0), (3, 0), (3, 0)]) ⟨Or.inr rfl, Or.inr rfl, Or.inl rfl, Or.inl rfl, Or.inl rfl, Or.inl rfl, Or.inl rfl, trivial⟩ ?_
      exact e_X12_release_86 d h
    · refine x_if_ne (tgt := 85) dX12_release_78 rfl b2 (?_ : Ex _ _ 85 _ _ _ _ _)
      refine x_iconst dX12_release_85 rfl (by decide) (?_ : Ex _ _ 86 _ _ _ _ _)
      refine Ex.wk (ls2 := [(22, l0), (0, l1), (3, 0), (3, 0), (3, 0), (3, 0), (3, 0)]) ⟨Or.inr rfl, Or.inr rfl, Or.inl rfl, Or.inl rfl, Or.inl rfl, Or.inl rfl, Or.inl rfl, trivial⟩ ?_
      exact e_X12_release_86 d h
theorem e_X12_release_31 (d : Nat) {k68 : Int → Int → Int → Int → Mem → Option R2} (hk68 : ∀ {l0 l1 l2 l3 : Int} {m : Mem} {v : Int} {m' : Mem}, k68 l0 l1 l2 l3 m = some (v, m') → Ex (d + 2) fm_X12_release 68 [(22, l0), (0, l1), (0, l2), (0, l3), (3, 0), (3, 0), (3, 0)] [] m (.inl (0, v)) m') : ∀ (n : Nat) {l0 l1 l2 l3 l4 : Int} {m : Mem} {v : Int} {m' : Mem}, X12_release_31 k68 n l0 l1 l2 l3 l4 m = some (v, m') → Ex (d + 2) fm_X12_release 31 [(22, l0), (0, l1), (0, l2), (0, l3), (0, l4), (3, 0), (3, 0)] [] m (.inl (0, v)) m' := by
  intro n
  induction n with
  | zero =>
    intro l0 l1 l2 l3 l4 m v m' h
    have h : (none : Option R2) = some _ := h
    cases h
  | succ n ih =>
    intro l0 l1 l2 l3 l4 m v m' h
    rw [X12_release_31] at h
    refine x_iload_n dX12_release_31 rfl rfl (?_ : Ex _ _ 32 _ _ _ _ _)
    rcases ite_some h with ⟨b1, h⟩ | ⟨b1, h⟩
    · refine x_if_eq (tgt := 68) dX12_release_32 rfl b1 (?_ : Ex _ _ 68 _ _ _ _ _)
      refine Ex.wk (ls2 := [(22, l0), (0, l1), (0, l2), (0, l3), (3, 0), (3, 0), (3, 0)]) ⟨Or.inr rfl, Or.inr rfl, Or.inr rfl, Or.inr rfl, Or.inl rfl, Or.inl rfl, Or.inl rfl, trivial⟩ ?_
      exact hk68 h
    · refine x_if_eqN dX12_release_32 (by decide) b1 (?_ : Ex _ _ 35 _ _ _ _ _)
      refine x_iload dX12_release_35 rfl (?_ : Ex _ _ 37 _ _ _ _ _)
      refine x_aload_n dX12_release_37 rfl rfl (Or.inr (by decide)) (?_ : Ex _ _ 38 _ _ _ _ _)
      obtain ⟨c2, h⟩ := chk_some h
      refine gt_12_5 c2 fl_RX12_19 dX12_release_38 (?_ : Ex _ _ 41 _ _ _ _ _)
      refine x_iload_n dX12_release_41 rfl rfl (?_ : Ex _ _ 42 _ _ _ _ _)
      refine x_iconst dX12_release_42 rfl (by decide) (?_ : Ex _ _ 43 _ _ _ _ _)
      obtain ⟨v3, m4, g5, h⟩ := cal_some h
      refine cS2 (e_X12_rowOf (d + 1) g5) (contN (by decide) (?_ : Ex _ _ 46 _ _ _ _ _)) og_X12_rowOf rfl ml_RX12_191 sm_X12_rowOf (Nat.le_of_ble_eq_true rfl) dX12_release_43
      obtain ⟨⟨c6, c7, c8⟩, h⟩ := chk_some h
      refine ld_i_15 c6 c7 c8 dX12_release_46 (?_ : Ex _ _ 47 _ _ _ _ _)
      rcases ite_some h with ⟨b9, h⟩ | ⟨b9, h⟩
      · refine x_icmp_ge (tgt := 68) dX12_release_47 rfl b9 (?_ : Ex _ _ 68 _ _ _ _ _)
        refine Ex.wk (ls2 := [(22, l0), (0, l1), (0, l2), (0, l3), (3, 0), (3, 0), (3, 0)]) ⟨Or.inr rfl, Or.inr rfl, Or.inr rfl, Or.inr rfl, Or.inl rfl, Or.inl rfl, Or.inl rfl, trivial⟩ ?_
        exact hk68 h
      · refine x_icmp_geN dX12_release_47 (by decide) b9 (?_ : Ex _ _ 50 _ _ _ _ _)
        refine x_aload_n dX12_release_50 rfl rfl (Or.inr (by decide)) (?_ : Ex _ _ 51 _ _ _ _ _)
        refine x_iload_n dX12_release_51 rfl rfl (?_ : Ex _ _ 52 _ _ _ _ _)
        refine x_iconst dX12_release_52 rfl (by decide) (?_ : Ex _ _ 53 _ _ _ _ _)
        obtain ⟨v10, m11, g12, h⟩ := cal_some h
        refine cS2 (e_X12_rowOf (d + 1) g12) (contN (by decide) (?_ : Ex _ _ 56 _ _ _ _ _)) og_X12_rowOf rfl ml_RX12_191 sm_X12_rowOf (Nat.le_of_ble_eq_true rfl) dX12_release_53
        refine x_iload dX12_release_56 rfl (?_ : Ex _ _ 58 _ _ _ _ _)
        obtain ⟨v13, m14, g15, h⟩ := cal_some h
        refine cV2 (e_X12_leads (d + 1) g15) (contN (by decide) (?_ : Ex _ _ 61 _ _ _ _ _)) og_X12_leads rfl ml_RX12_201 12 rfl rfl c2 im_X12_leads se_X12_leads (Nat.le_of_ble_eq_true rfl) dX12_release_58
        refine x_istore_n (ls2 := [(22, l0), (0, l1), (0, l2), (0, v13), (0, l4), (3, 0), (3, 0)]) dX12_release_61 rfl (Nat.le_of_ble_eq_true rfl) rfl (?_ : Ex _ _ 62 _ _ _ _ _)
        obtain ⟨c16, h⟩ := chk_some h
        refine x_iinc (ls2 := [(22, l0), (0, l1), (0, l2), (0, v13), (0, (l4 + 1)), (3, 0), (3, 0)]) dX12_release_62 rfl c16 rfl (?_ : Ex _ _ 65 _ _ _ _ _)
        refine x_goto (tgt := 31) dX12_release_65 rfl (?_ : Ex _ _ 31 _ _ _ _ _)
        exact ih h
theorem e_X12_release_0 (d : Nat) {l0 l1 : Int} {m : Mem} {v : Int} {m' : Mem} (h : X12_release_0 l0 l1 m = some (v, m')) : Ex (d + 2) fm_X12_release 0 [(22, l0), (0, l1), (3, 0), (3, 0), (3, 0), (3, 0), (3, 0)] [] m (.inl (0, v)) m' := by
  unfold X12_release_0 at h
  refine x_iload_n dX12_release_0 rfl rfl (?_ : Ex _ _ 1 _ _ _ _ _)
  obtain ⟨v1, m2, g3, h⟩ := cal_some h
  refine cS1 (e_X12_isType d g3) (contN (by decide) (?_ : Ex _ _ 4 _ _ _ _ _)) og_X12_isType rfl ml_RX12_188 sm_X12_isType (Nat.le_of_ble_eq_true rfl) dX12_release_1
  refine x_istore_n (ls2 := [(22, l0), (0, l1), (0, v1), (3, 0), (3, 0), (3, 0), (3, 0)]) dX12_release_4 rfl (Nat.le_of_ble_eq_true rfl) rfl (?_ : Ex _ _ 5 _ _ _ _ _)
  refine x_iload_n dX12_release_5 rfl rfl (?_ : Ex _ _ 6 _ _ _ _ _)
  rcases ite_some h with ⟨b4, h⟩ | ⟨b4, h⟩
  · refine x_if_eq (tgt := 26) dX12_release_6 rfl b4 (?_ : Ex _ _ 26 _ _ _ _ _)
    refine x_iconst dX12_release_26 rfl (by decide) (?_ : Ex _ _ 27 _ _ _ _ _)
    refine x_istore_n (ls2 := [(22, l0), (0, l1), (0, v1), (0, 0), (3, 0), (3, 0), (3, 0)]) dX12_release_27 rfl (Nat.le_of_ble_eq_true rfl) rfl (?_ : Ex _ _ 28 _ _ _ _ _)
    refine x_iconst dX12_release_28 rfl (by decide) (?_ : Ex _ _ 29 _ _ _ _ _)
    refine x_istore (ls2 := [(22, l0), (0, l1), (0, v1), (0, 0), (0, 0), (3, 0), (3, 0)]) dX12_release_29 (Nat.le_of_ble_eq_true rfl) rfl (?_ : Ex _ _ 31 _ _ _ _ _)
    exact e_X12_release_31 d (fun h => e_X12_release_68 d h) fuel9 h
  · refine x_if_eqN dX12_release_6 (by decide) b4 (?_ : Ex _ _ 9 _ _ _ _ _)
    refine x_aload_n dX12_release_9 rfl rfl (Or.inr (by decide)) (?_ : Ex _ _ 10 _ _ _ _ _)
    obtain ⟨c5, h⟩ := chk_some h
    refine gt_12_5 c5 fl_RX12_19 dX12_release_10 (?_ : Ex _ _ 13 _ _ _ _ _)
    refine x_iload_n dX12_release_13 rfl rfl (?_ : Ex _ _ 14 _ _ _ _ _)
    refine x_iconst dX12_release_14 rfl (by decide) (?_ : Ex _ _ 15 _ _ _ _ _)
    obtain ⟨v6, m7, g8, h⟩ := cal_some h
    refine cS2 (e_X12_rowOf (d + 1) g8) (contN (by decide) (?_ : Ex _ _ 18 _ _ _ _ _)) og_X12_rowOf rfl ml_RX12_191 sm_X12_rowOf (Nat.le_of_ble_eq_true rfl) dX12_release_15
    obtain ⟨⟨c9, c10, c11⟩, h⟩ := chk_some h
    refine ld_i_15 c9 c10 c11 dX12_release_18 (?_ : Ex _ _ 19 _ _ _ _ _)
    rcases ite_some h with ⟨b12, h⟩ | ⟨b12, h⟩
    · refine x_if_le (tgt := 26) dX12_release_19 rfl b12 (?_ : Ex _ _ 26 _ _ _ _ _)
      refine x_iconst dX12_release_26 rfl (by decide) (?_ : Ex _ _ 27 _ _ _ _ _)
      refine x_istore_n (ls2 := [(22, l0), (0, l1), (0, v1), (0, 0), (3, 0), (3, 0), (3, 0)]) dX12_release_27 rfl (Nat.le_of_ble_eq_true rfl) rfl (?_ : Ex _ _ 28 _ _ _ _ _)
      refine x_iconst dX12_release_28 rfl (by decide) (?_ : Ex _ _ 29 _ _ _ _ _)
      refine x_istore (ls2 := [(22, l0), (0, l1), (0, v1), (0, 0), (0, 0), (3, 0), (3, 0)]) dX12_release_29 (Nat.le_of_ble_eq_true rfl) rfl (?_ : Ex _ _ 31 _ _ _ _ _)
      exact e_X12_release_31 d (fun h => e_X12_release_68 d h) fuel9 h
    · refine x_if_leN dX12_release_19 (by decide) b12 (?_ : Ex _ _ 22 _ _ _ _ _)
      refine x_iconst dX12_release_22 rfl (by decide) (?_ : Ex _ _ 23 _ _ _ _ _)
      refine x_goto (tgt := 27) dX12_release_23 rfl (?_ : Ex _ _ 27 _ _ _ _ _)
      refine x_istore_n (ls2 := [(22, l0), (0, l1), (0, v1), (0, 1), (3, 0), (3, 0), (3, 0)]) dX12_release_27 rfl (Nat.le_of_ble_eq_true rfl) rfl (?_ : Ex _ _ 28 _ _ _ _ _)
      refine x_iconst dX12_release_28 rfl (by decide) (?_ : Ex _ _ 29 _ _ _ _ _)
      refine x_istore (ls2 := [(22, l0), (0, l1), (0, v1), (0, 1), (0, 0), (3, 0), (3, 0)]) dX12_release_29 (Nat.le_of_ble_eq_true rfl) rfl (?_ : Ex _ _ 31 _ _ _ _ _)
      exact e_X12_release_31 d (fun h => e_X12_release_68 d h) fuel9 h
theorem e_X12_release (d : Nat) {a0 a1 : Int} {m : Mem} {v : Int} {m' : Mem} (h : X12_release a0 a1 m = some (v, m')) : ExM (d + 2) fm_X12_release [(22, a0), (0, a1)] m (.inl (0, v)) m' := by
  exact ExM.of (by decide +kernel) (Nat.le_of_ble_eq_true rfl) (cat9 rfl) retI (e_X12_release_0 d h)
theorem dX12_versions_0 : decode cX12_versions 0 = .ok (.aload_n 0, 1) := by decide +kernel
theorem dX12_versions_1 : decode cX12_versions 1 = .ok (.iload_n 1, 1) := by decide +kernel
theorem dX12_versions_2 : decode cX12_versions 2 = .ok (.invokestatic 188, 3) := by decide +kernel
theorem dX12_versions_5 : decode cX12_versions 5 = .ok (.ifCond .eq 7, 3) := by decide +kernel
theorem dX12_versions_8 : decode cX12_versions 8 = .ok (.iconst 0, 1) := by decide +kernel
theorem dX12_versions_9 : decode cX12_versions 9 = .ok (.goto 4, 3) := by decide +kernel
theorem dX12_versions_12 : decode cX12_versions 12 = .ok (.iconst 1, 1) := by decide +kernel
theorem dX12_versions_13 : decode cX12_versions 13 = .ok (.invokevirtual 198, 3) := by decide +kernel
theorem dX12_versions_16 : decode cX12_versions 16 = .ok (.ifCond .eq 12, 3) := by decide +kernel
theorem dX12_versions_19 : decode cX12_versions 19 = .ok (.aload_n 0, 1) := by decide +kernel
theorem dX12_versions_20 : decode cX12_versions 20 = .ok (.getfield 22, 3) := by decide +kernel
theorem dX12_versions_23 : decode cX12_versions 23 = .ok (.iload_n 1, 1) := by decide +kernel
theorem dX12_versions_24 : decode cX12_versions 24 = .ok (.iaload, 1) := by decide +kernel
theorem dX12_versions_25 : decode cX12_versions 25 = .ok (.goto 4, 3) := by decide +kernel
theorem dX12_versions_28 : decode cX12_versions 28 = .ok (.iconst 0, 1) := by decide +kernel
theorem dX12_versions_29 : decode cX12_versions 29 = .ok (.ireturn, 1) := by decide +kernel
theorem e_X12_versions_13 (d : Nat) {l0 l1 s0 s1 : Int} {m : Mem} {v : Int} {m' : Mem} (h : X12_versions_13 l0 l1 s0 s1 m = some (v, m')) : Ex (d + 2) fm_X12_versions 13 [(22, l0), (0, l1)] [(0, s0), (22, s1)] m (.inl (0, v)) m' := by
  unfold X12_versions_13 at h
  obtain ⟨c1, h⟩ := chk_some h
  obtain ⟨v2, m3, g4, h⟩ := cal_some h
  refine cV1 (e_X12_isFine (d + 1) g4) (contN (by decide) (?_ : Ex _ _ 16 _ _ _ _ _)) og_X12_isFine rfl ml_RX12_198 12 rfl rfl c1 im_X12_isFine se_X12_isFine (Nat.le_of_ble_eq_true rfl) dX12_versions_13
  rcases ite_some h with ⟨b5, h⟩ | ⟨b5, h⟩
  · refine x_if_eq (tgt := 28) dX12_versions_16 rfl b5 (?_ : Ex _ _ 28 _ _ _ _ _)
    refine x_iconst dX12_versions_28 rfl (by decide) (?_ : Ex _ _ 29 _ _ _ _ _)
    cases h
    exact x_ret dX12_versions_29 (by decide : (0 : Int) ≠ 3)
  · refine x_if_eqN dX12_versions_16 (by decide) b5 (?_ : Ex _ _ 19 _ _ _ _ _)
    refine x_aload_n dX12_versions_19 rfl rfl (Or.inr (by decide)) (?_ : Ex _ _ 20 _ _ _ _ _)
    obtain ⟨c6, h⟩ := chk_some h
    refine gt_12_6 c6 fl_RX12_22 dX12_versions_20 (?_ : Ex _ _ 23 _ _ _ _ _)
    refine x_iload_n dX12_versions_23 rfl rfl (?_ : Ex _ _ 24 _ _ _ _ _)
    obtain ⟨⟨c7, c8, c9⟩, h⟩ := chk_some h
    refine ld_i_3 c7 c8 c9 dX12_versions_24 (?_ : Ex _ _ 25 _ _ _ _ _)
    refine x_goto (tgt := 29) dX12_versions_25 rfl (?_ : Ex _ _ 29 _ _ _ _ _)
    cases h
    exact x_ret dX12_versions_29 (by decide : (0 : Int) ≠ 3)
theorem e_X12_versions_0 (d : Nat) {l0 l1 : Int} {m : Mem} {v : Int} {m' : Mem} (h : X12_versions_0 l0 l1 m = some (v, m')) : Ex (d + 2) fm_X12_versions 0 [(22, l0), (0, l1)] [] m (.inl (0, v)) m' := by
  unfold X12_versions_0 at h
  refine x_aload_n dX12_versions_0 rfl rfl (Or.inr (by decide)) (?_ : Ex _ _ 1 _ _ _ _ _)
  refine x_iload_n dX12_versions_1 rfl rfl (?_ : Ex _ _ 2 _ _ _ _ _)
  obtain ⟨v1, m2, g3, h⟩ := cal_some h
  refine cS1 (e_X12_isType d g3) (contN (by decide) (?_ : Ex _ _ 5 _ _ _ _ _)) og_X12_isType rfl ml_RX12_188 sm_X12_isType (Nat.le_of_ble_eq_true rfl) dX12_versions_2
  rcases ite_some h with ⟨b4, h⟩ | ⟨b4, h⟩
  · refine x_if_eq (tgt := 12) dX12_versions_5 rfl b4 (?_ : Ex _ _ 12 _ _ _ _ _)
    refine x_iconst dX12_versions_12 rfl (by decide) (?_ : Ex _ _ 13 _ _ _ _ _)
    exact e_X12_versions_13 d h
  · refine x_if_eqN dX12_versions_5 (by decide) b4 (?_ : Ex _ _ 8 _ _ _ _ _)
    refine x_iconst dX12_versions_8 rfl (by decide) (?_ : Ex _ _ 9 _ _ _ _ _)
    refine x_goto (tgt := 13) dX12_versions_9 rfl (?_ : Ex _ _ 13 _ _ _ _ _)
    exact e_X12_versions_13 d h
theorem e_X12_versions (d : Nat) {a0 a1 : Int} {m : Mem} {v : Int} {m' : Mem} (h : X12_versions a0 a1 m = some (v, m')) : ExM (d + 2) fm_X12_versions [(22, a0), (0, a1)] m (.inl (0, v)) m' := by
  exact ExM.of (by decide +kernel) (Nat.le_of_ble_eq_true rfl) (cat9 rfl) retI (e_X12_versions_0 d h)
theorem dX12_rowOfRun_0 : decode cX12_rowOfRun 0 = .ok (.bipush 9, 2) := by decide +kernel
theorem dX12_rowOfRun_2 : decode cX12_rowOfRun 2 = .ok (.iload_n 1, 1) := by decide +kernel
theorem dX12_rowOfRun_3 : decode cX12_rowOfRun 3 = .ok (.imul, 1) := by decide +kernel
theorem dX12_rowOfRun_4 : decode cX12_rowOfRun 4 = .ok (.aload_n 0, 1) := by decide +kernel
theorem dX12_rowOfRun_5 : decode cX12_rowOfRun 5 = .ok (.getfield 40, 3) := by decide +kernel
theorem dX12_rowOfRun_8 : decode cX12_rowOfRun 8 = .ok (.iload_n 1, 1) := by decide +kernel
theorem dX12_rowOfRun_9 : decode cX12_rowOfRun 9 = .ok (.iaload, 1) := by decide +kernel
theorem dX12_rowOfRun_10 : decode cX12_rowOfRun 10 = .ok (.iadd, 1) := by decide +kernel
theorem dX12_rowOfRun_11 : decode cX12_rowOfRun 11 = .ok (.iconst 1, 1) := by decide +kernel
theorem dX12_rowOfRun_12 : decode cX12_rowOfRun 12 = .ok (.isub, 1) := by decide +kernel
theorem dX12_rowOfRun_13 : decode cX12_rowOfRun 13 = .ok (.ireturn, 1) := by decide +kernel
theorem e_X12_rowOfRun_0 (d : Nat) {l0 l1 : Int} {m : Mem} {v : Int} {m' : Mem} (h : X12_rowOfRun_0 l0 l1 m = some (v, m')) : Ex d fm_X12_rowOfRun 0 [(22, l0), (0, l1)] [] m (.inl (0, v)) m' := by
  unfold X12_rowOfRun_0 at h
  refine x_bipush dX12_rowOfRun_0 kb_9 (by decide) (?_ : Ex _ _ 2 _ _ _ _ _)
  refine x_iload_n dX12_rowOfRun_2 rfl rfl (?_ : Ex _ _ 3 _ _ _ _ _)
  obtain ⟨c1, h⟩ := chk_some h
  refine x_imul dX12_rowOfRun_3 c1 (?_ : Ex _ _ 4 _ _ _ _ _)
  refine x_aload_n dX12_rowOfRun_4 rfl rfl (Or.inr (by decide)) (?_ : Ex _ _ 5 _ _ _ _ _)
  obtain ⟨c2, h⟩ := chk_some h
  refine gt_12_12 c2 fl_RX12_40 dX12_rowOfRun_5 (?_ : Ex _ _ 8 _ _ _ _ _)
  refine x_iload_n dX12_rowOfRun_8 rfl rfl (?_ : Ex _ _ 9 _ _ _ _ _)
  obtain ⟨⟨c3, c4, c5⟩, h⟩ := chk_some h
  refine ld_i_10 c3 c4 c5 dX12_rowOfRun_9 (?_ : Ex _ _ 10 _ _ _ _ _)
  obtain ⟨c6, h⟩ := chk_some h
  refine x_iadd dX12_rowOfRun_10 c6 (?_ : Ex _ _ 11 _ _ _ _ _)
  refine x_iconst dX12_rowOfRun_11 rfl (by decide) (?_ : Ex _ _ 12 _ _ _ _ _)
  obtain ⟨c7, h⟩ := chk_some h
  refine x_isub dX12_rowOfRun_12 c7 (?_ : Ex _ _ 13 _ _ _ _ _)
  cases h
  exact x_ret dX12_rowOfRun_13 (by decide : (0 : Int) ≠ 3)
theorem e_X12_rowOfRun (d : Nat) {a0 a1 : Int} {m : Mem} {v : Int} {m' : Mem} (h : X12_rowOfRun a0 a1 m = some (v, m')) : ExM d fm_X12_rowOfRun [(22, a0), (0, a1)] m (.inl (0, v)) m' := by
  exact ExM.of (by decide +kernel) (Nat.le_of_ble_eq_true rfl) (cat9 rfl) retI (e_X12_rowOfRun_0 d h)
theorem dX12_isRunning_0 : decode cX12_isRunning 0 = .ok (.aload_n 0, 1) := by decide +kernel
theorem dX12_isRunning_1 : decode cX12_isRunning 1 = .ok (.getfield 52, 3) := by decide +kernel
theorem dX12_isRunning_4 : decode cX12_isRunning 4 = .ok (.aload_n 0, 1) := by decide +kernel
theorem dX12_isRunning_5 : decode cX12_isRunning 5 = .ok (.iload_n 1, 1) := by decide +kernel
theorem dX12_isRunning_6 : decode cX12_isRunning 6 = .ok (.invokevirtual 205, 3) := by decide +kernel
theorem dX12_isRunning_9 : decode cX12_isRunning 9 = .ok (.iaload, 1) := by decide +kernel
theorem dX12_isRunning_10 : decode cX12_isRunning 10 = .ok (.bipush 20, 2) := by decide +kernel
theorem dX12_isRunning_12 : decode cX12_isRunning 12 = .ok (.if_icmp .ne 7, 3) := by decide +kernel
theorem dX12_isRunning_15 : decode cX12_isRunning 15 = .ok (.iconst 1, 1) := by decide +kernel
theorem dX12_isRunning_16 : decode cX12_isRunning 16 = .ok (.goto 4, 3) := by decide +kernel
theorem dX12_isRunning_19 : decode cX12_isRunning 19 = .ok (.iconst 0, 1) := by decide +kernel
theorem dX12_isRunning_20 : decode cX12_isRunning 20 = .ok (.ireturn, 1) := by decide +kernel
theorem e_X12_isRunning_0 (d : Nat) {l0 l1 : Int} {m : Mem} {v : Int} {m' : Mem} (h : X12_isRunning_0 l0 l1 m = some (v, m')) : Ex (d + 1) fm_X12_isRunning 0 [(22, l0), (0, l1)] [] m (.inl (0, v)) m' := by
  unfold X12_isRunning_0 at h
  refine x_aload_n dX12_isRunning_0 rfl rfl (Or.inr (by decide)) (?_ : Ex _ _ 1 _ _ _ _ _)
  obtain ⟨c1, h⟩ := chk_some h
  refine gt_12_17 c1 fl_RX12_52 dX12_isRunning_1 (?_ : Ex _ _ 4 _ _ _ _ _)
  refine x_aload_n dX12_isRunning_4 rfl rfl (Or.inr (by decide)) (?_ : Ex _ _ 5 _ _ _ _ _)
  refine x_iload_n dX12_isRunning_5 rfl rfl (?_ : Ex _ _ 6 _ _ _ _ _)
  obtain ⟨v2, m3, g4, h⟩ := cal_some h
  refine cV1 (e_X12_rowOfRun d g4) (contN (by decide) (?_ : Ex _ _ 9 _ _ _ _ _)) og_X12_rowOfRun rfl ml_RX12_205 12 rfl rfl c1 im_X12_rowOfRun se_X12_rowOfRun (Nat.le_of_ble_eq_true rfl) dX12_isRunning_6
  obtain ⟨⟨c5, c6, c7⟩, h⟩ := chk_some h
  refine ld_i_90 c5 c6 c7 dX12_isRunning_9 (?_ : Ex _ _ 10 _ _ _ _ _)
  refine x_bipush dX12_isRunning_10 kb_20 (by decide) (?_ : Ex _ _ 12 _ _ _ _ _)
  rcases ite_some h with ⟨b8, h⟩ | ⟨b8, h⟩
  · refine x_icmp_neN dX12_isRunning_12 (by decide) (fun hh => hh b8) (?_ : Ex _ _ 15 _ _ _ _ _)
    refine x_iconst dX12_isRunning_15 rfl (by decide) (?_ : Ex _ _ 16 _ _ _ _ _)
    refine x_goto (tgt := 20) dX12_isRunning_16 rfl (?_ : Ex _ _ 20 _ _ _ _ _)
    cases h
    exact x_ret dX12_isRunning_20 (by decide : (0 : Int) ≠ 3)
  · refine x_icmp_ne (tgt := 19) dX12_isRunning_12 rfl b8 (?_ : Ex _ _ 19 _ _ _ _ _)
    refine x_iconst dX12_isRunning_19 rfl (by decide) (?_ : Ex _ _ 20 _ _ _ _ _)
    cases h
    exact x_ret dX12_isRunning_20 (by decide : (0 : Int) ≠ 3)
theorem e_X12_isRunning (d : Nat) {a0 a1 : Int} {m : Mem} {v : Int} {m' : Mem} (h : X12_isRunning a0 a1 m = some (v, m')) : ExM (d + 1) fm_X12_isRunning [(22, a0), (0, a1)] m (.inl (0, v)) m' := by
  obtain ⟨hb, h⟩ := boolR_some h
  exact ExM.of (by decide +kernel) (Nat.le_of_ble_eq_true rfl) (cat9 rfl) (retZ hb) (e_X12_isRunning_0 d h)
theorem dX12_writes_0 : decode cX12_writes 0 = .ok (.aload_n 0, 1) := by decide +kernel
theorem dX12_writes_1 : decode cX12_writes 1 = .ok (.iload_n 1, 1) := by decide +kernel
theorem dX12_writes_2 : decode cX12_writes 2 = .ok (.invokevirtual 205, 3) := by decide +kernel
theorem dX12_writes_5 : decode cX12_writes 5 = .ok (.istore 5, 2) := by decide +kernel
theorem dX12_writes_7 : decode cX12_writes 7 = .ok (.aload_n 0, 1) := by decide +kernel
theorem dX12_writes_8 : decode cX12_writes 8 = .ok (.getfield 58, 3) := by decide +kernel
theorem dX12_writes_11 : decode cX12_writes 11 = .ok (.bipush 80, 2) := by decide +kernel
theorem dX12_writes_13 : decode cX12_writes 13 = .ok (.iload 5, 2) := by decide +kernel
theorem dX12_writes_15 : decode cX12_writes 15 = .ok (.imul, 1) := by decide +kernel
theorem dX12_writes_16 : decode cX12_writes 16 = .ok (.aload_n 0, 1) := by decide +kernel
theorem dX12_writes_17 : decode cX12_writes 17 = .ok (.getfield 55, 3) := by decide +kernel
theorem dX12_writes_20 : decode cX12_writes 20 = .ok (.iload 5, 2) := by decide +kernel
theorem dX12_writes_22 : decode cX12_writes 22 = .ok (.iaload, 1) := by decide +kernel
theorem dX12_writes_23 : decode cX12_writes 23 = .ok (.iadd, 1) := by decide +kernel
theorem dX12_writes_24 : decode cX12_writes 24 = .ok (.iload_n 2, 1) := by decide +kernel
theorem dX12_writes_25 : decode cX12_writes 25 = .ok (.iastore, 1) := by decide +kernel
theorem dX12_writes_26 : decode cX12_writes 26 = .ok (.aload_n 0, 1) := by decide +kernel
theorem dX12_writes_27 : decode cX12_writes 27 = .ok (.getfield 61, 3) := by decide +kernel
theorem dX12_writes_30 : decode cX12_writes 30 = .ok (.bipush 80, 2) := by decide +kernel
theorem dX12_writes_32 : decode cX12_writes 32 = .ok (.iload 5, 2) := by decide +kernel
theorem dX12_writes_34 : decode cX12_writes 34 = .ok (.imul, 1) := by decide +kernel
theorem dX12_writes_35 : decode cX12_writes 35 = .ok (.aload_n 0, 1) := by decide +kernel
theorem dX12_writes_36 : decode cX12_writes 36 = .ok (.getfield 55, 3) := by decide +kernel
theorem dX12_writes_39 : decode cX12_writes 39 = .ok (.iload 5, 2) := by decide +kernel
theorem dX12_writes_41 : decode cX12_writes 41 = .ok (.iaload, 1) := by decide +kernel
theorem dX12_writes_42 : decode cX12_writes 42 = .ok (.iadd, 1) := by decide +kernel
theorem dX12_writes_43 : decode cX12_writes 43 = .ok (.iload_n 3, 1) := by decide +kernel
theorem dX12_writes_44 : decode cX12_writes 44 = .ok (.iastore, 1) := by decide +kernel
theorem dX12_writes_45 : decode cX12_writes 45 = .ok (.aload_n 0, 1) := by decide +kernel
theorem dX12_writes_46 : decode cX12_writes 46 = .ok (.getfield 64, 3) := by decide +kernel
theorem dX12_writes_49 : decode cX12_writes 49 = .ok (.bipush 80, 2) := by decide +kernel
theorem dX12_writes_51 : decode cX12_writes 51 = .ok (.iload 5, 2) := by decide +kernel
theorem dX12_writes_53 : decode cX12_writes 53 = .ok (.imul, 1) := by decide +kernel
theorem dX12_writes_54 : decode cX12_writes 54 = .ok (.aload_n 0, 1) := by decide +kernel
theorem dX12_writes_55 : decode cX12_writes 55 = .ok (.getfield 55, 3) := by decide +kernel
theorem dX12_writes_58 : decode cX12_writes 58 = .ok (.iload 5, 2) := by decide +kernel
theorem dX12_writes_60 : decode cX12_writes 60 = .ok (.iaload, 1) := by decide +kernel
theorem dX12_writes_61 : decode cX12_writes 61 = .ok (.iadd, 1) := by decide +kernel
theorem dX12_writes_62 : decode cX12_writes 62 = .ok (.iload 4, 2) := by decide +kernel
theorem dX12_writes_64 : decode cX12_writes 64 = .ok (.iastore, 1) := by decide +kernel
theorem dX12_writes_65 : decode cX12_writes 65 = .ok (.aload_n 0, 1) := by decide +kernel
theorem dX12_writes_66 : decode cX12_writes 66 = .ok (.getfield 55, 3) := by decide +kernel
theorem dX12_writes_69 : decode cX12_writes 69 = .ok (.iload 5, 2) := by decide +kernel
theorem dX12_writes_71 : decode cX12_writes 71 = .ok (.dup2, 1) := by decide +kernel
theorem dX12_writes_72 : decode cX12_writes 72 = .ok (.iaload, 1) := by decide +kernel
theorem dX12_writes_73 : decode cX12_writes 73 = .ok (.iconst 1, 1) := by decide +kernel
theorem dX12_writes_74 : decode cX12_writes 74 = .ok (.iadd, 1) := by decide +kernel
theorem dX12_writes_75 : decode cX12_writes 75 = .ok (.iastore, 1) := by decide +kernel
theorem dX12_writes_76 : decode cX12_writes 76 = .ok (.return_, 1) := by decide +kernel
theorem e_X12_writes_0 (d : Nat) {l0 l1 l2 l3 l4 : Int} {m : Mem} {v : Int} {m' : Mem} (h : X12_writes_0 l0 l1 l2 l3 l4 m = some (v, m')) : Ex (d + 1) fm_X12_writes 0 [(22, l0), (0, l1), (0, l2), (0, l3), (0, l4), (3, 0)] [] m (.inl (3, 0)) m' := by
  unfold X12_writes_0 at h
  refine x_aload_n dX12_writes_0 rfl rfl (Or.inr (by decide)) (?_ : Ex _ _ 1 _ _ _ _ _)
  refine x_iload_n dX12_writes_1 rfl rfl (?_ : Ex _ _ 2 _ _ _ _ _)
  obtain ⟨c1, h⟩ := chk_some h
  obtain ⟨v2, m3, g4, h⟩ := cal_some h
  refine cV1 (e_X12_rowOfRun d g4) (contN (by decide) (?_ : Ex _ _ 5 _ _ _ _ _)) og_X12_rowOfRun rfl ml_RX12_205 12 rfl rfl c1 im_X12_rowOfRun se_X12_rowOfRun (Nat.le_of_ble_eq_true rfl) dX12_writes_2
  refine x_istore (ls2 := [(22, l0), (0, l1), (0, l2), (0, l3), (0, l4), (0, v2)]) dX12_writes_5 (Nat.le_of_ble_eq_true rfl) rfl (?_ : Ex _ _ 7 _ _ _ _ _)
  refine x_aload_n dX12_writes_7 rfl rfl (Or.inr (by decide)) (?_ : Ex _ _ 8 _ _ _ _ _)
  refine gt_12_19 c1 fl_RX12_58 dX12_writes_8 (?_ : Ex _ _ 11 _ _ _ _ _)
  refine x_bipush dX12_writes_11 kb_80 (by decide) (?_ : Ex _ _ 13 _ _ _ _ _)
  refine x_iload dX12_writes_13 rfl (?_ : Ex _ _ 15 _ _ _ _ _)
  obtain ⟨c5, h⟩ := chk_some h
  refine x_imul dX12_writes_15 c5 (?_ : Ex _ _ 16 _ _ _ _ _)
  refine x_aload_n dX12_writes_16 rfl rfl (Or.inr (by decide)) (?_ : Ex _ _ 17 _ _ _ _ _)
  refine gt_12_18 c1 fl_RX12_55 dX12_writes_17 (?_ : Ex _ _ 20 _ _ _ _ _)
  refine x_iload dX12_writes_20 rfl (?_ : Ex _ _ 22 _ _ _ _ _)
  obtain ⟨⟨c6, c7, c8⟩, h⟩ := chk_some h
  refine ld_i_90 c6 c7 c8 dX12_writes_22 (?_ : Ex _ _ 23 _ _ _ _ _)
  obtain ⟨c9, h⟩ := chk_some h
  refine x_iadd dX12_writes_23 c9 (?_ : Ex _ _ 24 _ _ _ _ _)
  refine x_iload_n dX12_writes_24 rfl rfl (?_ : Ex _ _ 25 _ _ _ _ _)
  obtain ⟨⟨c10, c11, c12⟩, h⟩ := chk_some h
  obtain ⟨m13, hm13, h⟩ := st_some h
  refine sd_i_7200 c10 c11 c12 dX12_writes_25 (?_ : Ex _ _ 26 _ _ _ _ _)
  rw [← hm13]
  refine x_aload_n dX12_writes_26 rfl rfl (Or.inr (by decide)) (?_ : Ex _ _ 27 _ _ _ _ _)
  refine gt_12_20 c1 fl_RX12_61 dX12_writes_27 (?_ : Ex _ _ 30 _ _ _ _ _)
  refine x_bipush dX12_writes_30 kb_80 (by decide) (?_ : Ex _ _ 32 _ _ _ _ _)
  refine x_iload dX12_writes_32 rfl (?_ : Ex _ _ 34 _ _ _ _ _)
  obtain ⟨c14, h⟩ := chk_some h
  refine x_imul dX12_writes_34 c14 (?_ : Ex _ _ 35 _ _ _ _ _)
  refine x_aload_n dX12_writes_35 rfl rfl (Or.inr (by decide)) (?_ : Ex _ _ 36 _ _ _ _ _)
  refine gt_12_18 c1 fl_RX12_55 dX12_writes_36 (?_ : Ex _ _ 39 _ _ _ _ _)
  refine x_iload dX12_writes_39 rfl (?_ : Ex _ _ 41 _ _ _ _ _)
  obtain ⟨⟨c15, c16, c17⟩, h⟩ := chk_some h
  refine ld_i_90 c15 c16 c17 dX12_writes_41 (?_ : Ex _ _ 42 _ _ _ _ _)
  obtain ⟨c18, h⟩ := chk_some h
  refine x_iadd dX12_writes_42 c18 (?_ : Ex _ _ 43 _ _ _ _ _)
  refine x_iload_n dX12_writes_43 rfl rfl (?_ : Ex _ _ 44 _ _ _ _ _)
  obtain ⟨⟨c19, c20, c21⟩, h⟩ := chk_some h
  obtain ⟨m22, hm22, h⟩ := st_some h
  refine sd_i_7200 c19 c20 c21 dX12_writes_44 (?_ : Ex _ _ 45 _ _ _ _ _)
  rw [← hm22]
  refine x_aload_n dX12_writes_45 rfl rfl (Or.inr (by decide)) (?_ : Ex _ _ 46 _ _ _ _ _)
  refine gt_12_21 c1 fl_RX12_64 dX12_writes_46 (?_ : Ex _ _ 49 _ _ _ _ _)
  refine x_bipush dX12_writes_49 kb_80 (by decide) (?_ : Ex _ _ 51 _ _ _ _ _)
  refine x_iload dX12_writes_51 rfl (?_ : Ex _ _ 53 _ _ _ _ _)
  obtain ⟨c23, h⟩ := chk_some h
  refine x_imul dX12_writes_53 c23 (?_ : Ex _ _ 54 _ _ _ _ _)
  refine x_aload_n dX12_writes_54 rfl rfl (Or.inr (by decide)) (?_ : Ex _ _ 55 _ _ _ _ _)
  refine gt_12_18 c1 fl_RX12_55 dX12_writes_55 (?_ : Ex _ _ 58 _ _ _ _ _)
  refine x_iload dX12_writes_58 rfl (?_ : Ex _ _ 60 _ _ _ _ _)
  obtain ⟨⟨c24, c25, c26⟩, h⟩ := chk_some h
  refine ld_i_90 c24 c25 c26 dX12_writes_60 (?_ : Ex _ _ 61 _ _ _ _ _)
  obtain ⟨c27, h⟩ := chk_some h
  refine x_iadd dX12_writes_61 c27 (?_ : Ex _ _ 62 _ _ _ _ _)
  refine x_iload dX12_writes_62 rfl (?_ : Ex _ _ 64 _ _ _ _ _)
  obtain ⟨⟨c28, c29, c30⟩, h⟩ := chk_some h
  obtain ⟨m31, hm31, h⟩ := st_some h
  refine sd_i_7200 c28 c29 c30 dX12_writes_64 (?_ : Ex _ _ 65 _ _ _ _ _)
  rw [← hm31]
  refine x_aload_n dX12_writes_65 rfl rfl (Or.inr (by decide)) (?_ : Ex _ _ 66 _ _ _ _ _)
  refine gt_12_18 c1 fl_RX12_55 dX12_writes_66 (?_ : Ex _ _ 69 _ _ _ _ _)
  refine x_iload dX12_writes_69 rfl (?_ : Ex _ _ 71 _ _ _ _ _)
  refine x_dup2 (by decide : (0 : Int) ≠ 2) (by decide : (100090 : Int) ≠ 2) dX12_writes_71 (?_ : Ex _ _ 72 _ _ _ _ _)
  obtain ⟨⟨c32, c33, c34⟩, h⟩ := chk_some h
  refine ld_i_90 c32 c33 c34 dX12_writes_72 (?_ : Ex _ _ 73 _ _ _ _ _)
  refine x_iconst dX12_writes_73 rfl (by decide) (?_ : Ex _ _ 74 _ _ _ _ _)
  obtain ⟨c35, h⟩ := chk_some h
  refine x_iadd dX12_writes_74 c35 (?_ : Ex _ _ 75 _ _ _ _ _)
  obtain ⟨⟨c36, c37⟩, h⟩ := chk_some h
  obtain ⟨m38, hm38, h⟩ := st_some h
  refine sd_i_90 c32 c36 c37 dX12_writes_75 (?_ : Ex _ _ 76 _ _ _ _ _)
  rw [← hm38]
  cases h
  exact x_retv dX12_writes_76
theorem e_X12_writes (d : Nat) {a0 a1 a2 a3 a4 : Int} {m : Mem} {v : Int} {m' : Mem} (h : X12_writes a0 a1 a2 a3 a4 m = some (v, m')) : ExM (d + 1) fm_X12_writes [(22, a0), (0, a1), (0, a2), (0, a3), (0, a4)] m (.inl (3, 0)) m' := by
  exact ExM.of (by decide +kernel) (Nat.le_of_ble_eq_true rfl) (cat9 rfl) retV (e_X12_writes_0 d h)
theorem dX12_happens_0 : decode cX12_happens 0 = .ok (.aload_n 0, 1) := by decide +kernel
theorem dX12_happens_1 : decode cX12_happens 1 = .ok (.iload_n 1, 1) := by decide +kernel
theorem dX12_happens_2 : decode cX12_happens 2 = .ok (.invokevirtual 209, 3) := by decide +kernel
theorem dX12_happens_5 : decode cX12_happens 5 = .ok (.ifCond .eq 22, 3) := by decide +kernel
theorem dX12_happens_8 : decode cX12_happens 8 = .ok (.aload_n 0, 1) := by decide +kernel
theorem dX12_happens_9 : decode cX12_happens 9 = .ok (.getfield 55, 3) := by decide +kernel
theorem dX12_happens_12 : decode cX12_happens 12 = .ok (.aload_n 0, 1) := by decide +kernel
theorem dX12_happens_13 : decode cX12_happens 13 = .ok (.iload_n 1, 1) := by decide +kernel
theorem dX12_happens_14 : decode cX12_happens 14 = .ok (.invokevirtual 205, 3) := by decide +kernel
theorem dX12_happens_17 : decode cX12_happens 17 = .ok (.iaload, 1) := by decide +kernel
theorem dX12_happens_18 : decode cX12_happens 18 = .ok (.bipush 78, 2) := by decide +kernel
theorem dX12_happens_20 : decode cX12_happens 20 = .ok (.if_icmp .ge 7, 3) := by decide +kernel
theorem dX12_happens_23 : decode cX12_happens 23 = .ok (.iconst 1, 1) := by decide +kernel
theorem dX12_happens_24 : decode cX12_happens 24 = .ok (.goto 4, 3) := by decide +kernel
theorem dX12_happens_27 : decode cX12_happens 27 = .ok (.iconst 0, 1) := by decide +kernel
theorem dX12_happens_28 : decode cX12_happens 28 = .ok (.istore 5, 2) := by decide +kernel
theorem dX12_happens_30 : decode cX12_happens 30 = .ok (.iload 5, 2) := by decide +kernel
theorem dX12_happens_32 : decode cX12_happens 32 = .ok (.ifCond .eq 12, 3) := by decide +kernel
theorem dX12_happens_35 : decode cX12_happens 35 = .ok (.aload_n 0, 1) := by decide +kernel
theorem dX12_happens_36 : decode cX12_happens 36 = .ok (.iload_n 1, 1) := by decide +kernel
theorem dX12_happens_37 : decode cX12_happens 37 = .ok (.iload_n 2, 1) := by decide +kernel
theorem dX12_happens_38 : decode cX12_happens 38 = .ok (.iload_n 3, 1) := by decide +kernel
theorem dX12_happens_39 : decode cX12_happens 39 = .ok (.iload 4, 2) := by decide +kernel
theorem dX12_happens_41 : decode cX12_happens 41 = .ok (.invokevirtual 212, 3) := by decide +kernel
theorem dX12_happens_44 : decode cX12_happens 44 = .ok (.iload 5, 2) := by decide +kernel
theorem dX12_happens_46 : decode cX12_happens 46 = .ok (.ireturn, 1) := by decide +kernel
theorem e_X12_happens_28 (d : Nat) {l0 l1 l2 l3 l4 s0 : Int} {m : Mem} {v : Int} {m' : Mem} (h : X12_happens_28 l0 l1 l2 l3 l4 s0 m = some (v, m')) : Ex (d + 2) fm_X12_happens 28 [(22, l0), (0, l1), (0, l2), (0, l3), (0, l4), (3, 0)] [(0, s0)] m (.inl (0, v)) m' := by
  unfold X12_happens_28 at h
  refine x_istore (ls2 := [(22, l0), (0, l1), (0, l2), (0, l3), (0, l4), (0, s0)]) dX12_happens_28 (Nat.le_of_ble_eq_true rfl) rfl (?_ : Ex _ _ 30 _ _ _ _ _)
  refine x_iload dX12_happens_30 rfl (?_ : Ex _ _ 32 _ _ _ _ _)
  rcases ite_some h with ⟨b1, h⟩ | ⟨b1, h⟩
  · refine x_if_eq (tgt := 44) dX12_happens_32 rfl b1 (?_ : Ex _ _ 44 _ _ _ _ _)
    refine x_iload dX12_happens_44 rfl (?_ : Ex _ _ 46 _ _ _ _ _)
    cases h
    exact x_ret dX12_happens_46 (by decide : (0 : Int) ≠ 3)
  · refine x_if_eqN dX12_happens_32 (by decide) b1 (?_ : Ex _ _ 35 _ _ _ _ _)
    refine x_aload_n dX12_happens_35 rfl rfl (Or.inr (by decide)) (?_ : Ex _ _ 36 _ _ _ _ _)
    refine x_iload_n dX12_happens_36 rfl rfl (?_ : Ex _ _ 37 _ _ _ _ _)
    refine x_iload_n dX12_happens_37 rfl rfl (?_ : Ex _ _ 38 _ _ _ _ _)
    refine x_iload_n dX12_happens_38 rfl rfl (?_ : Ex _ _ 39 _ _ _ _ _)
    refine x_iload dX12_happens_39 rfl (?_ : Ex _ _ 41 _ _ _ _ _)
    obtain ⟨c2, h⟩ := chk_some h
    obtain ⟨v3, m4, g5, h⟩ := cal_some h
    refine cV4 (e_X12_writes d g5) (contV (?_ : Ex _ _ 44 _ _ _ _ _)) og_X12_writes rfl ml_RX12_212 12 rfl rfl c2 im_X12_writes se_X12_writes (Nat.le_of_ble_eq_true rfl) dX12_happens_41
    refine x_iload dX12_happens_44 rfl (?_ : Ex _ _ 46 _ _ _ _ _)
    cases h
    exact x_ret dX12_happens_46 (by decide : (0 : Int) ≠ 3)
theorem e_X12_happens_0 (d : Nat) {l0 l1 l2 l3 l4 : Int} {m : Mem} {v : Int} {m' : Mem} (h : X12_happens_0 l0 l1 l2 l3 l4 m = some (v, m')) : Ex (d + 2) fm_X12_happens 0 [(22, l0), (0, l1), (0, l2), (0, l3), (0, l4), (3, 0)] [] m (.inl (0, v)) m' := by
  unfold X12_happens_0 at h
  refine x_aload_n dX12_happens_0 rfl rfl (Or.inr (by decide)) (?_ : Ex _ _ 1 _ _ _ _ _)
  refine x_iload_n dX12_happens_1 rfl rfl (?_ : Ex _ _ 2 _ _ _ _ _)
  obtain ⟨c1, h⟩ := chk_some h
  obtain ⟨v2, m3, g4, h⟩ := cal_some h
  refine cV1 (e_X12_isRunning d g4) (contN (by decide) (?_ : Ex _ _ 5 _ _ _ _ _)) og_X12_isRunning rfl ml_RX12_209 12 rfl rfl c1 im_X12_isRunning se_X12_isRunning (Nat.le_of_ble_eq_true rfl) dX12_happens_2
  rcases ite_some h with ⟨b5, h⟩ | ⟨b5, h⟩
  · refine x_if_eq (tgt := 27) dX12_happens_5 rfl b5 (?_ : Ex _ _ 27 _ _ _ _ _)
    refine x_iconst dX12_happens_27 rfl (by decide) (?_ : Ex _ _ 28 _ _ _ _ _)
    exact e_X12_happens_28 d h
  · refine x_if_eqN dX12_happens_5 (by decide) b5 (?_ : Ex _ _ 8 _ _ _ _ _)
    refine x_aload_n dX12_happens_8 rfl rfl (Or.inr (by decide)) (?_ : Ex _ _ 9 _ _ _ _ _)
    refine gt_12_18 c1 fl_RX12_55 dX12_happens_9 (?_ : Ex _ _ 12 _ _ _ _ _)
    refine x_aload_n dX12_happens_12 rfl rfl (Or.inr (by decide)) (?_ : Ex _ _ 13 _ _ _ _ _)
    refine x_iload_n dX12_happens_13 rfl rfl (?_ : Ex _ _ 14 _ _ _ _ _)
    obtain ⟨v6, m7, g8, h⟩ := cal_some h
    refine cV1 (e_X12_rowOfRun (d + 1) g8) (contN (by decide) (?_ : Ex _ _ 17 _ _ _ _ _)) og_X12_rowOfRun rfl ml_RX12_205 12 rfl rfl c1 im_X12_rowOfRun se_X12_rowOfRun (Nat.le_of_ble_eq_true rfl) dX12_happens_14
    obtain ⟨⟨c9, c10, c11⟩, h⟩ := chk_some h
    refine ld_i_90 c9 c10 c11 dX12_happens_17 (?_ : Ex _ _ 18 _ _ _ _ _)
    refine x_bipush dX12_happens_18 kb_78 (by decide) (?_ : Ex _ _ 20 _ _ _ _ _)
    rcases ite_some h with ⟨b12, h⟩ | ⟨b12, h⟩
    · refine x_icmp_ge (tgt := 27) dX12_happens_20 rfl b12 (?_ : Ex _ _ 27 _ _ _ _ _)
      refine x_iconst dX12_happens_27 rfl (by decide) (?_ : Ex _ _ 28 _ _ _ _ _)
      exact e_X12_happens_28 d h
    · refine x_icmp_geN dX12_happens_20 (by decide) b12 (?_ : Ex _ _ 23 _ _ _ _ _)
      refine x_iconst dX12_happens_23 rfl (by decide) (?_ : Ex _ _ 24 _ _ _ _ _)
      refine x_goto (tgt := 28) dX12_happens_24 rfl (?_ : Ex _ _ 28 _ _ _ _ _)
      exact e_X12_happens_28 d h
theorem e_X12_happens (d : Nat) {a0 a1 a2 a3 a4 : Int} {m : Mem} {v : Int} {m' : Mem} (h : X12_happens a0 a1 a2 a3 a4 m = some (v, m')) : ExM (d + 2) fm_X12_happens [(22, a0), (0, a1), (0, a2), (0, a3), (0, a4)] m (.inl (0, v)) m' := by
  obtain ⟨hb, h⟩ := boolR_some h
  exact ExM.of (by decide +kernel) (Nat.le_of_ble_eq_true rfl) (cat9 rfl) (retZ hb) (e_X12_happens_0 d h)
theorem dX12_beginsRun_0 : decode cX12_beginsRun 0 = .ok (.aload_n 0, 1) := by decide +kernel
theorem dX12_beginsRun_1 : decode cX12_beginsRun 1 = .ok (.getfield 40, 3) := by decide +kernel
theorem dX12_beginsRun_4 : decode cX12_beginsRun 4 = .ok (.iload_n 1, 1) := by decide +kernel
theorem dX12_beginsRun_5 : decode cX12_beginsRun 5 = .ok (.dup2, 1) := by decide +kernel
theorem dX12_beginsRun_6 : decode cX12_beginsRun 6 = .ok (.iaload, 1) := by decide +kernel
theorem dX12_beginsRun_7 : decode cX12_beginsRun 7 = .ok (.iconst 1, 1) := by decide +kernel
theorem dX12_beginsRun_8 : decode cX12_beginsRun 8 = .ok (.iadd, 1) := by decide +kernel
theorem dX12_beginsRun_9 : decode cX12_beginsRun 9 = .ok (.iastore, 1) := by decide +kernel
theorem dX12_beginsRun_10 : decode cX12_beginsRun 10 = .ok (.aload_n 0, 1) := by decide +kernel
theorem dX12_beginsRun_11 : decode cX12_beginsRun 11 = .ok (.getfield 52, 3) := by decide +kernel
theorem dX12_beginsRun_14 : decode cX12_beginsRun 14 = .ok (.aload_n 0, 1) := by decide +kernel
theorem dX12_beginsRun_15 : decode cX12_beginsRun 15 = .ok (.iload_n 1, 1) := by decide +kernel
theorem dX12_beginsRun_16 : decode cX12_beginsRun 16 = .ok (.invokevirtual 205, 3) := by decide +kernel
theorem dX12_beginsRun_19 : decode cX12_beginsRun 19 = .ok (.bipush 20, 2) := by decide +kernel
theorem dX12_beginsRun_21 : decode cX12_beginsRun 21 = .ok (.iastore, 1) := by decide +kernel
theorem dX12_beginsRun_22 : decode cX12_beginsRun 22 = .ok (.aload_n 0, 1) := by decide +kernel
theorem dX12_beginsRun_23 : decode cX12_beginsRun 23 = .ok (.getfield 46, 3) := by decide +kernel
theorem dX12_beginsRun_26 : decode cX12_beginsRun 26 = .ok (.iload_n 1, 1) := by decide +kernel
theorem dX12_beginsRun_27 : decode cX12_beginsRun 27 = .ok (.iconst 0, 1) := by decide +kernel
theorem dX12_beginsRun_28 : decode cX12_beginsRun 28 = .ok (.iastore, 1) := by decide +kernel
theorem dX12_beginsRun_29 : decode cX12_beginsRun 29 = .ok (.aload_n 0, 1) := by decide +kernel
theorem dX12_beginsRun_30 : decode cX12_beginsRun 30 = .ok (.getfield 49, 3) := by decide +kernel
theorem dX12_beginsRun_33 : decode cX12_beginsRun 33 = .ok (.iload_n 1, 1) := by decide +kernel
theorem dX12_beginsRun_34 : decode cX12_beginsRun 34 = .ok (.iconst (-1), 1) := by decide +kernel
theorem dX12_beginsRun_35 : decode cX12_beginsRun 35 = .ok (.iastore, 1) := by decide +kernel
theorem dX12_beginsRun_36 : decode cX12_beginsRun 36 = .ok (.aload_n 0, 1) := by decide +kernel
theorem dX12_beginsRun_37 : decode cX12_beginsRun 37 = .ok (.getfield 67, 3) := by decide +kernel
theorem dX12_beginsRun_40 : decode cX12_beginsRun 40 = .ok (.iload_n 1, 1) := by decide +kernel
theorem dX12_beginsRun_41 : decode cX12_beginsRun 41 = .ok (.iconst 0, 1) := by decide +kernel
theorem dX12_beginsRun_42 : decode cX12_beginsRun 42 = .ok (.iastore, 1) := by decide +kernel
theorem dX12_beginsRun_43 : decode cX12_beginsRun 43 = .ok (.aload_n 0, 1) := by decide +kernel
theorem dX12_beginsRun_44 : decode cX12_beginsRun 44 = .ok (.getfield 88, 3) := by decide +kernel
theorem dX12_beginsRun_47 : decode cX12_beginsRun 47 = .ok (.iload_n 1, 1) := by decide +kernel
theorem dX12_beginsRun_48 : decode cX12_beginsRun 48 = .ok (.iconst 0, 1) := by decide +kernel
theorem dX12_beginsRun_49 : decode cX12_beginsRun 49 = .ok (.iastore, 1) := by decide +kernel
theorem dX12_beginsRun_50 : decode cX12_beginsRun 50 = .ok (.aload_n 0, 1) := by decide +kernel
theorem dX12_beginsRun_51 : decode cX12_beginsRun 51 = .ok (.getfield 94, 3) := by decide +kernel
theorem dX12_beginsRun_54 : decode cX12_beginsRun 54 = .ok (.iload_n 1, 1) := by decide +kernel
theorem dX12_beginsRun_55 : decode cX12_beginsRun 55 = .ok (.iconst 0, 1) := by decide +kernel
theorem dX12_beginsRun_56 : decode cX12_beginsRun 56 = .ok (.iastore, 1) := by decide +kernel
theorem dX12_beginsRun_57 : decode cX12_beginsRun 57 = .ok (.aload_n 0, 1) := by decide +kernel
theorem dX12_beginsRun_58 : decode cX12_beginsRun 58 = .ok (.iload_n 1, 1) := by decide +kernel
theorem dX12_beginsRun_59 : decode cX12_beginsRun 59 = .ok (.iconst 0, 1) := by decide +kernel
theorem dX12_beginsRun_60 : decode cX12_beginsRun 60 = .ok (.iload_n 2, 1) := by decide +kernel
theorem dX12_beginsRun_61 : decode cX12_beginsRun 61 = .ok (.iconst 0, 1) := by decide +kernel
theorem dX12_beginsRun_62 : decode cX12_beginsRun 62 = .ok (.invokevirtual 212, 3) := by decide +kernel
theorem dX12_beginsRun_65 : decode cX12_beginsRun 65 = .ok (.return_, 1) := by decide +kernel
theorem e_X12_beginsRun_0 (d : Nat) {l0 l1 l2 : Int} {m : Mem} {v : Int} {m' : Mem} (h : X12_beginsRun_0 l0 l1 l2 m = some (v, m')) : Ex (d + 2) fm_X12_beginsRun 0 [(22, l0), (0, l1), (0, l2)] [] m (.inl (3, 0)) m' := by
  unfold X12_beginsRun_0 at h
  refine x_aload_n dX12_beginsRun_0 rfl rfl (Or.inr (by decide)) (?_ : Ex _ _ 1 _ _ _ _ _)
  obtain ⟨c1, h⟩ := chk_some h
  refine gt_12_12 c1 fl_RX12_40 dX12_beginsRun_1 (?_ : Ex _ _ 4 _ _ _ _ _)
  refine x_iload_n dX12_beginsRun_4 rfl rfl (?_ : Ex _ _ 5 _ _ _ _ _)
  refine x_dup2 (by decide : (0 : Int) ≠ 2) (by decide : (100010 : Int) ≠ 2) dX12_beginsRun_5 (?_ : Ex _ _ 6 _ _ _ _ _)
  obtain ⟨⟨c2, c3, c4⟩, h⟩ := chk_some h
  refine ld_i_10 c2 c3 c4 dX12_beginsRun_6 (?_ : Ex _ _ 7 _ _ _ _ _)
  refine x_iconst dX12_beginsRun_7 rfl (by decide) (?_ : Ex _ _ 8 _ _ _ _ _)
  obtain ⟨c5, h⟩ := chk_some h
  refine x_iadd dX12_beginsRun_8 c5 (?_ : Ex _ _ 9 _ _ _ _ _)
  obtain ⟨⟨c6, c7⟩, h⟩ := chk_some h
  obtain ⟨m8, hm8, h⟩ := st_some h
  refine sd_i_10 c2 c6 c7 dX12_beginsRun_9 (?_ : Ex _ _ 10 _ _ _ _ _)
  rw [← hm8]
  refine x_aload_n dX12_beginsRun_10 rfl rfl (Or.inr (by decide)) (?_ : Ex _ _ 11 _ _ _ _ _)
  refine gt_12_17 c1 fl_RX12_52 dX12_beginsRun_11 (?_ : Ex _ _ 14 _ _ _ _ _)
  refine x_aload_n dX12_beginsRun_14 rfl rfl (Or.inr (by decide)) (?_ : Ex _ _ 15 _ _ _ _ _)
  refine x_iload_n dX12_beginsRun_15 rfl rfl (?_ : Ex _ _ 16 _ _ _ _ _)
  obtain ⟨v9, m10, g11, h⟩ := cal_some h
  refine cV1 (e_X12_rowOfRun (d + 1) g11) (contN (by decide) (?_ : Ex _ _ 19 _ _ _ _ _)) og_X12_rowOfRun rfl ml_RX12_205 12 rfl rfl c1 im_X12_rowOfRun se_X12_rowOfRun (Nat.le_of_ble_eq_true rfl) dX12_beginsRun_16
  refine x_bipush dX12_beginsRun_19 kb_20 (by decide) (?_ : Ex _ _ 21 _ _ _ _ _)
  obtain ⟨⟨c12, c13, c14⟩, h⟩ := chk_some h
  obtain ⟨m15, hm15, h⟩ := st_some h
  refine sd_i_90 c12 c13 c14 dX12_beginsRun_21 (?_ : Ex _ _ 22 _ _ _ _ _)
  rw [← hm15]
  refine x_aload_n dX12_beginsRun_22 rfl rfl (Or.inr (by decide)) (?_ : Ex _ _ 23 _ _ _ _ _)
  refine gt_12_14 c1 fl_RX12_46 dX12_beginsRun_23 (?_ : Ex _ _ 26 _ _ _ _ _)
  refine x_iload_n dX12_beginsRun_26 rfl rfl (?_ : Ex _ _ 27 _ _ _ _ _)
  refine x_iconst dX12_beginsRun_27 rfl (by decide) (?_ : Ex _ _ 28 _ _ _ _ _)
  obtain ⟨⟨c16, c17, c18⟩, h⟩ := chk_some h
  obtain ⟨m19, hm19, h⟩ := st_some h
  refine sd_i_10 c16 c17 c18 dX12_beginsRun_28 (?_ : Ex _ _ 29 _ _ _ _ _)
  rw [← hm19]
  refine x_aload_n dX12_beginsRun_29 rfl rfl (Or.inr (by decide)) (?_ : Ex _ _ 30 _ _ _ _ _)
  refine gt_12_15 c1 fl_RX12_49 dX12_beginsRun_30 (?_ : Ex _ _ 33 _ _ _ _ _)
  refine x_iload_n dX12_beginsRun_33 rfl rfl (?_ : Ex _ _ 34 _ _ _ _ _)
  refine x_iconst dX12_beginsRun_34 rfl (by decide) (?_ : Ex _ _ 35 _ _ _ _ _)
  obtain ⟨⟨c20, c21, c22⟩, h⟩ := chk_some h
  obtain ⟨m23, hm23, h⟩ := st_some h
  refine sd_i_10 c20 c21 c22 dX12_beginsRun_35 (?_ : Ex _ _ 36 _ _ _ _ _)
  rw [← hm23]
  refine x_aload_n dX12_beginsRun_36 rfl rfl (Or.inr (by decide)) (?_ : Ex _ _ 37 _ _ _ _ _)
  refine gt_12_22 c1 fl_RX12_67 dX12_beginsRun_37 (?_ : Ex _ _ 40 _ _ _ _ _)
  refine x_iload_n dX12_beginsRun_40 rfl rfl (?_ : Ex _ _ 41 _ _ _ _ _)
  refine x_iconst dX12_beginsRun_41 rfl (by decide) (?_ : Ex _ _ 42 _ _ _ _ _)
  obtain ⟨⟨c24, c25, c26⟩, h⟩ := chk_some h
  obtain ⟨m27, hm27, h⟩ := st_some h
  refine sd_i_10 c24 c25 c26 dX12_beginsRun_42 (?_ : Ex _ _ 43 _ _ _ _ _)
  rw [← hm27]
  refine x_aload_n dX12_beginsRun_43 rfl rfl (Or.inr (by decide)) (?_ : Ex _ _ 44 _ _ _ _ _)
  refine gt_12_30 c1 fl_RX12_88 dX12_beginsRun_44 (?_ : Ex _ _ 47 _ _ _ _ _)
  refine x_iload_n dX12_beginsRun_47 rfl rfl (?_ : Ex _ _ 48 _ _ _ _ _)
  refine x_iconst dX12_beginsRun_48 rfl (by decide) (?_ : Ex _ _ 49 _ _ _ _ _)
  obtain ⟨⟨c28, c29, c30⟩, h⟩ := chk_some h
  obtain ⟨m31, hm31, h⟩ := st_some h
  refine sd_i_10 c28 c29 c30 dX12_beginsRun_49 (?_ : Ex _ _ 50 _ _ _ _ _)
  rw [← hm31]
  refine x_aload_n dX12_beginsRun_50 rfl rfl (Or.inr (by decide)) (?_ : Ex _ _ 51 _ _ _ _ _)
  refine gt_12_32 c1 fl_RX12_94 dX12_beginsRun_51 (?_ : Ex _ _ 54 _ _ _ _ _)
  refine x_iload_n dX12_beginsRun_54 rfl rfl (?_ : Ex _ _ 55 _ _ _ _ _)
  refine x_iconst dX12_beginsRun_55 rfl (by decide) (?_ : Ex _ _ 56 _ _ _ _ _)
  obtain ⟨⟨c32, c33, c34⟩, h⟩ := chk_some h
  obtain ⟨m35, hm35, h⟩ := st_some h
  refine sd_i_10 c32 c33 c34 dX12_beginsRun_56 (?_ : Ex _ _ 57 _ _ _ _ _)
  rw [← hm35]
  refine x_aload_n dX12_beginsRun_57 rfl rfl (Or.inr (by decide)) (?_ : Ex _ _ 58 _ _ _ _ _)
  refine x_iload_n dX12_beginsRun_58 rfl rfl (?_ : Ex _ _ 59 _ _ _ _ _)
  refine x_iconst dX12_beginsRun_59 rfl (by decide) (?_ : Ex _ _ 60 _ _ _ _ _)
  refine x_iload_n dX12_beginsRun_60 rfl rfl (?_ : Ex _ _ 61 _ _ _ _ _)
  refine x_iconst dX12_beginsRun_61 rfl (by decide) (?_ : Ex _ _ 62 _ _ _ _ _)
  obtain ⟨v36, m37, g38, h⟩ := cal_some h
  refine cV4 (e_X12_writes d g38) (contV (?_ : Ex _ _ 65 _ _ _ _ _)) og_X12_writes rfl ml_RX12_212 12 rfl rfl c1 im_X12_writes se_X12_writes (Nat.le_of_ble_eq_true rfl) dX12_beginsRun_62
  cases h
  exact x_retv dX12_beginsRun_65
theorem e_X12_beginsRun (d : Nat) {a0 a1 a2 : Int} {m : Mem} {v : Int} {m' : Mem} (h : X12_beginsRun a0 a1 a2 m = some (v, m')) : ExM (d + 2) fm_X12_beginsRun [(22, a0), (0, a1), (0, a2)] m (.inl (3, 0)) m' := by
  exact ExM.of (by decide +kernel) (Nat.le_of_ble_eq_true rfl) (cat9 rfl) retV (e_X12_beginsRun_0 d h)
theorem dX12_makesFlow_0 : decode cX12_makesFlow 0 = .ok (.aload_n 0, 1) := by decide +kernel
theorem dX12_makesFlow_1 : decode cX12_makesFlow 1 = .ok (.getfield 181, 3) := by decide +kernel
theorem dX12_makesFlow_4 : decode cX12_makesFlow 4 = .ok (.istore 6, 2) := by decide +kernel
theorem dX12_makesFlow_6 : decode cX12_makesFlow 6 = .ok (.aload_n 0, 1) := by decide +kernel
theorem dX12_makesFlow_7 : decode cX12_makesFlow 7 = .ok (.dup, 1) := by decide +kernel
theorem dX12_makesFlow_8 : decode cX12_makesFlow 8 = .ok (.getfield 181, 3) := by decide +kernel
theorem dX12_makesFlow_11 : decode cX12_makesFlow 11 = .ok (.iconst 1, 1) := by decide +kernel
theorem dX12_makesFlow_12 : decode cX12_makesFlow 12 = .ok (.iadd, 1) := by decide +kernel
theorem dX12_makesFlow_13 : decode cX12_makesFlow 13 = .ok (.putfield 181, 3) := by decide +kernel
theorem dX12_makesFlow_16 : decode cX12_makesFlow 16 = .ok (.aload_n 0, 1) := by decide +kernel
theorem dX12_makesFlow_17 : decode cX12_makesFlow 17 = .ok (.getfield 25, 3) := by decide +kernel
theorem dX12_makesFlow_20 : decode cX12_makesFlow 20 = .ok (.iload 6, 2) := by decide +kernel
theorem dX12_makesFlow_22 : decode cX12_makesFlow 22 = .ok (.iload_n 1, 1) := by decide +kernel
theorem dX12_makesFlow_23 : decode cX12_makesFlow 23 = .ok (.iastore, 1) := by decide +kernel
theorem dX12_makesFlow_24 : decode cX12_makesFlow 24 = .ok (.aload_n 0, 1) := by decide +kernel
theorem dX12_makesFlow_25 : decode cX12_makesFlow 25 = .ok (.getfield 28, 3) := by decide +kernel
theorem dX12_makesFlow_28 : decode cX12_makesFlow 28 = .ok (.iload 6, 2) := by decide +kernel
theorem dX12_makesFlow_30 : decode cX12_makesFlow 30 = .ok (.iload_n 2, 1) := by decide +kernel
theorem dX12_makesFlow_31 : decode cX12_makesFlow 31 = .ok (.iastore, 1) := by decide +kernel
theorem dX12_makesFlow_32 : decode cX12_makesFlow 32 = .ok (.aload_n 0, 1) := by decide +kernel
theorem dX12_makesFlow_33 : decode cX12_makesFlow 33 = .ok (.getfield 31, 3) := by decide +kernel
theorem dX12_makesFlow_36 : decode cX12_makesFlow 36 = .ok (.iload 6, 2) := by decide +kernel
theorem dX12_makesFlow_38 : decode cX12_makesFlow 38 = .ok (.iload_n 3, 1) := by decide +kernel
theorem dX12_makesFlow_39 : decode cX12_makesFlow 39 = .ok (.iastore, 1) := by decide +kernel
theorem dX12_makesFlow_40 : decode cX12_makesFlow 40 = .ok (.aload_n 0, 1) := by decide +kernel
theorem dX12_makesFlow_41 : decode cX12_makesFlow 41 = .ok (.getfield 34, 3) := by decide +kernel
theorem dX12_makesFlow_44 : decode cX12_makesFlow 44 = .ok (.iload 6, 2) := by decide +kernel
theorem dX12_makesFlow_46 : decode cX12_makesFlow 46 = .ok (.iload_n 3, 1) := by decide +kernel
theorem dX12_makesFlow_47 : decode cX12_makesFlow 47 = .ok (.iconst (-1), 1) := by decide +kernel
theorem dX12_makesFlow_48 : decode cX12_makesFlow 48 = .ok (.if_icmp .ne 7, 3) := by decide +kernel
theorem dX12_makesFlow_51 : decode cX12_makesFlow 51 = .ok (.iconst 0, 1) := by decide +kernel
theorem dX12_makesFlow_52 : decode cX12_makesFlow 52 = .ok (.goto 9, 3) := by decide +kernel
theorem dX12_makesFlow_55 : decode cX12_makesFlow 55 = .ok (.aload_n 0, 1) := by decide +kernel
theorem dX12_makesFlow_56 : decode cX12_makesFlow 56 = .ok (.getfield 40, 3) := by decide +kernel
theorem dX12_makesFlow_59 : decode cX12_makesFlow 59 = .ok (.iload_n 3, 1) := by decide +kernel
theorem dX12_makesFlow_60 : decode cX12_makesFlow 60 = .ok (.iaload, 1) := by decide +kernel
theorem dX12_makesFlow_61 : decode cX12_makesFlow 61 = .ok (.iastore, 1) := by decide +kernel
theorem dX12_makesFlow_62 : decode cX12_makesFlow 62 = .ok (.aload_n 0, 1) := by decide +kernel
theorem dX12_makesFlow_63 : decode cX12_makesFlow 63 = .ok (.getfield 37, 3) := by decide +kernel
theorem dX12_makesFlow_66 : decode cX12_makesFlow 66 = .ok (.iload 6, 2) := by decide +kernel
theorem dX12_makesFlow_68 : decode cX12_makesFlow 68 = .ok (.iload 4, 2) := by decide +kernel
theorem dX12_makesFlow_70 : decode cX12_makesFlow 70 = .ok (.iastore, 1) := by decide +kernel
theorem dX12_makesFlow_71 : decode cX12_makesFlow 71 = .ok (.aload_n 0, 1) := by decide +kernel
theorem dX12_makesFlow_72 : decode cX12_makesFlow 72 = .ok (.iload 6, 2) := by decide +kernel
theorem dX12_makesFlow_74 : decode cX12_makesFlow 74 = .ok (.iload 5, 2) := by decide +kernel
theorem dX12_makesFlow_76 : decode cX12_makesFlow 76 = .ok (.invokevirtual 216, 3) := by decide +kernel
theorem dX12_makesFlow_79 : decode cX12_makesFlow 79 = .ok (.iload 6, 2) := by decide +kernel
theorem dX12_makesFlow_81 : decode cX12_makesFlow 81 = .ok (.ireturn, 1) := by decide +kernel
theorem e_X12_makesFlow_61 (d : Nat) {l0 l4 l5 l6 s0 s1 s2 : Int} {m : Mem} {v : Int} {m' : Mem} (h : X12_makesFlow_61 l0 l4 l5 l6 s0 s1 s2 m = some (v, m')) : Ex (d + 3) fm_X12_makesFlow 61 [(22, l0), (3, 0), (3, 0), (3, 0), (0, l4), (0, l5), (0, l6)] [(0, s0), (0, s1), (100010, s2)] m (.inl (0, v)) m' := by
  unfold X12_makesFlow_61 at h
  obtain ⟨⟨c1, c2, c3⟩, h⟩ := chk_some h
  obtain ⟨m4, hm4, h⟩ := st_some h
  refine sd_i_10 c1 c2 c3 dX12_makesFlow_61 (?_ : Ex _ _ 62 _ _ _ _ _)
  rw [← hm4]
  refine x_aload_n dX12_makesFlow_62 rfl rfl (Or.inr (by decide)) (?_ : Ex _ _ 63 _ _ _ _ _)
  obtain ⟨c5, h⟩ := chk_some h
  refine gt_12_11 c5 fl_RX12_37 dX12_makesFlow_63 (?_ : Ex _ _ 66 _ _ _ _ _)
  refine x_iload dX12_makesFlow_66 rfl (?_ : Ex _ _ 68 _ _ _ _ _)
  refine x_iload dX12_makesFlow_68 rfl (?_ : Ex _ _ 70 _ _ _ _ _)
  obtain ⟨⟨c6, c7, c8⟩, h⟩ := chk_some h
  obtain ⟨m9, hm9, h⟩ := st_some h
  refine sd_i_10 c6 c7 c8 dX12_makesFlow_70 (?_ : Ex _ _ 71 _ _ _ _ _)
  rw [← hm9]
  refine x_aload_n dX12_makesFlow_71 rfl rfl (Or.inr (by decide)) (?_ : Ex _ _ 72 _ _ _ _ _)
  refine x_iload dX12_makesFlow_72 rfl (?_ : Ex _ _ 74 _ _ _ _ _)
  refine x_iload dX12_makesFlow_74 rfl (?_ : Ex _ _ 76 _ _ _ _ _)
  obtain ⟨v10, m11, g12, h⟩ := cal_some h
  refine cV2 (e_X12_beginsRun d g12) (contV (?_ : Ex _ _ 79 _ _ _ _ _)) og_X12_beginsRun rfl ml_RX12_216 12 rfl rfl c5 im_X12_beginsRun se_X12_beginsRun (Nat.le_of_ble_eq_true rfl) dX12_makesFlow_76
  refine x_iload dX12_makesFlow_79 rfl (?_ : Ex _ _ 81 _ _ _ _ _)
  cases h
  exact x_ret dX12_makesFlow_81 (by decide : (0 : Int) ≠ 3)
theorem e_X12_makesFlow_0 (d : Nat) {l0 l1 l2 l3 l4 l5 : Int} {m : Mem} {v : Int} {m' : Mem} (h : X12_makesFlow_0 l0 l1 l2 l3 l4 l5 m = some (v, m')) : Ex (d + 3) fm_X12_makesFlow 0 [(22, l0), (0, l1), (0, l2), (0, l3), (0, l4), (0, l5), (3, 0)] [] m (.inl (0, v)) m' := by
  unfold X12_makesFlow_0 at h
  refine x_aload_n dX12_makesFlow_0 rfl rfl (Or.inr (by decide)) (?_ : Ex _ _ 1 _ _ _ _ _)
  obtain ⟨c1, h⟩ := chk_some h
  refine gt_12_16 c1 fl_RX12_181 dX12_makesFlow_1 (?_ : Ex _ _ 4 _ _ _ _ _)
  refine x_istore (ls2 := [(22, l0), (0, l1), (0, l2), (0, l3), (0, l4), (0, l5), (0, m l0 16)]) dX12_makesFlow_4 (Nat.le_of_ble_eq_true rfl) rfl (?_ : Ex _ _ 6 _ _ _ _ _)
  refine x_aload_n dX12_makesFlow_6 rfl rfl (Or.inr (by decide)) (?_ : Ex _ _ 7 _ _ _ _ _)
  refine x_dup (by decide : (22 : Int) ≠ 2) dX12_makesFlow_7 (?_ : Ex _ _ 8 _ _ _ _ _)
  refine gt_12_16 c1 fl_RX12_181 dX12_makesFlow_8 (?_ : Ex _ _ 11 _ _ _ _ _)
  refine x_iconst dX12_makesFlow_11 rfl (by decide) (?_ : Ex _ _ 12 _ _ _ _ _)
  obtain ⟨c2, h⟩ := chk_some h
  refine x_iadd dX12_makesFlow_12 c2 (?_ : Ex _ _ 13 _ _ _ _ _)
  obtain ⟨m3, hm3, h⟩ := st_some h
  refine pt_12_16  c1 fl_RX12_181 dX12_makesFlow_13 (?_ : Ex _ _ 16 _ _ _ _ _)
  rw [← hm3]
  refine x_aload_n dX12_makesFlow_16 rfl rfl (Or.inr (by decide)) (?_ : Ex _ _ 17 _ _ _ _ _)
  refine gt_12_7 c1 fl_RX12_25 dX12_makesFlow_17 (?_ : Ex _ _ 20 _ _ _ _ _)
  refine x_iload dX12_makesFlow_20 rfl (?_ : Ex _ _ 22 _ _ _ _ _)
  refine x_iload_n dX12_makesFlow_22 rfl rfl (?_ : Ex _ _ 23 _ _ _ _ _)
  obtain ⟨⟨c4, c5, c6⟩, h⟩ := chk_some h
  obtain ⟨m7, hm7, h⟩ := st_some h
  refine sd_i_10 c4 c5 c6 dX12_makesFlow_23 (?_ : Ex _ _ 24 _ _ _ _ _)
  rw [← hm7]
  refine x_aload_n dX12_makesFlow_24 rfl rfl (Or.inr (by decide)) (?_ : Ex _ _ 25 _ _ _ _ _)
  refine gt_12_8 c1 fl_RX12_28 dX12_makesFlow_25 (?_ : Ex _ _ 28 _ _ _ _ _)
  refine x_iload dX12_makesFlow_28 rfl (?_ : Ex _ _ 30 _ _ _ _ _)
  refine x_iload_n dX12_makesFlow_30 rfl rfl (?_ : Ex _ _ 31 _ _ _ _ _)
  obtain ⟨⟨c8, c9, c10⟩, h⟩ := chk_some h
  obtain ⟨m11, hm11, h⟩ := st_some h
  refine sd_i_10 c8 c9 c10 dX12_makesFlow_31 (?_ : Ex _ _ 32 _ _ _ _ _)
  rw [← hm11]
  refine x_aload_n dX12_makesFlow_32 rfl rfl (Or.inr (by decide)) (?_ : Ex _ _ 33 _ _ _ _ _)
  refine gt_12_9 c1 fl_RX12_31 dX12_makesFlow_33 (?_ : Ex _ _ 36 _ _ _ _ _)
  refine x_iload dX12_makesFlow_36 rfl (?_ : Ex _ _ 38 _ _ _ _ _)
  refine x_iload_n dX12_makesFlow_38 rfl rfl (?_ : Ex _ _ 39 _ _ _ _ _)
  obtain ⟨⟨c12, c13, c14⟩, h⟩ := chk_some h
  obtain ⟨m15, hm15, h⟩ := st_some h
  refine sd_i_10 c12 c13 c14 dX12_makesFlow_39 (?_ : Ex _ _ 40 _ _ _ _ _)
  rw [← hm15]
  refine x_aload_n dX12_makesFlow_40 rfl rfl (Or.inr (by decide)) (?_ : Ex _ _ 41 _ _ _ _ _)
  refine gt_12_10 c1 fl_RX12_34 dX12_makesFlow_41 (?_ : Ex _ _ 44 _ _ _ _ _)
  refine x_iload dX12_makesFlow_44 rfl (?_ : Ex _ _ 46 _ _ _ _ _)
  refine x_iload_n dX12_makesFlow_46 rfl rfl (?_ : Ex _ _ 47 _ _ _ _ _)
  refine x_iconst dX12_makesFlow_47 rfl (by decide) (?_ : Ex _ _ 48 _ _ _ _ _)
  rcases ite_some h with ⟨b16, h⟩ | ⟨b16, h⟩
  · refine x_icmp_neN dX12_makesFlow_48 (by decide) (fun hh => hh b16) (?_ : Ex _ _ 51 _ _ _ _ _)
    refine x_iconst dX12_makesFlow_51 rfl (by decide) (?_ : Ex _ _ 52 _ _ _ _ _)
    refine x_goto (tgt := 61) dX12_makesFlow_52 rfl (?_ : Ex _ _ 61 _ _ _ _ _)
    refine Ex.wk (ls2 := [(22, l0), (3, 0), (3, 0), (3, 0), (0, l4), (0, l5), (0, m l0 16)]) ⟨Or.inr rfl, Or.inl rfl, Or.inl rfl, Or.inl rfl, Or.inr rfl, Or.inr rfl, Or.inr rfl, trivial⟩ ?_
    exact e_X12_makesFlow_61 d h
  · refine x_icmp_ne (tgt := 55) dX12_makesFlow_48 rfl b16 (?_ : Ex _ _ 55 _ _ _ _ _)
    refine x_aload_n dX12_makesFlow_55 rfl rfl (Or.inr (by decide)) (?_ : Ex _ _ 56 _ _ _ _ _)
    refine gt_12_12 c1 fl_RX12_40 dX12_makesFlow_56 (?_ : Ex _ _ 59 _ _ _ _ _)
    refine x_iload_n dX12_makesFlow_59 rfl rfl (?_ : Ex _ _ 60 _ _ _ _ _)
    obtain ⟨⟨c17, c18, c19⟩, h⟩ := chk_some h
    refine ld_i_10 c17 c18 c19 dX12_makesFlow_60 (?_ : Ex _ _ 61 _ _ _ _ _)
    refine Ex.wk (ls2 := [(22, l0), (3, 0), (3, 0), (3, 0), (0, l4), (0, l5), (0, m l0 16)]) ⟨Or.inr rfl, Or.inl rfl, Or.inl rfl, Or.inl rfl, Or.inr rfl, Or.inr rfl, Or.inr rfl, trivial⟩ ?_
    exact e_X12_makesFlow_61 d h
theorem e_X12_makesFlow (d : Nat) {a0 a1 a2 a3 a4 a5 : Int} {m : Mem} {v : Int} {m' : Mem} (h : X12_makesFlow a0 a1 a2 a3 a4 a5 m = some (v, m')) : ExM (d + 3) fm_X12_makesFlow [(22, a0), (0, a1), (0, a2), (0, a3), (0, a4), (0, a5)] m (.inl (0, v)) m' := by
  exact ExM.of (by decide +kernel) (Nat.le_of_ble_eq_true rfl) (cat9 rfl) retI (e_X12_makesFlow_0 d h)
theorem dX12_start_0 : decode cX12_start 0 = .ok (.iload_n 1, 1) := by decide +kernel
theorem dX12_start_1 : decode cX12_start 1 = .ok (.invokestatic 188, 3) := by decide +kernel
theorem dX12_start_4 : decode cX12_start 4 = .ok (.ifCond .eq 16, 3) := by decide +kernel
theorem dX12_start_7 : decode cX12_start 7 = .ok (.iload_n 2, 1) := by decide +kernel
theorem dX12_start_8 : decode cX12_start 8 = .ok (.iconst 0, 1) := by decide +kernel
theorem dX12_start_9 : decode cX12_start 9 = .ok (.iconst 2, 1) := by decide +kernel
theorem dX12_start_10 : decode cX12_start 10 = .ok (.invokestatic 177, 3) := by decide +kernel
theorem dX12_start_13 : decode cX12_start 13 = .ok (.ifCond .eq 7, 3) := by decide +kernel
theorem dX12_start_16 : decode cX12_start 16 = .ok (.iconst 1, 1) := by decide +kernel
theorem dX12_start_17 : decode cX12_start 17 = .ok (.goto 4, 3) := by decide +kernel
theorem dX12_start_20 : decode cX12_start 20 = .ok (.iconst 0, 1) := by decide +kernel
theorem dX12_start_21 : decode cX12_start 21 = .ok (.istore 4, 2) := by decide +kernel
theorem dX12_start_23 : decode cX12_start 23 = .ok (.aload_n 0, 1) := by decide +kernel
theorem dX12_start_24 : decode cX12_start 24 = .ok (.iload 4, 2) := by decide +kernel
theorem dX12_start_26 : decode cX12_start 26 = .ok (.ifCond .ne 7, 3) := by decide +kernel
theorem dX12_start_29 : decode cX12_start 29 = .ok (.iconst 1, 1) := by decide +kernel
theorem dX12_start_30 : decode cX12_start 30 = .ok (.goto 28, 3) := by decide +kernel
theorem dX12_start_33 : decode cX12_start 33 = .ok (.iload_n 3, 1) := by decide +kernel
theorem dX12_start_34 : decode cX12_start 34 = .ok (.invokestatic 184, 3) := by decide +kernel
theorem dX12_start_37 : decode cX12_start 37 = .ok (.ifCond .ne 7, 3) := by decide +kernel
theorem dX12_start_40 : decode cX12_start 40 = .ok (.iconst 2, 1) := by decide +kernel
theorem dX12_start_41 : decode cX12_start 41 = .ok (.goto 17, 3) := by decide +kernel
theorem dX12_start_44 : decode cX12_start 44 = .ok (.aload_n 0, 1) := by decide +kernel
theorem dX12_start_45 : decode cX12_start 45 = .ok (.getfield 181, 3) := by decide +kernel
theorem dX12_start_48 : decode cX12_start 48 = .ok (.bipush 10, 2) := by decide +kernel
theorem dX12_start_50 : decode cX12_start 50 = .ok (.if_icmp .ne 7, 3) := by decide +kernel
theorem dX12_start_53 : decode cX12_start 53 = .ok (.iconst 3, 1) := by decide +kernel
theorem dX12_start_54 : decode cX12_start 54 = .ok (.goto 4, 3) := by decide +kernel
theorem dX12_start_57 : decode cX12_start 57 = .ok (.iconst 0, 1) := by decide +kernel
theorem dX12_start_58 : decode cX12_start 58 = .ok (.invokevirtual 198, 3) := by decide +kernel
theorem dX12_start_61 : decode cX12_start 61 = .ok (.ifCond .ne 5, 3) := by decide +kernel
theorem dX12_start_64 : decode cX12_start 64 = .ok (.iconst 0, 1) := by decide +kernel
theorem dX12_start_65 : decode cX12_start 65 = .ok (.ireturn, 1) := by decide +kernel
theorem dX12_start_66 : decode cX12_start 66 = .ok (.aload_n 0, 1) := by decide +kernel
theorem dX12_start_67 : decode cX12_start 67 = .ok (.iload_n 1, 1) := by decide +kernel
theorem dX12_start_68 : decode cX12_start 68 = .ok (.iload_n 2, 1) := by decide +kernel
theorem dX12_start_69 : decode cX12_start 69 = .ok (.iconst (-1), 1) := by decide +kernel
theorem dX12_start_70 : decode cX12_start 70 = .ok (.iconst 0, 1) := by decide +kernel
theorem dX12_start_71 : decode cX12_start 71 = .ok (.iload_n 3, 1) := by decide +kernel
theorem dX12_start_72 : decode cX12_start 72 = .ok (.invokevirtual 220, 3) := by decide +kernel
theorem dX12_start_75 : decode cX12_start 75 = .ok (.ireturn, 1) := by decide +kernel
theorem e_X12_start_58 (d : Nat) {l0 l1 l2 l3 s0 s1 : Int} {m : Mem} {v : Int} {m' : Mem} (h : X12_start_58 l0 l1 l2 l3 s0 s1 m = some (v, m')) : Ex (d + 4) fm_X12_start 58 [(22, l0), (0, l1), (0, l2), (0, l3), (3, 0)] [(0, s0), (22, s1)] m (.inl (0, v)) m' := by
  unfold X12_start_58 at h
  obtain ⟨c1, h⟩ := chk_some h
  obtain ⟨v2, m3, g4, h⟩ := cal_some h
  refine cV1 (e_X12_isFine (d + 3) g4) (contN (by decide) (?_ : Ex _ _ 61 _ _ _ _ _)) og_X12_isFine rfl ml_RX12_198 12 rfl rfl c1 im_X12_isFine se_X12_isFine (Nat.le_of_ble_eq_true rfl) dX12_start_58
  rcases ite_some h with ⟨b5, h⟩ | ⟨b5, h⟩
  · refine x_if_neN dX12_start_61 (by decide) (fun hh => hh b5) (?_ : Ex _ _ 64 _ _ _ _ _)
    refine x_iconst dX12_start_64 rfl (by decide) (?_ : Ex _ _ 65 _ _ _ _ _)
    cases h
    exact x_ret dX12_start_65 (by decide : (0 : Int) ≠ 3)
  · refine x_if_ne (tgt := 66) dX12_start_61 rfl b5 (?_ : Ex _ _ 66 _ _ _ _ _)
    refine x_aload_n dX12_start_66 rfl rfl (Or.inr (by decide)) (?_ : Ex _ _ 67 _ _ _ _ _)
    refine x_iload_n dX12_start_67 rfl rfl (?_ : Ex _ _ 68 _ _ _ _ _)
    refine x_iload_n dX12_start_68 rfl rfl (?_ : Ex _ _ 69 _ _ _ _ _)
    refine x_iconst dX12_start_69 rfl (by decide) (?_ : Ex _ _ 70 _ _ _ _ _)
    refine x_iconst dX12_start_70 rfl (by decide) (?_ : Ex _ _ 71 _ _ _ _ _)
    refine x_iload_n dX12_start_71 rfl rfl (?_ : Ex _ _ 72 _ _ _ _ _)
    obtain ⟨c6, h⟩ := chk_some h
    obtain ⟨v7, m8, g9, h⟩ := cal_some h
    refine cV5 (e_X12_makesFlow d g9) (contN (by decide) (?_ : Ex _ _ 75 _ _ _ _ _)) og_X12_makesFlow rfl ml_RX12_220 12 rfl rfl c6 im_X12_makesFlow se_X12_makesFlow (Nat.le_of_ble_eq_true rfl) dX12_start_72
    cases h
    exact x_ret dX12_start_75 (by decide : (0 : Int) ≠ 3)
theorem e_X12_start_21 (d : Nat) {l0 l1 l2 l3 s0 : Int} {m : Mem} {v : Int} {m' : Mem} (h : X12_start_21 l0 l1 l2 l3 s0 m = some (v, m')) : Ex (d + 4) fm_X12_start 21 [(22, l0), (0, l1), (0, l2), (0, l3), (3, 0)] [(0, s0)] m (.inl (0, v)) m' := by
  unfold X12_start_21 at h
  refine x_istore (ls2 := [(22, l0), (0, l1), (0, l2), (0, l3), (0, s0)]) dX12_start_21 (Nat.le_of_ble_eq_true rfl) rfl (?_ : Ex _ _ 23 _ _ _ _ _)
  refine x_aload_n dX12_start_23 rfl rfl (Or.inr (by decide)) (?_ : Ex _ _ 24 _ _ _ _ _)
  refine x_iload dX12_start_24 rfl (?_ : Ex _ _ 26 _ _ _ _ _)
  rcases ite_some h with ⟨b1, h⟩ | ⟨b1, h⟩
  · refine x_if_neN dX12_start_26 (by decide) (fun hh => hh b1) (?_ : Ex _ _ 29 _ _ _ _ _)
    refine x_iconst dX12_start_29 rfl (by decide) (?_ : Ex _ _ 30 _ _ _ _ _)
    refine x_goto (tgt := 58) dX12_start_30 rfl (?_ : Ex _ _ 58 _ _ _ _ _)
    refine Ex.wk (ls2 := [(22, l0), (0, l1), (0, l2), (0, l3), (3, 0)]) ⟨Or.inr rfl, Or.inr rfl, Or.inr rfl, Or.inr rfl, Or.inl rfl, trivial⟩ ?_
    exact e_X12_start_58 d h
  · refine x_if_ne (tgt := 33) dX12_start_26 rfl b1 (?_ : Ex _ _ 33 _ _ _ _ _)
    refine x_iload_n dX12_start_33 rfl rfl (?_ : Ex _ _ 34 _ _ _ _ _)
    obtain ⟨v2, m3, g4, h⟩ := cal_some h
    refine cS1 (e_X12_isValue (d + 2) g4) (contN (by decide) (?_ : Ex _ _ 37 _ _ _ _ _)) og_X12_isValue rfl ml_RX12_184 sm_X12_isValue (Nat.le_of_ble_eq_true rfl) dX12_start_34
    rcases ite_some h with ⟨b5, h⟩ | ⟨b5, h⟩
    · refine x_if_neN dX12_start_37 (by decide) (fun hh => hh b5) (?_ : Ex _ _ 40 _ _ _ _ _)
      refine x_iconst dX12_start_40 rfl (by decide) (?_ : Ex _ _ 41 _ _ _ _ _)
      refine x_goto (tgt := 58) dX12_start_41 rfl (?_ : Ex _ _ 58 _ _ _ _ _)
      refine Ex.wk (ls2 := [(22, l0), (0, l1), (0, l2), (0, l3), (3, 0)]) ⟨Or.inr rfl, Or.inr rfl, Or.inr rfl, Or.inr rfl, Or.inl rfl, trivial⟩ ?_
      exact e_X12_start_58 d h
    · refine x_if_ne (tgt := 44) dX12_start_37 rfl b5 (?_ : Ex _ _ 44 _ _ _ _ _)
      refine x_aload_n dX12_start_44 rfl rfl (Or.inr (by decide)) (?_ : Ex _ _ 45 _ _ _ _ _)
      obtain ⟨c6, h⟩ := chk_some h
      refine gt_12_16 c6 fl_RX12_181 dX12_start_45 (?_ : Ex _ _ 48 _ _ _ _ _)
      refine x_bipush dX12_start_48 kb_10 (by decide) (?_ : Ex _ _ 50 _ _ _ _ _)
      rcases ite_some h with ⟨b7, h⟩ | ⟨b7, h⟩
      · refine x_icmp_neN dX12_start_50 (by decide) (fun hh => hh b7) (?_ : Ex _ _ 53 _ _ _ _ _)
        refine x_iconst dX12_start_53 rfl (by decide) (?_ : Ex _ _ 54 _ _ _ _ _)
        refine x_goto (tgt := 58) dX12_start_54 rfl (?_ : Ex _ _ 58 _ _ _ _ _)
        refine Ex.wk (ls2 := [(22, l0), (0, l1), (0, l2), (0, l3), (3, 0)]) ⟨Or.inr rfl, Or.inr rfl, Or.inr rfl, Or.inr rfl, Or.inl rfl, trivial⟩ ?_
        exact e_X12_start_58 d h
      · refine x_icmp_ne (tgt := 57) dX12_start_50 rfl b7 (?_ : Ex _ _ 57 _ _ _ _ _)
        refine x_iconst dX12_start_57 rfl (by decide) (?_ : Ex _ _ 58 _ _ _ _ _)
        refine Ex.wk (ls2 := [(22, l0), (0, l1), (0, l2), (0, l3), (3, 0)]) ⟨Or.inr rfl, Or.inr rfl, Or.inr rfl, Or.inr rfl, Or.inl rfl, trivial⟩ ?_
        exact e_X12_start_58 d h
theorem e_X12_start_0 (d : Nat) {l0 l1 l2 l3 : Int} {m : Mem} {v : Int} {m' : Mem} (h : X12_start_0 l0 l1 l2 l3 m = some (v, m')) : Ex (d + 4) fm_X12_start 0 [(22, l0), (0, l1), (0, l2), (0, l3), (3, 0)] [] m (.inl (0, v)) m' := by
  unfold X12_start_0 at h
  refine x_iload_n dX12_start_0 rfl rfl (?_ : Ex _ _ 1 _ _ _ _ _)
  obtain ⟨v1, m2, g3, h⟩ := cal_some h
  refine cS1 (e_X12_isType (d + 2) g3) (contN (by decide) (?_ : Ex _ _ 4 _ _ _ _ _)) og_X12_isType rfl ml_RX12_188 sm_X12_isType (Nat.le_of_ble_eq_true rfl) dX12_start_1
  rcases ite_some h with ⟨b4, h⟩ | ⟨b4, h⟩
  · refine x_if_eq (tgt := 20) dX12_start_4 rfl b4 (?_ : Ex _ _ 20 _ _ _ _ _)
    refine x_iconst dX12_start_20 rfl (by decide) (?_ : Ex _ _ 21 _ _ _ _ _)
    exact e_X12_start_21 d h
  · refine x_if_eqN dX12_start_4 (by decide) b4 (?_ : Ex _ _ 7 _ _ _ _ _)
    refine x_iload_n dX12_start_7 rfl rfl (?_ : Ex _ _ 8 _ _ _ _ _)
    refine x_iconst dX12_start_8 rfl (by decide) (?_ : Ex _ _ 9 _ _ _ _ _)
    refine x_iconst dX12_start_9 rfl (by decide) (?_ : Ex _ _ 10 _ _ _ _ _)
    obtain ⟨v5, m6, g7, h⟩ := cal_some h
    refine cS3 (e_X12_isIn (d + 3) g7) (contN (by decide) (?_ : Ex _ _ 13 _ _ _ _ _)) og_X12_isIn rfl ml_RX12_177 sm_X12_isIn (Nat.le_of_ble_eq_true rfl) dX12_start_10
    rcases ite_some h with ⟨b8, h⟩ | ⟨b8, h⟩
    · refine x_if_eq (tgt := 20) dX12_start_13 rfl b8 (?_ : Ex _ _ 20 _ _ _ _ _)
      refine x_iconst dX12_start_20 rfl (by decide) (?_ : Ex _ _ 21 _ _ _ _ _)
      exact e_X12_start_21 d h
    · refine x_if_eqN dX12_start_13 (by decide) b8 (?_ : Ex _ _ 16 _ _ _ _ _)
      refine x_iconst dX12_start_16 rfl (by decide) (?_ : Ex _ _ 17 _ _ _ _ _)
      refine x_goto (tgt := 21) dX12_start_17 rfl (?_ : Ex _ _ 21 _ _ _ _ _)
      exact e_X12_start_21 d h
theorem e_X12_start (d : Nat) {a0 a1 a2 a3 : Int} {m : Mem} {v : Int} {m' : Mem} (h : X12_start a0 a1 a2 a3 m = some (v, m')) : ExM (d + 4) fm_X12_start [(22, a0), (0, a1), (0, a2), (0, a3)] m (.inl (0, v)) m' := by
  exact ExM.of (by decide +kernel) (Nat.le_of_ble_eq_true rfl) (cat9 rfl) retI (e_X12_start_0 d h)
theorem dX12_signal_0 : decode cX12_signal 0 = .ok (.aload_n 0, 1) := by decide +kernel
theorem dX12_signal_1 : decode cX12_signal 1 = .ok (.iload_n 1, 1) := by decide +kernel
theorem dX12_signal_2 : decode cX12_signal 2 = .ok (.invokevirtual 224, 3) := by decide +kernel
theorem dX12_signal_5 : decode cX12_signal 5 = .ok (.istore 4, 2) := by decide +kernel
theorem dX12_signal_7 : decode cX12_signal 7 = .ok (.aload_n 0, 1) := by decide +kernel
theorem dX12_signal_8 : decode cX12_signal 8 = .ok (.iload 4, 2) := by decide +kernel
theorem dX12_signal_10 : decode cX12_signal 10 = .ok (.ifCond .ne 7, 3) := by decide +kernel
theorem dX12_signal_13 : decode cX12_signal 13 = .ok (.iconst 1, 1) := by decide +kernel
theorem dX12_signal_14 : decode cX12_signal 14 = .ok (.goto 24, 3) := by decide +kernel
theorem dX12_signal_17 : decode cX12_signal 17 = .ok (.iload_n 2, 1) := by decide +kernel
theorem dX12_signal_18 : decode cX12_signal 18 = .ok (.iconst 0, 1) := by decide +kernel
theorem dX12_signal_19 : decode cX12_signal 19 = .ok (.iconst 2, 1) := by decide +kernel
theorem dX12_signal_20 : decode cX12_signal 20 = .ok (.invokestatic 177, 3) := by decide +kernel
theorem dX12_signal_23 : decode cX12_signal 23 = .ok (.ifCond .eq 10, 3) := by decide +kernel
theorem dX12_signal_26 : decode cX12_signal 26 = .ok (.iload_n 3, 1) := by decide +kernel
theorem dX12_signal_27 : decode cX12_signal 27 = .ok (.invokestatic 184, 3) := by decide +kernel
theorem dX12_signal_30 : decode cX12_signal 30 = .ok (.ifCond .ne 7, 3) := by decide +kernel
theorem dX12_signal_33 : decode cX12_signal 33 = .ok (.iconst 2, 1) := by decide +kernel
theorem dX12_signal_34 : decode cX12_signal 34 = .ok (.goto 4, 3) := by decide +kernel
theorem dX12_signal_37 : decode cX12_signal 37 = .ok (.iconst 0, 1) := by decide +kernel
theorem dX12_signal_38 : decode cX12_signal 38 = .ok (.invokevirtual 198, 3) := by decide +kernel
theorem dX12_signal_41 : decode cX12_signal 41 = .ok (.ifCond .eq 18, 3) := by decide +kernel
theorem dX12_signal_44 : decode cX12_signal 44 = .ok (.aload_n 0, 1) := by decide +kernel
theorem dX12_signal_45 : decode cX12_signal 45 = .ok (.iload_n 1, 1) := by decide +kernel
theorem dX12_signal_46 : decode cX12_signal 46 = .ok (.iconst 4, 1) := by decide +kernel
theorem dX12_signal_47 : decode cX12_signal 47 = .ok (.iload_n 2, 1) := by decide +kernel
theorem dX12_signal_48 : decode cX12_signal 48 = .ok (.iload_n 3, 1) := by decide +kernel
theorem dX12_signal_49 : decode cX12_signal 49 = .ok (.invokevirtual 227, 3) := by decide +kernel
theorem dX12_signal_52 : decode cX12_signal 52 = .ok (.ifCond .eq 7, 3) := by decide +kernel
theorem dX12_signal_55 : decode cX12_signal 55 = .ok (.iconst 1, 1) := by decide +kernel
theorem dX12_signal_56 : decode cX12_signal 56 = .ok (.goto 4, 3) := by decide +kernel
theorem dX12_signal_59 : decode cX12_signal 59 = .ok (.iconst 0, 1) := by decide +kernel
theorem dX12_signal_60 : decode cX12_signal 60 = .ok (.ireturn, 1) := by decide +kernel
theorem e_X12_signal_38 (d : Nat) {l0 l1 l2 l3 s0 s1 : Int} {m : Mem} {v : Int} {m' : Mem} (h : X12_signal_38 l0 l1 l2 l3 s0 s1 m = some (v, m')) : Ex (d + 3) fm_X12_signal 38 [(22, l0), (0, l1), (0, l2), (0, l3), (3, 0)] [(0, s0), (22, s1)] m (.inl (0, v)) m' := by
  unfold X12_signal_38 at h
  obtain ⟨c1, h⟩ := chk_some h
  obtain ⟨v2, m3, g4, h⟩ := cal_some h
  refine cV1 (e_X12_isFine (d + 2) g4) (contN (by decide) (?_ : Ex _ _ 41 _ _ _ _ _)) og_X12_isFine rfl ml_RX12_198 12 rfl rfl c1 im_X12_isFine se_X12_isFine (Nat.le_of_ble_eq_true rfl) dX12_signal_38
  rcases ite_some h with ⟨b5, h⟩ | ⟨b5, h⟩
  · refine x_if_eq (tgt := 59) dX12_signal_41 rfl b5 (?_ : Ex _ _ 59 _ _ _ _ _)
    refine x_iconst dX12_signal_59 rfl (by decide) (?_ : Ex _ _ 60 _ _ _ _ _)
    cases h
    exact x_ret dX12_signal_60 (by decide : (0 : Int) ≠ 3)
  · refine x_if_eqN dX12_signal_41 (by decide) b5 (?_ : Ex _ _ 44 _ _ _ _ _)
    refine x_aload_n dX12_signal_44 rfl rfl (Or.inr (by decide)) (?_ : Ex _ _ 45 _ _ _ _ _)
    refine x_iload_n dX12_signal_45 rfl rfl (?_ : Ex _ _ 46 _ _ _ _ _)
    refine x_iconst dX12_signal_46 rfl (by decide) (?_ : Ex _ _ 47 _ _ _ _ _)
    refine x_iload_n dX12_signal_47 rfl rfl (?_ : Ex _ _ 48 _ _ _ _ _)
    refine x_iload_n dX12_signal_48 rfl rfl (?_ : Ex _ _ 49 _ _ _ _ _)
    obtain ⟨c6, h⟩ := chk_some h
    obtain ⟨v7, m8, g9, h⟩ := cal_some h
    refine cV4 (e_X12_happens d g9) (contN (by decide) (?_ : Ex _ _ 52 _ _ _ _ _)) og_X12_happens rfl ml_RX12_227 12 rfl rfl c6 im_X12_happens se_X12_happens (Nat.le_of_ble_eq_true rfl) dX12_signal_49
    rcases ite_some h with ⟨b10, h⟩ | ⟨b10, h⟩
    · refine x_if_eq (tgt := 59) dX12_signal_52 rfl b10 (?_ : Ex _ _ 59 _ _ _ _ _)
      refine x_iconst dX12_signal_59 rfl (by decide) (?_ : Ex _ _ 60 _ _ _ _ _)
      cases h
      exact x_ret dX12_signal_60 (by decide : (0 : Int) ≠ 3)
    · refine x_if_eqN dX12_signal_52 (by decide) b10 (?_ : Ex _ _ 55 _ _ _ _ _)
      refine x_iconst dX12_signal_55 rfl (by decide) (?_ : Ex _ _ 56 _ _ _ _ _)
      refine x_goto (tgt := 60) dX12_signal_56 rfl (?_ : Ex _ _ 60 _ _ _ _ _)
      cases h
      exact x_ret dX12_signal_60 (by decide : (0 : Int) ≠ 3)
theorem e_X12_signal_0 (d : Nat) {l0 l1 l2 l3 : Int} {m : Mem} {v : Int} {m' : Mem} (h : X12_signal_0 l0 l1 l2 l3 m = some (v, m')) : Ex (d + 3) fm_X12_signal 0 [(22, l0), (0, l1), (0, l2), (0, l3), (3, 0)] [] m (.inl (0, v)) m' := by
  unfold X12_signal_0 at h
  refine x_aload_n dX12_signal_0 rfl rfl (Or.inr (by decide)) (?_ : Ex _ _ 1 _ _ _ _ _)
  refine x_iload_n dX12_signal_1 rfl rfl (?_ : Ex _ _ 2 _ _ _ _ _)
  obtain ⟨c1, h⟩ := chk_some h
  obtain ⟨v2, m3, g4, h⟩ := cal_some h
  refine cV1 (e_X12_isFlow (d + 1) g4) (contN (by decide) (?_ : Ex _ _ 5 _ _ _ _ _)) og_X12_isFlow rfl ml_RX12_224 12 rfl rfl c1 im_X12_isFlow se_X12_isFlow (Nat.le_of_ble_eq_true rfl) dX12_signal_2
  refine x_istore (ls2 := [(22, l0), (0, l1), (0, l2), (0, l3), (0, v2)]) dX12_signal_5 (Nat.le_of_ble_eq_true rfl) rfl (?_ : Ex _ _ 7 _ _ _ _ _)
  refine x_aload_n dX12_signal_7 rfl rfl (Or.inr (by decide)) (?_ : Ex _ _ 8 _ _ _ _ _)
  refine x_iload dX12_signal_8 rfl (?_ : Ex _ _ 10 _ _ _ _ _)
  rcases ite_some h with ⟨b5, h⟩ | ⟨b5, h⟩
  · refine x_if_neN dX12_signal_10 (by decide) (fun hh => hh b5) (?_ : Ex _ _ 13 _ _ _ _ _)
    refine x_iconst dX12_signal_13 rfl (by decide) (?_ : Ex _ _ 14 _ _ _ _ _)
    refine x_goto (tgt := 38) dX12_signal_14 rfl (?_ : Ex _ _ 38 _ _ _ _ _)
    refine Ex.wk (ls2 := [(22, l0), (0, l1), (0, l2), (0, l3), (3, 0)]) ⟨Or.inr rfl, Or.inr rfl, Or.inr rfl, Or.inr rfl, Or.inl rfl, trivial⟩ ?_
    exact e_X12_signal_38 d h
  · refine x_if_ne (tgt := 17) dX12_signal_10 rfl b5 (?_ : Ex _ _ 17 _ _ _ _ _)
    refine x_iload_n dX12_signal_17 rfl rfl (?_ : Ex _ _ 18 _ _ _ _ _)
    refine x_iconst dX12_signal_18 rfl (by decide) (?_ : Ex _ _ 19 _ _ _ _ _)
    refine x_iconst dX12_signal_19 rfl (by decide) (?_ : Ex _ _ 20 _ _ _ _ _)
    obtain ⟨v6, m7, g8, h⟩ := cal_some h
    refine cS3 (e_X12_isIn (d + 2) g8) (contN (by decide) (?_ : Ex _ _ 23 _ _ _ _ _)) og_X12_isIn rfl ml_RX12_177 sm_X12_isIn (Nat.le_of_ble_eq_true rfl) dX12_signal_20
    rcases ite_some h with ⟨b9, h⟩ | ⟨b9, h⟩
    · refine x_if_eq (tgt := 33) dX12_signal_23 rfl b9 (?_ : Ex _ _ 33 _ _ _ _ _)
      refine x_iconst dX12_signal_33 rfl (by decide) (?_ : Ex _ _ 34 _ _ _ _ _)
      refine x_goto (tgt := 38) dX12_signal_34 rfl (?_ : Ex _ _ 38 _ _ _ _ _)
      refine Ex.wk (ls2 := [(22, l0), (0, l1), (0, l2), (0, l3), (3, 0)]) ⟨Or.inr rfl, Or.inr rfl, Or.inr rfl, Or.inr rfl, Or.inl rfl, trivial⟩ ?_
      exact e_X12_signal_38 d h
    · refine x_if_eqN dX12_signal_23 (by decide) b9 (?_ : Ex _ _ 26 _ _ _ _ _)
      refine x_iload_n dX12_signal_26 rfl rfl (?_ : Ex _ _ 27 _ _ _ _ _)
      obtain ⟨v10, m11, g12, h⟩ := cal_some h
      refine cS1 (e_X12_isValue (d + 1) g12) (contN (by decide) (?_ : Ex _ _ 30 _ _ _ _ _)) og_X12_isValue rfl ml_RX12_184 sm_X12_isValue (Nat.le_of_ble_eq_true rfl) dX12_signal_27
      rcases ite_some h with ⟨b13, h⟩ | ⟨b13, h⟩
      · refine x_if_neN dX12_signal_30 (by decide) (fun hh => hh b13) (?_ : Ex _ _ 33 _ _ _ _ _)
        refine x_iconst dX12_signal_33 rfl (by decide) (?_ : Ex _ _ 34 _ _ _ _ _)
        refine x_goto (tgt := 38) dX12_signal_34 rfl (?_ : Ex _ _ 38 _ _ _ _ _)
        refine Ex.wk (ls2 := [(22, l0), (0, l1), (0, l2), (0, l3), (3, 0)]) ⟨Or.inr rfl, Or.inr rfl, Or.inr rfl, Or.inr rfl, Or.inl rfl, trivial⟩ ?_
        exact e_X12_signal_38 d h
      · refine x_if_ne (tgt := 37) dX12_signal_30 rfl b13 (?_ : Ex _ _ 37 _ _ _ _ _)
        refine x_iconst dX12_signal_37 rfl (by decide) (?_ : Ex _ _ 38 _ _ _ _ _)
        refine Ex.wk (ls2 := [(22, l0), (0, l1), (0, l2), (0, l3), (3, 0)]) ⟨Or.inr rfl, Or.inr rfl, Or.inr rfl, Or.inr rfl, Or.inl rfl, trivial⟩ ?_
        exact e_X12_signal_38 d h
theorem e_X12_signal (d : Nat) {a0 a1 a2 a3 : Int} {m : Mem} {v : Int} {m' : Mem} (h : X12_signal a0 a1 a2 a3 m = some (v, m')) : ExM (d + 3) fm_X12_signal [(22, a0), (0, a1), (0, a2), (0, a3)] m (.inl (0, v)) m' := by
  obtain ⟨hb, h⟩ := boolR_some h
  exact ExM.of (by decide +kernel) (Nat.le_of_ble_eq_true rfl) (cat9 rfl) (retZ hb) (e_X12_signal_0 d h)
theorem dX12_cancels_0 : decode cX12_cancels 0 = .ok (.iconst 0, 1) := by decide +kernel
theorem dX12_cancels_1 : decode cX12_cancels 1 = .ok (.istore_n 2, 1) := by decide +kernel
theorem dX12_cancels_2 : decode cX12_cancels 2 = .ok (.iconst 0, 1) := by decide +kernel
theorem dX12_cancels_3 : decode cX12_cancels 3 = .ok (.istore_n 3, 1) := by decide +kernel
theorem dX12_cancels_4 : decode cX12_cancels 4 = .ok (.iload_n 3, 1) := by decide +kernel
theorem dX12_cancels_5 : decode cX12_cancels 5 = .ok (.aload_n 0, 1) := by decide +kernel
theorem dX12_cancels_6 : decode cX12_cancels 6 = .ok (.getfield 55, 3) := by decide +kernel
theorem dX12_cancels_9 : decode cX12_cancels 9 = .ok (.aload_n 0, 1) := by decide +kernel
theorem dX12_cancels_10 : decode cX12_cancels 10 = .ok (.iload_n 1, 1) := by decide +kernel
theorem dX12_cancels_11 : decode cX12_cancels 11 = .ok (.invokevirtual 205, 3) := by decide +kernel
theorem dX12_cancels_14 : decode cX12_cancels 14 = .ok (.iaload, 1) := by decide +kernel
theorem dX12_cancels_15 : decode cX12_cancels 15 = .ok (.if_icmp .ge 39, 3) := by decide +kernel
theorem dX12_cancels_18 : decode cX12_cancels 18 = .ok (.iload_n 2, 1) := by decide +kernel
theorem dX12_cancels_19 : decode cX12_cancels 19 = .ok (.ifCond .ne 23, 3) := by decide +kernel
theorem dX12_cancels_22 : decode cX12_cancels 22 = .ok (.aload_n 0, 1) := by decide +kernel
theorem dX12_cancels_23 : decode cX12_cancels 23 = .ok (.getfield 58, 3) := by decide +kernel
theorem dX12_cancels_26 : decode cX12_cancels 26 = .ok (.bipush 80, 2) := by decide +kernel
theorem dX12_cancels_28 : decode cX12_cancels 28 = .ok (.aload_n 0, 1) := by decide +kernel
theorem dX12_cancels_29 : decode cX12_cancels 29 = .ok (.iload_n 1, 1) := by decide +kernel
theorem dX12_cancels_30 : decode cX12_cancels 30 = .ok (.invokevirtual 205, 3) := by decide +kernel
theorem dX12_cancels_33 : decode cX12_cancels 33 = .ok (.imul, 1) := by decide +kernel
theorem dX12_cancels_34 : decode cX12_cancels 34 = .ok (.iload_n 3, 1) := by decide +kernel
theorem dX12_cancels_35 : decode cX12_cancels 35 = .ok (.iadd, 1) := by decide +kernel
theorem dX12_cancels_36 : decode cX12_cancels 36 = .ok (.iaload, 1) := by decide +kernel
theorem dX12_cancels_37 : decode cX12_cancels 37 = .ok (.bipush 6, 2) := by decide +kernel
theorem dX12_cancels_39 : decode cX12_cancels 39 = .ok (.if_icmp .ne 7, 3) := by decide +kernel
theorem dX12_cancels_42 : decode cX12_cancels 42 = .ok (.iconst 1, 1) := by decide +kernel
theorem dX12_cancels_43 : decode cX12_cancels 43 = .ok (.goto 4, 3) := by decide +kernel
theorem dX12_cancels_46 : decode cX12_cancels 46 = .ok (.iconst 0, 1) := by decide +kernel
theorem dX12_cancels_47 : decode cX12_cancels 47 = .ok (.istore_n 2, 1) := by decide +kernel
theorem dX12_cancels_48 : decode cX12_cancels 48 = .ok (.iinc 3 1, 3) := by decide +kernel
theorem dX12_cancels_51 : decode cX12_cancels 51 = .ok (.goto (-47), 3) := by decide +kernel
theorem dX12_cancels_54 : decode cX12_cancels 54 = .ok (.iload_n 2, 1) := by decide +kernel
theorem dX12_cancels_55 : decode cX12_cancels 55 = .ok (.ifCond .ne 19, 3) := by decide +kernel
theorem dX12_cancels_58 : decode cX12_cancels 58 = .ok (.aload_n 0, 1) := by decide +kernel
theorem dX12_cancels_59 : decode cX12_cancels 59 = .ok (.iload_n 1, 1) := by decide +kernel
theorem dX12_cancels_60 : decode cX12_cancels 60 = .ok (.bipush 6, 2) := by decide +kernel
theorem dX12_cancels_62 : decode cX12_cancels 62 = .ok (.iconst 0, 1) := by decide +kernel
theorem dX12_cancels_63 : decode cX12_cancels 63 = .ok (.iconst 0, 1) := by decide +kernel
theorem dX12_cancels_64 : decode cX12_cancels 64 = .ok (.invokevirtual 227, 3) := by decide +kernel
theorem dX12_cancels_67 : decode cX12_cancels 67 = .ok (.ifCond .eq 7, 3) := by decide +kernel
theorem dX12_cancels_70 : decode cX12_cancels 70 = .ok (.iconst 1, 1) := by decide +kernel
theorem dX12_cancels_71 : decode cX12_cancels 71 = .ok (.goto 4, 3) := by decide +kernel
theorem dX12_cancels_74 : decode cX12_cancels 74 = .ok (.iconst 0, 1) := by decide +kernel
theorem dX12_cancels_75 : decode cX12_cancels 75 = .ok (.ireturn, 1) := by decide +kernel
theorem e_X12_cancels_54 (d : Nat) {l0 l1 l2 : Int} {m : Mem} {v : Int} {m' : Mem} (h : X12_cancels_54 l0 l1 l2 m = some (v, m')) : Ex (d + 3) fm_X12_cancels 54 [(22, l0), (0, l1), (0, l2), (3, 0)] [] m (.inl (0, v)) m' := by
  unfold X12_cancels_54 at h
  refine x_iload_n dX12_cancels_54 rfl rfl (?_ : Ex _ _ 55 _ _ _ _ _)
  rcases ite_some h with ⟨b1, h⟩ | ⟨b1, h⟩
  · refine x_if_neN dX12_cancels_55 (by decide) (fun hh => hh b1) (?_ : Ex _ _ 58 _ _ _ _ _)
    refine x_aload_n dX12_cancels_58 rfl rfl (Or.inr (by decide)) (?_ : Ex _ _ 59 _ _ _ _ _)
    refine x_iload_n dX12_cancels_59 rfl rfl (?_ : Ex _ _ 60 _ _ _ _ _)
    refine x_bipush dX12_cancels_60 kb_6 (by decide) (?_ : Ex _ _ 62 _ _ _ _ _)
    refine x_iconst dX12_cancels_62 rfl (by decide) (?_ : Ex _ _ 63 _ _ _ _ _)
    refine x_iconst dX12_cancels_63 rfl (by decide) (?_ : Ex _ _ 64 _ _ _ _ _)
    obtain ⟨c2, h⟩ := chk_some h
    obtain ⟨v3, m4, g5, h⟩ := cal_some h
    refine cV4 (e_X12_happens d g5) (contN (by decide) (?_ : Ex _ _ 67 _ _ _ _ _)) og_X12_happens rfl ml_RX12_227 12 rfl rfl c2 im_X12_happens se_X12_happens (Nat.le_of_ble_eq_true rfl) dX12_cancels_64
    rcases ite_some h with ⟨b6, h⟩ | ⟨b6, h⟩
    · refine x_if_eq (tgt := 74) dX12_cancels_67 rfl b6 (?_ : Ex _ _ 74 _ _ _ _ _)
      refine x_iconst dX12_cancels_74 rfl (by decide) (?_ : Ex _ _ 75 _ _ _ _ _)
      cases h
      exact x_ret dX12_cancels_75 (by decide : (0 : Int) ≠ 3)
    · refine x_if_eqN dX12_cancels_67 (by decide) b6 (?_ : Ex _ _ 70 _ _ _ _ _)
      refine x_iconst dX12_cancels_70 rfl (by decide) (?_ : Ex _ _ 71 _ _ _ _ _)
      refine x_goto (tgt := 75) dX12_cancels_71 rfl (?_ : Ex _ _ 75 _ _ _ _ _)
      cases h
      exact x_ret dX12_cancels_75 (by decide : (0 : Int) ≠ 3)
  · refine x_if_ne (tgt := 74) dX12_cancels_55 rfl b1 (?_ : Ex _ _ 74 _ _ _ _ _)
    refine x_iconst dX12_cancels_74 rfl (by decide) (?_ : Ex _ _ 75 _ _ _ _ _)
    cases h
    exact x_ret dX12_cancels_75 (by decide : (0 : Int) ≠ 3)
theorem e_X12_cancels_4 (d : Nat) {k54 : Int → Int → Int → Mem → Option R2} (hk54 : ∀ {l0 l1 l2 : Int} {m : Mem} {v : Int} {m' : Mem}, k54 l0 l1 l2 m = some (v, m') → Ex (d + 3) fm_X12_cancels 54 [(22, l0), (0, l1), (0, l2), (3, 0)] [] m (.inl (0, v)) m') : ∀ (n : Nat) {l0 l1 l2 l3 : Int} {m : Mem} {v : Int} {m' : Mem}, X12_cancels_4 k54 n l0 l1 l2 l3 m = some (v, m') → Ex (d + 3) fm_X12_cancels 4 [(22, l0), (0, l1), (0, l2), (0, l3)] [] m (.inl (0, v)) m' := by
  intro n
  induction n with
  | zero =>
    intro l0 l1 l2 l3 m v m' h
    have h : (none : Option R2) = some _ := h
    cases h
  | succ n ih =>
    intro l0 l1 l2 l3 m v m' h
    rw [X12_cancels_4] at h
    refine x_iload_n dX12_cancels_4 rfl rfl (?_ : Ex _ _ 5 _ _ _ _ _)
    refine x_aload_n dX12_cancels_5 rfl rfl (Or.inr (by decide)) (?_ : Ex _ _ 6 _ _ _ _ _)
    obtain ⟨c1, h⟩ := chk_some h
    refine gt_12_18 c1 fl_RX12_55 dX12_cancels_6 (?_ : Ex _ _ 9 _ _ _ _ _)
    refine x_aload_n dX12_cancels_9 rfl rfl (Or.inr (by decide)) (?_ : Ex _ _ 10 _ _ _ _ _)
    refine x_iload_n dX12_cancels_10 rfl rfl (?_ : Ex _ _ 11 _ _ _ _ _)
    obtain ⟨v2, m3, g4, h⟩ := cal_some h
    refine cV1 (e_X12_rowOfRun (d + 2) g4) (contN (by decide) (?_ : Ex _ _ 14 _ _ _ _ _)) og_X12_rowOfRun rfl ml_RX12_205 12 rfl rfl c1 im_X12_rowOfRun se_X12_rowOfRun (Nat.le_of_ble_eq_true rfl) dX12_cancels_11
    obtain ⟨⟨c5, c6, c7⟩, h⟩ := chk_some h
    refine ld_i_90 c5 c6 c7 dX12_cancels_14 (?_ : Ex _ _ 15 _ _ _ _ _)
    rcases ite_some h with ⟨b8, h⟩ | ⟨b8, h⟩
    · refine x_icmp_ge (tgt := 54) dX12_cancels_15 rfl b8 (?_ : Ex _ _ 54 _ _ _ _ _)
      refine Ex.wk (ls2 := [(22, l0), (0, l1), (0, l2), (3, 0)]) ⟨Or.inr rfl, Or.inr rfl, Or.inr rfl, Or.inl rfl, trivial⟩ ?_
      exact hk54 h
    · refine x_icmp_geN dX12_cancels_15 (by decide) b8 (?_ : Ex _ _ 18 _ _ _ _ _)
      refine x_iload_n dX12_cancels_18 rfl rfl (?_ : Ex _ _ 19 _ _ _ _ _)
      rcases ite_some h with ⟨b9, h⟩ | ⟨b9, h⟩
      · refine x_if_neN dX12_cancels_19 (by decide) (fun hh => hh b9) (?_ : Ex _ _ 22 _ _ _ _ _)
        refine x_aload_n dX12_cancels_22 rfl rfl (Or.inr (by decide)) (?_ : Ex _ _ 23 _ _ _ _ _)
        refine gt_12_19 c1 fl_RX12_58 dX12_cancels_23 (?_ : Ex _ _ 26 _ _ _ _ _)
        refine x_bipush dX12_cancels_26 kb_80 (by decide) (?_ : Ex _ _ 28 _ _ _ _ _)
        refine x_aload_n dX12_cancels_28 rfl rfl (Or.inr (by decide)) (?_ : Ex _ _ 29 _ _ _ _ _)
        refine x_iload_n dX12_cancels_29 rfl rfl (?_ : Ex _ _ 30 _ _ _ _ _)
        obtain ⟨v11, m12, g13, h⟩ := cal_some h
        refine cV1 (e_X12_rowOfRun (d + 2) g13) (contN (by decide) (?_ : Ex _ _ 33 _ _ _ _ _)) og_X12_rowOfRun rfl ml_RX12_205 12 rfl rfl c1 im_X12_rowOfRun se_X12_rowOfRun (Nat.le_of_ble_eq_true rfl) dX12_cancels_30
        obtain ⟨c14, h⟩ := chk_some h
        refine x_imul dX12_cancels_33 c14 (?_ : Ex _ _ 34 _ _ _ _ _)
        refine x_iload_n dX12_cancels_34 rfl rfl (?_ : Ex _ _ 35 _ _ _ _ _)
        obtain ⟨c15, h⟩ := chk_some h
        refine x_iadd dX12_cancels_35 c15 (?_ : Ex _ _ 36 _ _ _ _ _)
        obtain ⟨⟨c16, c17, c18⟩, h⟩ := chk_some h
        refine ld_i_7200 c16 c17 c18 dX12_cancels_36 (?_ : Ex _ _ 37 _ _ _ _ _)
        refine x_bipush dX12_cancels_37 kb_6 (by decide) (?_ : Ex _ _ 39 _ _ _ _ _)
        rcases ite_some h with ⟨b19, h⟩ | ⟨b19, h⟩
        · refine x_icmp_neN dX12_cancels_39 (by decide) (fun hh => hh b19) (?_ : Ex _ _ 42 _ _ _ _ _)
          refine x_iconst dX12_cancels_42 rfl (by decide) (?_ : Ex _ _ 43 _ _ _ _ _)
          refine x_goto (tgt := 47) dX12_cancels_43 rfl (?_ : Ex _ _ 47 _ _ _ _ _)
          refine x_istore_n (ls2 := [(22, l0), (0, l1), (0, 1), (0, l3)]) dX12_cancels_47 rfl (Nat.le_of_ble_eq_true rfl) rfl (?_ : Ex _ _ 48 _ _ _ _ _)
          obtain ⟨c21, h⟩ := chk_some h
          refine x_iinc (ls2 := [(22, l0), (0, l1), (0, 1), (0, (l3 + 1))]) dX12_cancels_48 rfl c21 rfl (?_ : Ex _ _ 51 _ _ _ _ _)
          refine x_goto (tgt := 4) dX12_cancels_51 rfl (?_ : Ex _ _ 4 _ _ _ _ _)
          exact ih h
        · refine x_icmp_ne (tgt := 46) dX12_cancels_39 rfl b19 (?_ : Ex _ _ 46 _ _ _ _ _)
          refine x_iconst dX12_cancels_46 rfl (by decide) (?_ : Ex _ _ 47 _ _ _ _ _)
          refine x_istore_n (ls2 := [(22, l0), (0, l1), (0, 0), (0, l3)]) dX12_cancels_47 rfl (Nat.le_of_ble_eq_true rfl) rfl (?_ : Ex _ _ 48 _ _ _ _ _)
          obtain ⟨c20, h⟩ := chk_some h
          refine x_iinc (ls2 := [(22, l0), (0, l1), (0, 0), (0, (l3 + 1))]) dX12_cancels_48 rfl c20 rfl (?_ : Ex _ _ 51 _ _ _ _ _)
          refine x_goto (tgt := 4) dX12_cancels_51 rfl (?_ : Ex _ _ 4 _ _ _ _ _)
          exact ih h
      · refine x_if_ne (tgt := 42) dX12_cancels_19 rfl b9 (?_ : Ex _ _ 42 _ _ _ _ _)
        refine x_iconst dX12_cancels_42 rfl (by decide) (?_ : Ex _ _ 43 _ _ _ _ _)
        refine x_goto (tgt := 47) dX12_cancels_43 rfl (?_ : Ex _ _ 47 _ _ _ _ _)
        refine x_istore_n (ls2 := [(22, l0), (0, l1), (0, 1), (0, l3)]) dX12_cancels_47 rfl (Nat.le_of_ble_eq_true rfl) rfl (?_ : Ex _ _ 48 _ _ _ _ _)
        obtain ⟨c10, h⟩ := chk_some h
        refine x_iinc (ls2 := [(22, l0), (0, l1), (0, 1), (0, (l3 + 1))]) dX12_cancels_48 rfl c10 rfl (?_ : Ex _ _ 51 _ _ _ _ _)
        refine x_goto (tgt := 4) dX12_cancels_51 rfl (?_ : Ex _ _ 4 _ _ _ _ _)
        exact ih h
theorem e_X12_cancels_0 (d : Nat) {l0 l1 : Int} {m : Mem} {v : Int} {m' : Mem} (h : X12_cancels_0 l0 l1 m = some (v, m')) : Ex (d + 3) fm_X12_cancels 0 [(22, l0), (0, l1), (3, 0), (3, 0)] [] m (.inl (0, v)) m' := by
  unfold X12_cancels_0 at h
  refine x_iconst dX12_cancels_0 rfl (by decide) (?_ : Ex _ _ 1 _ _ _ _ _)
  refine x_istore_n (ls2 := [(22, l0), (0, l1), (0, 0), (3, 0)]) dX12_cancels_1 rfl (Nat.le_of_ble_eq_true rfl) rfl (?_ : Ex _ _ 2 _ _ _ _ _)
  refine x_iconst dX12_cancels_2 rfl (by decide) (?_ : Ex _ _ 3 _ _ _ _ _)
  refine x_istore_n (ls2 := [(22, l0), (0, l1), (0, 0), (0, 0)]) dX12_cancels_3 rfl (Nat.le_of_ble_eq_true rfl) rfl (?_ : Ex _ _ 4 _ _ _ _ _)
  exact e_X12_cancels_4 d (fun h => e_X12_cancels_54 d h) fuel9 h
theorem e_X12_cancels (d : Nat) {a0 a1 : Int} {m : Mem} {v : Int} {m' : Mem} (h : X12_cancels a0 a1 m = some (v, m')) : ExM (d + 3) fm_X12_cancels [(22, a0), (0, a1)] m (.inl (0, v)) m' := by
  obtain ⟨hb, h⟩ := boolR_some h
  exact ExM.of (by decide +kernel) (Nat.le_of_ble_eq_true rfl) (cat9 rfl) (retZ hb) (e_X12_cancels_0 d h)
theorem dX12_cancel_0 : decode cX12_cancel 0 = .ok (.aload_n 0, 1) := by decide +kernel
theorem dX12_cancel_1 : decode cX12_cancel 1 = .ok (.aload_n 0, 1) := by decide +kernel
theorem dX12_cancel_2 : decode cX12_cancel 2 = .ok (.iload_n 1, 1) := by decide +kernel
theorem dX12_cancel_3 : decode cX12_cancel 3 = .ok (.invokevirtual 224, 3) := by decide +kernel
theorem dX12_cancel_6 : decode cX12_cancel 6 = .ok (.ifCond .eq 7, 3) := by decide +kernel
theorem dX12_cancel_9 : decode cX12_cancel 9 = .ok (.iconst 0, 1) := by decide +kernel
theorem dX12_cancel_10 : decode cX12_cancel 10 = .ok (.goto 4, 3) := by decide +kernel
theorem dX12_cancel_13 : decode cX12_cancel 13 = .ok (.iconst 1, 1) := by decide +kernel
theorem dX12_cancel_14 : decode cX12_cancel 14 = .ok (.invokevirtual 198, 3) := by decide +kernel
theorem dX12_cancel_17 : decode cX12_cancel 17 = .ok (.ifCond .eq 15, 3) := by decide +kernel
theorem dX12_cancel_20 : decode cX12_cancel 20 = .ok (.aload_n 0, 1) := by decide +kernel
theorem dX12_cancel_21 : decode cX12_cancel 21 = .ok (.iload_n 1, 1) := by decide +kernel
theorem dX12_cancel_22 : decode cX12_cancel 22 = .ok (.invokevirtual 231, 3) := by decide +kernel
theorem dX12_cancel_25 : decode cX12_cancel 25 = .ok (.ifCond .eq 7, 3) := by decide +kernel
theorem dX12_cancel_28 : decode cX12_cancel 28 = .ok (.iconst 1, 1) := by decide +kernel
theorem dX12_cancel_29 : decode cX12_cancel 29 = .ok (.goto 4, 3) := by decide +kernel
theorem dX12_cancel_32 : decode cX12_cancel 32 = .ok (.iconst 0, 1) := by decide +kernel
theorem dX12_cancel_33 : decode cX12_cancel 33 = .ok (.ireturn, 1) := by decide +kernel
theorem e_X12_cancel_14 (d : Nat) {l0 l1 s0 s1 : Int} {m : Mem} {v : Int} {m' : Mem} (h : X12_cancel_14 l0 l1 s0 s1 m = some (v, m')) : Ex (d + 4) fm_X12_cancel 14 [(22, l0), (0, l1)] [(0, s0), (22, s1)] m (.inl (0, v)) m' := by
  unfold X12_cancel_14 at h
  obtain ⟨c1, h⟩ := chk_some h
  obtain ⟨v2, m3, g4, h⟩ := cal_some h
  refine cV1 (e_X12_isFine (d + 3) g4) (contN (by decide) (?_ : Ex _ _ 17 _ _ _ _ _)) og_X12_isFine rfl ml_RX12_198 12 rfl rfl c1 im_X12_isFine se_X12_isFine (Nat.le_of_ble_eq_true rfl) dX12_cancel_14
  rcases ite_some h with ⟨b5, h⟩ | ⟨b5, h⟩
  · refine x_if_eq (tgt := 32) dX12_cancel_17 rfl b5 (?_ : Ex _ _ 32 _ _ _ _ _)
    refine x_iconst dX12_cancel_32 rfl (by decide) (?_ : Ex _ _ 33 _ _ _ _ _)
    cases h
    exact x_ret dX12_cancel_33 (by decide : (0 : Int) ≠ 3)
  · refine x_if_eqN dX12_cancel_17 (by decide) b5 (?_ : Ex _ _ 20 _ _ _ _ _)
    refine x_aload_n dX12_cancel_20 rfl rfl (Or.inr (by decide)) (?_ : Ex _ _ 21 _ _ _ _ _)
    refine x_iload_n dX12_cancel_21 rfl rfl (?_ : Ex _ _ 22 _ _ _ _ _)
    obtain ⟨c6, h⟩ := chk_some h
    obtain ⟨v7, m8, g9, h⟩ := cal_some h
    refine cV1 (e_X12_cancels d g9) (contN (by decide) (?_ : Ex _ _ 25 _ _ _ _ _)) og_X12_cancels rfl ml_RX12_231 12 rfl rfl c6 im_X12_cancels se_X12_cancels (Nat.le_of_ble_eq_true rfl) dX12_cancel_22
    rcases ite_some h with ⟨b10, h⟩ | ⟨b10, h⟩
    · refine x_if_eq (tgt := 32) dX12_cancel_25 rfl b10 (?_ : Ex _ _ 32 _ _ _ _ _)
      refine x_iconst dX12_cancel_32 rfl (by decide) (?_ : Ex _ _ 33 _ _ _ _ _)
      cases h
      exact x_ret dX12_cancel_33 (by decide : (0 : Int) ≠ 3)
    · refine x_if_eqN dX12_cancel_25 (by decide) b10 (?_ : Ex _ _ 28 _ _ _ _ _)
      refine x_iconst dX12_cancel_28 rfl (by decide) (?_ : Ex _ _ 29 _ _ _ _ _)
      refine x_goto (tgt := 33) dX12_cancel_29 rfl (?_ : Ex _ _ 33 _ _ _ _ _)
      cases h
      exact x_ret dX12_cancel_33 (by decide : (0 : Int) ≠ 3)
theorem e_X12_cancel_0 (d : Nat) {l0 l1 : Int} {m : Mem} {v : Int} {m' : Mem} (h : X12_cancel_0 l0 l1 m = some (v, m')) : Ex (d + 4) fm_X12_cancel 0 [(22, l0), (0, l1)] [] m (.inl (0, v)) m' := by
  unfold X12_cancel_0 at h
  refine x_aload_n dX12_cancel_0 rfl rfl (Or.inr (by decide)) (?_ : Ex _ _ 1 _ _ _ _ _)
  refine x_aload_n dX12_cancel_1 rfl rfl (Or.inr (by decide)) (?_ : Ex _ _ 2 _ _ _ _ _)
  refine x_iload_n dX12_cancel_2 rfl rfl (?_ : Ex _ _ 3 _ _ _ _ _)
  obtain ⟨c1, h⟩ := chk_some h
  obtain ⟨v2, m3, g4, h⟩ := cal_some h
  refine cV1 (e_X12_isFlow (d + 2) g4) (contN (by decide) (?_ : Ex _ _ 6 _ _ _ _ _)) og_X12_isFlow rfl ml_RX12_224 12 rfl rfl c1 im_X12_isFlow se_X12_isFlow (Nat.le_of_ble_eq_true rfl) dX12_cancel_3
  rcases ite_some h with ⟨b5, h⟩ | ⟨b5, h⟩
  · refine x_if_eq (tgt := 13) dX12_cancel_6 rfl b5 (?_ : Ex _ _ 13 _ _ _ _ _)
    refine x_iconst dX12_cancel_13 rfl (by decide) (?_ : Ex _ _ 14 _ _ _ _ _)
    exact e_X12_cancel_14 d h
  · refine x_if_eqN dX12_cancel_6 (by decide) b5 (?_ : Ex _ _ 9 _ _ _ _ _)
    refine x_iconst dX12_cancel_9 rfl (by decide) (?_ : Ex _ _ 10 _ _ _ _ _)
    refine x_goto (tgt := 14) dX12_cancel_10 rfl (?_ : Ex _ _ 14 _ _ _ _ _)
    exact e_X12_cancel_14 d h
theorem e_X12_cancel (d : Nat) {a0 a1 : Int} {m : Mem} {v : Int} {m' : Mem} (h : X12_cancel a0 a1 m = some (v, m')) : ExM (d + 4) fm_X12_cancel [(22, a0), (0, a1)] m (.inl (0, v)) m' := by
  obtain ⟨hb, h⟩ := boolR_some h
  exact ExM.of (by decide +kernel) (Nat.le_of_ble_eq_true rfl) (cat9 rfl) (retZ hb) (e_X12_cancel_0 d h)
