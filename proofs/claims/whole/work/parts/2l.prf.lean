/-! the machine does what the functions say, printed -/
theorem dX12_taken_0 : decode cX12_taken 0 = .ok (.iload_n 1, 1) := by decide +kernel
theorem dX12_taken_1 : decode cX12_taken 1 = .ok (.invokestatic 434, 3) := by decide +kernel
theorem dX12_taken_4 : decode cX12_taken 4 = .ok (.ifCond .eq 16, 3) := by decide +kernel
theorem dX12_taken_7 : decode cX12_taken 7 = .ok (.iload_n 2, 1) := by decide +kernel
theorem dX12_taken_8 : decode cX12_taken 8 = .ok (.iconst 0, 1) := by decide +kernel
theorem dX12_taken_9 : decode cX12_taken 9 = .ok (.iconst 2, 1) := by decide +kernel
theorem dX12_taken_10 : decode cX12_taken 10 = .ok (.invokestatic 177, 3) := by decide +kernel
theorem dX12_taken_13 : decode cX12_taken 13 = .ok (.ifCond .eq 7, 3) := by decide +kernel
theorem dX12_taken_16 : decode cX12_taken 16 = .ok (.iconst 1, 1) := by decide +kernel
theorem dX12_taken_17 : decode cX12_taken 17 = .ok (.goto 4, 3) := by decide +kernel
theorem dX12_taken_20 : decode cX12_taken 20 = .ok (.iconst 0, 1) := by decide +kernel
theorem dX12_taken_21 : decode cX12_taken 21 = .ok (.istore_n 3, 1) := by decide +kernel
theorem dX12_taken_22 : decode cX12_taken 22 = .ok (.aload_n 0, 1) := by decide +kernel
theorem dX12_taken_23 : decode cX12_taken 23 = .ok (.iload_n 3, 1) := by decide +kernel
theorem dX12_taken_24 : decode cX12_taken 24 = .ok (.ifCond .eq 7, 3) := by decide +kernel
theorem dX12_taken_27 : decode cX12_taken 27 = .ok (.iconst 0, 1) := by decide +kernel
theorem dX12_taken_28 : decode cX12_taken 28 = .ok (.goto 4, 3) := by decide +kernel
theorem dX12_taken_31 : decode cX12_taken 31 = .ok (.iconst 1, 1) := by decide +kernel
theorem dX12_taken_32 : decode cX12_taken 32 = .ok (.invokevirtual 198, 3) := by decide +kernel
theorem dX12_taken_35 : decode cX12_taken 35 = .ok (.ifCond .eq 16, 3) := by decide +kernel
theorem dX12_taken_38 : decode cX12_taken 38 = .ok (.aload_n 0, 1) := by decide +kernel
theorem dX12_taken_39 : decode cX12_taken 39 = .ok (.getfield 109, 3) := by decide +kernel
theorem dX12_taken_42 : decode cX12_taken 42 = .ok (.iconst 3, 1) := by decide +kernel
theorem dX12_taken_43 : decode cX12_taken 43 = .ok (.iload_n 1, 1) := by decide +kernel
theorem dX12_taken_44 : decode cX12_taken 44 = .ok (.imul, 1) := by decide +kernel
theorem dX12_taken_45 : decode cX12_taken 45 = .ok (.iload_n 2, 1) := by decide +kernel
theorem dX12_taken_46 : decode cX12_taken 46 = .ok (.iadd, 1) := by decide +kernel
theorem dX12_taken_47 : decode cX12_taken 47 = .ok (.iaload, 1) := by decide +kernel
theorem dX12_taken_48 : decode cX12_taken 48 = .ok (.goto 4, 3) := by decide +kernel
theorem dX12_taken_51 : decode cX12_taken 51 = .ok (.iconst 0, 1) := by decide +kernel
theorem dX12_taken_52 : decode cX12_taken 52 = .ok (.ireturn, 1) := by decide +kernel
theorem e_X12_taken_32 (d : Nat) {l0 l1 l2 s0 s1 : Int} {m : Mem} {v : Int} {m' : Mem} (h : X12_taken_32 l0 l1 l2 s0 s1 m = some (v, m')) : Ex (d + 2) fm_X12_taken 32 [(22, l0), (0, l1), (0, l2), (3, 0)] [(0, s0), (22, s1)] m (.inl (0, v)) m' := by
  unfold X12_taken_32 at h
  obtain ⟨c1, h⟩ := chk_some h
  obtain ⟨v2, m3, g4, h⟩ := cal_some h
  refine cV1 (e_X12_isFine (d + 1) g4) (contN (by decide) (?_ : Ex _ _ 35 _ _ _ _ _)) og_X12_isFine rfl ml_RX12_198 12 rfl rfl c1 im_X12_isFine se_X12_isFine (Nat.le_of_ble_eq_true rfl) dX12_taken_32
  rcases ite_some h with ⟨b5, h⟩ | ⟨b5, h⟩
  · refine x_if_eq (tgt := 51) dX12_taken_35 rfl b5 (?_ : Ex _ _ 51 _ _ _ _ _)
    refine x_iconst dX12_taken_51 rfl (by decide) (?_ : Ex _ _ 52 _ _ _ _ _)
    cases h
    exact x_ret dX12_taken_52 (by decide : (0 : Int) ≠ 3)
  · refine x_if_eqN dX12_taken_35 (by decide) b5 (?_ : Ex _ _ 38 _ _ _ _ _)
    refine x_aload_n dX12_taken_38 rfl rfl (Or.inr (by decide)) (?_ : Ex _ _ 39 _ _ _ _ _)
    obtain ⟨c6, h⟩ := chk_some h
    refine gt_12_37 c6 fl_RX12_109 dX12_taken_39 (?_ : Ex _ _ 42 _ _ _ _ _)
    refine x_iconst dX12_taken_42 rfl (by decide) (?_ : Ex _ _ 43 _ _ _ _ _)
    refine x_iload_n dX12_taken_43 rfl rfl (?_ : Ex _ _ 44 _ _ _ _ _)
    obtain ⟨c7, h⟩ := chk_some h
    refine x_imul dX12_taken_44 c7 (?_ : Ex _ _ 45 _ _ _ _ _)
    refine x_iload_n dX12_taken_45 rfl rfl (?_ : Ex _ _ 46 _ _ _ _ _)
    obtain ⟨c8, h⟩ := chk_some h
    refine x_iadd dX12_taken_46 c8 (?_ : Ex _ _ 47 _ _ _ _ _)
    obtain ⟨⟨c9, c10, c11⟩, h⟩ := chk_some h
    refine ld_i_6 c9 c10 c11 dX12_taken_47 (?_ : Ex _ _ 48 _ _ _ _ _)
    refine x_goto (tgt := 52) dX12_taken_48 rfl (?_ : Ex _ _ 52 _ _ _ _ _)
    cases h
    exact x_ret dX12_taken_52 (by decide : (0 : Int) ≠ 3)
theorem e_X12_taken_21 (d : Nat) {l0 l1 l2 s0 : Int} {m : Mem} {v : Int} {m' : Mem} (h : X12_taken_21 l0 l1 l2 s0 m = some (v, m')) : Ex (d + 2) fm_X12_taken 21 [(22, l0), (0, l1), (0, l2), (3, 0)] [(0, s0)] m (.inl (0, v)) m' := by
  unfold X12_taken_21 at h
  refine x_istore_n (ls2 := [(22, l0), (0, l1), (0, l2), (0, s0)]) dX12_taken_21 rfl (Nat.le_of_ble_eq_true rfl) rfl (?_ : Ex _ _ 22 _ _ _ _ _)
  refine x_aload_n dX12_taken_22 rfl rfl (Or.inr (by decide)) (?_ : Ex _ _ 23 _ _ _ _ _)
  refine x_iload_n dX12_taken_23 rfl rfl (?_ : Ex _ _ 24 _ _ _ _ _)
  rcases ite_some h with ⟨b1, h⟩ | ⟨b1, h⟩
  · refine x_if_eq (tgt := 31) dX12_taken_24 rfl b1 (?_ : Ex _ _ 31 _ _ _ _ _)
    refine x_iconst dX12_taken_31 rfl (by decide) (?_ : Ex _ _ 32 _ _ _ _ _)
    refine Ex.wk (ls2 := [(22, l0), (0, l1), (0, l2), (3, 0)]) ⟨Or.inr rfl, Or.inr rfl, Or.inr rfl, Or.inl rfl, trivial⟩ ?_
    exact e_X12_taken_32 d h
  · refine x_if_eqN dX12_taken_24 (by decide) b1 (?_ : Ex _ _ 27 _ _ _ _ _)
    refine x_iconst dX12_taken_27 rfl (by decide) (?_ : Ex _ _ 28 _ _ _ _ _)
    refine x_goto (tgt := 32) dX12_taken_28 rfl (?_ : Ex _ _ 32 _ _ _ _ _)
    refine Ex.wk (ls2 := [(22, l0), (0, l1), (0, l2), (3, 0)]) ⟨Or.inr rfl, Or.inr rfl, Or.inr rfl, Or.inl rfl, trivial⟩ ?_
    exact e_X12_taken_32 d h
theorem e_X12_taken_0 (d : Nat) {l0 l1 l2 : Int} {m : Mem} {v : Int} {m' : Mem} (h : X12_taken_0 l0 l1 l2 m = some (v, m')) : Ex (d + 2) fm_X12_taken 0 [(22, l0), (0, l1), (0, l2), (3, 0)] [] m (.inl (0, v)) m' := by
  unfold X12_taken_0 at h
  refine x_iload_n dX12_taken_0 rfl rfl (?_ : Ex _ _ 1 _ _ _ _ _)
  obtain ⟨v1, m2, g3, h⟩ := cal_some h
  refine cS1 (e_X12_isQueue d g3) (contN (by decide) (?_ : Ex _ _ 4 _ _ _ _ _)) og_X12_isQueue rfl ml_RX12_434 sm_X12_isQueue (Nat.le_of_ble_eq_true rfl) dX12_taken_1
  rcases ite_some h with ⟨b4, h⟩ | ⟨b4, h⟩
  · refine x_if_eq (tgt := 20) dX12_taken_4 rfl b4 (?_ : Ex _ _ 20 _ _ _ _ _)
    refine x_iconst dX12_taken_20 rfl (by decide) (?_ : Ex _ _ 21 _ _ _ _ _)
    exact e_X12_taken_21 d h
  · refine x_if_eqN dX12_taken_4 (by decide) b4 (?_ : Ex _ _ 7 _ _ _ _ _)
    refine x_iload_n dX12_taken_7 rfl rfl (?_ : Ex _ _ 8 _ _ _ _ _)
    refine x_iconst dX12_taken_8 rfl (by decide) (?_ : Ex _ _ 9 _ _ _ _ _)
    refine x_iconst dX12_taken_9 rfl (by decide) (?_ : Ex _ _ 10 _ _ _ _ _)
    obtain ⟨v5, m6, g7, h⟩ := cal_some h
    refine cS3 (e_X12_isIn (d + 1) g7) (contN (by decide) (?_ : Ex _ _ 13 _ _ _ _ _)) og_X12_isIn rfl ml_RX12_177 sm_X12_isIn (Nat.le_of_ble_eq_true rfl) dX12_taken_10
    rcases ite_some h with ⟨b8, h⟩ | ⟨b8, h⟩
    · refine x_if_eq (tgt := 20) dX12_taken_13 rfl b8 (?_ : Ex _ _ 20 _ _ _ _ _)
      refine x_iconst dX12_taken_20 rfl (by decide) (?_ : Ex _ _ 21 _ _ _ _ _)
      exact e_X12_taken_21 d h
    · refine x_if_eqN dX12_taken_13 (by decide) b8 (?_ : Ex _ _ 16 _ _ _ _ _)
      refine x_iconst dX12_taken_16 rfl (by decide) (?_ : Ex _ _ 17 _ _ _ _ _)
      refine x_goto (tgt := 21) dX12_taken_17 rfl (?_ : Ex _ _ 21 _ _ _ _ _)
      exact e_X12_taken_21 d h
theorem e_X12_taken (d : Nat) {a0 a1 a2 : Int} {m : Mem} {v : Int} {m' : Mem} (h : X12_taken a0 a1 a2 m = some (v, m')) : ExM (d + 2) fm_X12_taken [(22, a0), (0, a1), (0, a2)] m (.inl (0, v)) m' := by
  exact ExM.of (by decide +kernel) (Nat.le_of_ble_eq_true rfl) (cat9 rfl) retI (e_X12_taken_0 d h)
theorem dX12_ticksOnce_0 : decode cX12_ticksOnce 0 = .ok (.aload_n 0, 1) := by decide +kernel
theorem dX12_ticksOnce_1 : decode cX12_ticksOnce 1 = .ok (.dup, 1) := by decide +kernel
theorem dX12_ticksOnce_2 : decode cX12_ticksOnce 2 = .ok (.getfield 395, 3) := by decide +kernel
theorem dX12_ticksOnce_5 : decode cX12_ticksOnce 5 = .ok (.iconst 1, 1) := by decide +kernel
theorem dX12_ticksOnce_6 : decode cX12_ticksOnce 6 = .ok (.iadd, 1) := by decide +kernel
theorem dX12_ticksOnce_7 : decode cX12_ticksOnce 7 = .ok (.putfield 395, 3) := by decide +kernel
theorem dX12_ticksOnce_10 : decode cX12_ticksOnce 10 = .ok (.iconst 0, 1) := by decide +kernel
theorem dX12_ticksOnce_11 : decode cX12_ticksOnce 11 = .ok (.istore_n 1, 1) := by decide +kernel
theorem dX12_ticksOnce_12 : decode cX12_ticksOnce 12 = .ok (.iload_n 1, 1) := by decide +kernel
theorem dX12_ticksOnce_13 : decode cX12_ticksOnce 13 = .ok (.iconst 2, 1) := by decide +kernel
theorem dX12_ticksOnce_14 : decode cX12_ticksOnce 14 = .ok (.if_icmp .ge 16, 3) := by decide +kernel
theorem dX12_ticksOnce_17 : decode cX12_ticksOnce 17 = .ok (.aload_n 0, 1) := by decide +kernel
theorem dX12_ticksOnce_18 : decode cX12_ticksOnce 18 = .ok (.getfield 106, 3) := by decide +kernel
theorem dX12_ticksOnce_21 : decode cX12_ticksOnce 21 = .ok (.iload_n 1, 1) := by decide +kernel
theorem dX12_ticksOnce_22 : decode cX12_ticksOnce 22 = .ok (.iconst 0, 1) := by decide +kernel
theorem dX12_ticksOnce_23 : decode cX12_ticksOnce 23 = .ok (.iastore, 1) := by decide +kernel
theorem dX12_ticksOnce_24 : decode cX12_ticksOnce 24 = .ok (.iinc 1 1, 3) := by decide +kernel
theorem dX12_ticksOnce_27 : decode cX12_ticksOnce 27 = .ok (.goto (-15), 3) := by decide +kernel
theorem dX12_ticksOnce_30 : decode cX12_ticksOnce 30 = .ok (.iconst 0, 1) := by decide +kernel
theorem dX12_ticksOnce_31 : decode cX12_ticksOnce 31 = .ok (.istore_n 1, 1) := by decide +kernel
theorem dX12_ticksOnce_32 : decode cX12_ticksOnce 32 = .ok (.iload_n 1, 1) := by decide +kernel
theorem dX12_ticksOnce_33 : decode cX12_ticksOnce 33 = .ok (.bipush 80, 2) := by decide +kernel
theorem dX12_ticksOnce_35 : decode cX12_ticksOnce 35 = .ok (.aload_n 0, 1) := by decide +kernel
theorem dX12_ticksOnce_36 : decode cX12_ticksOnce 36 = .ok (.getfield 181, 3) := by decide +kernel
theorem dX12_ticksOnce_39 : decode cX12_ticksOnce 39 = .ok (.imul, 1) := by decide +kernel
theorem dX12_ticksOnce_40 : decode cX12_ticksOnce 40 = .ok (.if_icmp .ge 60, 3) := by decide +kernel
theorem dX12_ticksOnce_43 : decode cX12_ticksOnce 43 = .ok (.iload_n 1, 1) := by decide +kernel
theorem dX12_ticksOnce_44 : decode cX12_ticksOnce 44 = .ok (.bipush 80, 2) := by decide +kernel
theorem dX12_ticksOnce_46 : decode cX12_ticksOnce 46 = .ok (.irem, 1) := by decide +kernel
theorem dX12_ticksOnce_47 : decode cX12_ticksOnce 47 = .ok (.aload_n 0, 1) := by decide +kernel
theorem dX12_ticksOnce_48 : decode cX12_ticksOnce 48 = .ok (.getfield 88, 3) := by decide +kernel
theorem dX12_ticksOnce_51 : decode cX12_ticksOnce 51 = .ok (.iload_n 1, 1) := by decide +kernel
theorem dX12_ticksOnce_52 : decode cX12_ticksOnce 52 = .ok (.bipush 80, 2) := by decide +kernel
theorem dX12_ticksOnce_54 : decode cX12_ticksOnce 54 = .ok (.idiv, 1) := by decide +kernel
theorem dX12_ticksOnce_55 : decode cX12_ticksOnce 55 = .ok (.iaload, 1) := by decide +kernel
theorem dX12_ticksOnce_56 : decode cX12_ticksOnce 56 = .ok (.if_icmp .ge 38, 3) := by decide +kernel
theorem dX12_ticksOnce_59 : decode cX12_ticksOnce 59 = .ok (.aload_n 0, 1) := by decide +kernel
theorem dX12_ticksOnce_60 : decode cX12_ticksOnce 60 = .ok (.getfield 91, 3) := by decide +kernel
theorem dX12_ticksOnce_63 : decode cX12_ticksOnce 63 = .ok (.iload_n 1, 1) := by decide +kernel
theorem dX12_ticksOnce_64 : decode cX12_ticksOnce 64 = .ok (.iaload, 1) := by decide +kernel
theorem dX12_ticksOnce_65 : decode cX12_ticksOnce 65 = .ok (.aload_n 0, 1) := by decide +kernel
theorem dX12_ticksOnce_66 : decode cX12_ticksOnce 66 = .ok (.getfield 395, 3) := by decide +kernel
theorem dX12_ticksOnce_69 : decode cX12_ticksOnce 69 = .ok (.if_icmp .ne 25, 3) := by decide +kernel
theorem dX12_ticksOnce_72 : decode cX12_ticksOnce 72 = .ok (.aload_n 0, 1) := by decide +kernel
theorem dX12_ticksOnce_73 : decode cX12_ticksOnce 73 = .ok (.getfield 91, 3) := by decide +kernel
theorem dX12_ticksOnce_76 : decode cX12_ticksOnce 76 = .ok (.iload_n 1, 1) := by decide +kernel
theorem dX12_ticksOnce_77 : decode cX12_ticksOnce 77 = .ok (.iconst 0, 1) := by decide +kernel
theorem dX12_ticksOnce_78 : decode cX12_ticksOnce 78 = .ok (.iastore, 1) := by decide +kernel
theorem dX12_ticksOnce_79 : decode cX12_ticksOnce 79 = .ok (.aload_n 0, 1) := by decide +kernel
theorem dX12_ticksOnce_80 : decode cX12_ticksOnce 80 = .ok (.iload_n 1, 1) := by decide +kernel
theorem dX12_ticksOnce_81 : decode cX12_ticksOnce 81 = .ok (.bipush 80, 2) := by decide +kernel
theorem dX12_ticksOnce_83 : decode cX12_ticksOnce 83 = .ok (.idiv, 1) := by decide +kernel
theorem dX12_ticksOnce_84 : decode cX12_ticksOnce 84 = .ok (.iconst 3, 1) := by decide +kernel
theorem dX12_ticksOnce_85 : decode cX12_ticksOnce 85 = .ok (.iload_n 1, 1) := by decide +kernel
theorem dX12_ticksOnce_86 : decode cX12_ticksOnce 86 = .ok (.bipush 80, 2) := by decide +kernel
theorem dX12_ticksOnce_88 : decode cX12_ticksOnce 88 = .ok (.irem, 1) := by decide +kernel
theorem dX12_ticksOnce_89 : decode cX12_ticksOnce 89 = .ok (.iconst 0, 1) := by decide +kernel
theorem dX12_ticksOnce_90 : decode cX12_ticksOnce 90 = .ok (.invokevirtual 227, 3) := by decide +kernel
theorem dX12_ticksOnce_93 : decode cX12_ticksOnce 93 = .ok (.istore_n 2, 1) := by decide +kernel
theorem dX12_ticksOnce_94 : decode cX12_ticksOnce 94 = .ok (.iinc 1 1, 3) := by decide +kernel
theorem dX12_ticksOnce_97 : decode cX12_ticksOnce 97 = .ok (.goto (-65), 3) := by decide +kernel
theorem dX12_ticksOnce_100 : decode cX12_ticksOnce 100 = .ok (.iconst 0, 1) := by decide +kernel
theorem dX12_ticksOnce_101 : decode cX12_ticksOnce 101 = .ok (.istore_n 1, 1) := by decide +kernel
theorem dX12_ticksOnce_102 : decode cX12_ticksOnce 102 = .ok (.iload_n 1, 1) := by decide +kernel
theorem dX12_ticksOnce_103 : decode cX12_ticksOnce 103 = .ok (.bipush 80, 2) := by decide +kernel
theorem dX12_ticksOnce_105 : decode cX12_ticksOnce 105 = .ok (.aload_n 0, 1) := by decide +kernel
theorem dX12_ticksOnce_106 : decode cX12_ticksOnce 106 = .ok (.getfield 181, 3) := by decide +kernel
theorem dX12_ticksOnce_109 : decode cX12_ticksOnce 109 = .ok (.imul, 1) := by decide +kernel
theorem dX12_ticksOnce_110 : decode cX12_ticksOnce 110 = .ok (.if_icmp .ge 53, 3) := by decide +kernel
theorem dX12_ticksOnce_113 : decode cX12_ticksOnce 113 = .ok (.iload_n 1, 1) := by decide +kernel
theorem dX12_ticksOnce_114 : decode cX12_ticksOnce 114 = .ok (.bipush 80, 2) := by decide +kernel
theorem dX12_ticksOnce_116 : decode cX12_ticksOnce 116 = .ok (.irem, 1) := by decide +kernel
theorem dX12_ticksOnce_117 : decode cX12_ticksOnce 117 = .ok (.aload_n 0, 1) := by decide +kernel
theorem dX12_ticksOnce_118 : decode cX12_ticksOnce 118 = .ok (.getfield 67, 3) := by decide +kernel
theorem dX12_ticksOnce_121 : decode cX12_ticksOnce 121 = .ok (.iload_n 1, 1) := by decide +kernel
theorem dX12_ticksOnce_122 : decode cX12_ticksOnce 122 = .ok (.bipush 80, 2) := by decide +kernel
theorem dX12_ticksOnce_124 : decode cX12_ticksOnce 124 = .ok (.idiv, 1) := by decide +kernel
theorem dX12_ticksOnce_125 : decode cX12_ticksOnce 125 = .ok (.iaload, 1) := by decide +kernel
theorem dX12_ticksOnce_126 : decode cX12_ticksOnce 126 = .ok (.if_icmp .ge 31, 3) := by decide +kernel
theorem dX12_ticksOnce_129 : decode cX12_ticksOnce 129 = .ok (.aload_n 0, 1) := by decide +kernel
theorem dX12_ticksOnce_130 : decode cX12_ticksOnce 130 = .ok (.getfield 70, 3) := by decide +kernel
theorem dX12_ticksOnce_133 : decode cX12_ticksOnce 133 = .ok (.iload_n 1, 1) := by decide +kernel
theorem dX12_ticksOnce_134 : decode cX12_ticksOnce 134 = .ok (.iaload, 1) := by decide +kernel
theorem dX12_ticksOnce_135 : decode cX12_ticksOnce 135 = .ok (.iconst 2, 1) := by decide +kernel
theorem dX12_ticksOnce_136 : decode cX12_ticksOnce 136 = .ok (.if_icmp .ne 21, 3) := by decide +kernel
theorem dX12_ticksOnce_139 : decode cX12_ticksOnce 139 = .ok (.aload_n 0, 1) := by decide +kernel
theorem dX12_ticksOnce_140 : decode cX12_ticksOnce 140 = .ok (.getfield 82, 3) := by decide +kernel
theorem dX12_ticksOnce_143 : decode cX12_ticksOnce 143 = .ok (.iload_n 1, 1) := by decide +kernel
theorem dX12_ticksOnce_144 : decode cX12_ticksOnce 144 = .ok (.iaload, 1) := by decide +kernel
theorem dX12_ticksOnce_145 : decode cX12_ticksOnce 145 = .ok (.aload_n 0, 1) := by decide +kernel
theorem dX12_ticksOnce_146 : decode cX12_ticksOnce 146 = .ok (.getfield 395, 3) := by decide +kernel
theorem dX12_ticksOnce_149 : decode cX12_ticksOnce 149 = .ok (.if_icmp .ne 8, 3) := by decide +kernel
theorem dX12_ticksOnce_152 : decode cX12_ticksOnce 152 = .ok (.aload_n 0, 1) := by decide +kernel
theorem dX12_ticksOnce_153 : decode cX12_ticksOnce 153 = .ok (.iload_n 1, 1) := by decide +kernel
theorem dX12_ticksOnce_154 : decode cX12_ticksOnce 154 = .ok (.invokevirtual 452, 3) := by decide +kernel
theorem dX12_ticksOnce_157 : decode cX12_ticksOnce 157 = .ok (.iinc 1 1, 3) := by decide +kernel
theorem dX12_ticksOnce_160 : decode cX12_ticksOnce 160 = .ok (.goto (-58), 3) := by decide +kernel
theorem dX12_ticksOnce_163 : decode cX12_ticksOnce 163 = .ok (.iconst 0, 1) := by decide +kernel
theorem dX12_ticksOnce_164 : decode cX12_ticksOnce 164 = .ok (.istore_n 1, 1) := by decide +kernel
theorem dX12_ticksOnce_165 : decode cX12_ticksOnce 165 = .ok (.iload_n 1, 1) := by decide +kernel
theorem dX12_ticksOnce_166 : decode cX12_ticksOnce 166 = .ok (.bipush 80, 2) := by decide +kernel
theorem dX12_ticksOnce_168 : decode cX12_ticksOnce 168 = .ok (.aload_n 0, 1) := by decide +kernel
theorem dX12_ticksOnce_169 : decode cX12_ticksOnce 169 = .ok (.getfield 181, 3) := by decide +kernel
theorem dX12_ticksOnce_172 : decode cX12_ticksOnce 172 = .ok (.imul, 1) := by decide +kernel
theorem dX12_ticksOnce_173 : decode cX12_ticksOnce 173 = .ok (.if_icmp .ge 74, 3) := by decide +kernel
theorem dX12_ticksOnce_176 : decode cX12_ticksOnce 176 = .ok (.iload_n 1, 1) := by decide +kernel
theorem dX12_ticksOnce_177 : decode cX12_ticksOnce 177 = .ok (.bipush 80, 2) := by decide +kernel
theorem dX12_ticksOnce_179 : decode cX12_ticksOnce 179 = .ok (.irem, 1) := by decide +kernel
theorem dX12_ticksOnce_180 : decode cX12_ticksOnce 180 = .ok (.aload_n 0, 1) := by decide +kernel
theorem dX12_ticksOnce_181 : decode cX12_ticksOnce 181 = .ok (.getfield 67, 3) := by decide +kernel
theorem dX12_ticksOnce_184 : decode cX12_ticksOnce 184 = .ok (.iload_n 1, 1) := by decide +kernel
theorem dX12_ticksOnce_185 : decode cX12_ticksOnce 185 = .ok (.bipush 80, 2) := by decide +kernel
theorem dX12_ticksOnce_187 : decode cX12_ticksOnce 187 = .ok (.idiv, 1) := by decide +kernel
theorem dX12_ticksOnce_188 : decode cX12_ticksOnce 188 = .ok (.iaload, 1) := by decide +kernel
theorem dX12_ticksOnce_189 : decode cX12_ticksOnce 189 = .ok (.if_icmp .ge 30, 3) := by decide +kernel
theorem dX12_ticksOnce_192 : decode cX12_ticksOnce 192 = .ok (.aload_n 0, 1) := by decide +kernel
theorem dX12_ticksOnce_193 : decode cX12_ticksOnce 193 = .ok (.getfield 70, 3) := by decide +kernel
theorem dX12_ticksOnce_196 : decode cX12_ticksOnce 196 = .ok (.iload_n 1, 1) := by decide +kernel
theorem dX12_ticksOnce_197 : decode cX12_ticksOnce 197 = .ok (.iaload, 1) := by decide +kernel
theorem dX12_ticksOnce_198 : decode cX12_ticksOnce 198 = .ok (.iconst 3, 1) := by decide +kernel
theorem dX12_ticksOnce_199 : decode cX12_ticksOnce 199 = .ok (.if_icmp .ne 20, 3) := by decide +kernel
theorem dX12_ticksOnce_202 : decode cX12_ticksOnce 202 = .ok (.aload_n 0, 1) := by decide +kernel
theorem dX12_ticksOnce_203 : decode cX12_ticksOnce 203 = .ok (.getfield 79, 3) := by decide +kernel
theorem dX12_ticksOnce_206 : decode cX12_ticksOnce 206 = .ok (.iload_n 1, 1) := by decide +kernel
theorem dX12_ticksOnce_207 : decode cX12_ticksOnce 207 = .ok (.iaload, 1) := by decide +kernel
theorem dX12_ticksOnce_208 : decode cX12_ticksOnce 208 = .ok (.aload_n 0, 1) := by decide +kernel
theorem dX12_ticksOnce_209 : decode cX12_ticksOnce 209 = .ok (.getfield 395, 3) := by decide +kernel
theorem dX12_ticksOnce_212 : decode cX12_ticksOnce 212 = .ok (.if_icmp .ne 7, 3) := by decide +kernel
theorem dX12_ticksOnce_215 : decode cX12_ticksOnce 215 = .ok (.iconst 1, 1) := by decide +kernel
theorem dX12_ticksOnce_216 : decode cX12_ticksOnce 216 = .ok (.goto 4, 3) := by decide +kernel
theorem dX12_ticksOnce_219 : decode cX12_ticksOnce 219 = .ok (.iconst 0, 1) := by decide +kernel
theorem dX12_ticksOnce_220 : decode cX12_ticksOnce 220 = .ok (.istore_n 2, 1) := by decide +kernel
theorem dX12_ticksOnce_221 : decode cX12_ticksOnce 221 = .ok (.aload_n 0, 1) := by decide +kernel
theorem dX12_ticksOnce_222 : decode cX12_ticksOnce 222 = .ok (.getfield 70, 3) := by decide +kernel
theorem dX12_ticksOnce_225 : decode cX12_ticksOnce 225 = .ok (.iload_n 1, 1) := by decide +kernel
theorem dX12_ticksOnce_226 : decode cX12_ticksOnce 226 = .ok (.iload_n 2, 1) := by decide +kernel
theorem dX12_ticksOnce_227 : decode cX12_ticksOnce 227 = .ok (.ifCond .eq 7, 3) := by decide +kernel
theorem dX12_ticksOnce_230 : decode cX12_ticksOnce 230 = .ok (.iconst 1, 1) := by decide +kernel
theorem dX12_ticksOnce_231 : decode cX12_ticksOnce 231 = .ok (.goto 9, 3) := by decide +kernel
theorem dX12_ticksOnce_234 : decode cX12_ticksOnce 234 = .ok (.aload_n 0, 1) := by decide +kernel
theorem dX12_ticksOnce_235 : decode cX12_ticksOnce 235 = .ok (.getfield 70, 3) := by decide +kernel
theorem dX12_ticksOnce_238 : decode cX12_ticksOnce 238 = .ok (.iload_n 1, 1) := by decide +kernel
theorem dX12_ticksOnce_239 : decode cX12_ticksOnce 239 = .ok (.iaload, 1) := by decide +kernel
theorem dX12_ticksOnce_240 : decode cX12_ticksOnce 240 = .ok (.iastore, 1) := by decide +kernel
theorem dX12_ticksOnce_241 : decode cX12_ticksOnce 241 = .ok (.iinc 1 1, 3) := by decide +kernel
theorem dX12_ticksOnce_244 : decode cX12_ticksOnce 244 = .ok (.goto (-79), 3) := by decide +kernel
theorem dX12_ticksOnce_247 : decode cX12_ticksOnce 247 = .ok (.return_, 1) := by decide +kernel
theorem e_X12_ticksOnce_220 (d : Nat) {k165 : Int → Int → Mem → Option R2} (hk165 : ∀ {l0 l1 : Int} {m : Mem} {v : Int} {m' : Mem}, k165 l0 l1 m = some (v, m') → Ex (d + 4) fm_X12_ticksOnce 165 [(22, l0), (0, l1), (3, 0)] [] m (.inl (3, 0)) m') {l0 l1 s0 : Int} {m : Mem} {v : Int} {m' : Mem} (h : X12_ticksOnce_220 k165 l0 l1 s0 m = some (v, m')) : Ex (d + 4) fm_X12_ticksOnce 220 [(22, l0), (0, l1), (3, 0)] [(0, s0)] m (.inl (3, 0)) m' := by
  unfold X12_ticksOnce_220 at h
  refine x_istore_n (ls2 := [(22, l0), (0, l1), (0, s0)]) dX12_ticksOnce_220 rfl (Nat.le_of_ble_eq_true rfl) rfl (?_ : Ex _ _ 221 _ _ _ _ _)
  refine x_aload_n dX12_ticksOnce_221 rfl rfl (Or.inr (by decide)) (?_ : Ex _ _ 222 _ _ _ _ _)
  obtain ⟨c1, h⟩ := chk_some h
  refine gt_12_23 c1 fl_RX12_70 dX12_ticksOnce_222 (?_ : Ex _ _ 225 _ _ _ _ _)
  refine x_iload_n dX12_ticksOnce_225 rfl rfl (?_ : Ex _ _ 226 _ _ _ _ _)
  refine x_iload_n dX12_ticksOnce_226 rfl rfl (?_ : Ex _ _ 227 _ _ _ _ _)
  rcases ite_some h with ⟨b2, h⟩ | ⟨b2, h⟩
  · refine x_if_eq (tgt := 234) dX12_ticksOnce_227 rfl b2 (?_ : Ex _ _ 234 _ _ _ _ _)
    refine x_aload_n dX12_ticksOnce_234 rfl rfl (Or.inr (by decide)) (?_ : Ex _ _ 235 _ _ _ _ _)
    refine gt_12_23 c1 fl_RX12_70 dX12_ticksOnce_235 (?_ : Ex _ _ 238 _ _ _ _ _)
    refine x_iload_n dX12_ticksOnce_238 rfl rfl (?_ : Ex _ _ 239 _ _ _ _ _)
    obtain ⟨⟨c3, c4, c5⟩, h⟩ := chk_some h
    refine ld_i_800 c3 c4 c5 dX12_ticksOnce_239 (?_ : Ex _ _ 240 _ _ _ _ _)
    obtain ⟨⟨c6, c7⟩, h⟩ := chk_some h
    obtain ⟨m8, hm8, h⟩ := st_some h
    refine sd_i_800 c3 c6 c7 dX12_ticksOnce_240 (?_ : Ex _ _ 241 _ _ _ _ _)
    rw [← hm8]
    obtain ⟨c9, h⟩ := chk_some h
    refine x_iinc (ls2 := [(22, l0), (0, (l1 + 1)), (0, s0)]) dX12_ticksOnce_241 rfl c9 rfl (?_ : Ex _ _ 244 _ _ _ _ _)
    refine x_goto (tgt := 165) dX12_ticksOnce_244 rfl (?_ : Ex _ _ 165 _ _ _ _ _)
    refine Ex.wk (ls2 := [(22, l0), (0, (l1 + 1)), (3, 0)]) ⟨Or.inr rfl, Or.inr rfl, Or.inl rfl, trivial⟩ ?_
    exact hk165 h
  · refine x_if_eqN dX12_ticksOnce_227 (by decide) b2 (?_ : Ex _ _ 230 _ _ _ _ _)
    refine x_iconst dX12_ticksOnce_230 rfl (by decide) (?_ : Ex _ _ 231 _ _ _ _ _)
    refine x_goto (tgt := 240) dX12_ticksOnce_231 rfl (?_ : Ex _ _ 240 _ _ _ _ _)
    obtain ⟨⟨c10, c11, c12⟩, h⟩ := chk_some h
    obtain ⟨m13, hm13, h⟩ := st_some h
    refine sd_i_800 c10 c11 c12 dX12_ticksOnce_240 (?_ : Ex _ _ 241 _ _ _ _ _)
    rw [← hm13]
    obtain ⟨c14, h⟩ := chk_some h
    refine x_iinc (ls2 := [(22, l0), (0, (l1 + 1)), (0, s0)]) dX12_ticksOnce_241 rfl c14 rfl (?_ : Ex _ _ 244 _ _ _ _ _)
    refine x_goto (tgt := 165) dX12_ticksOnce_244 rfl (?_ : Ex _ _ 165 _ _ _ _ _)
    refine Ex.wk (ls2 := [(22, l0), (0, (l1 + 1)), (3, 0)]) ⟨Or.inr rfl, Or.inr rfl, Or.inl rfl, trivial⟩ ?_
    exact hk165 h
theorem e_X12_ticksOnce_165 (d : Nat) : ∀ (n : Nat) {l0 l1 : Int} {m : Mem} {v : Int} {m' : Mem}, X12_ticksOnce_165 n l0 l1 m = some (v, m') → Ex (d + 4) fm_X12_ticksOnce 165 [(22, l0), (0, l1), (3, 0)] [] m (.inl (3, 0)) m' := by
  intro n
  induction n with
  | zero =>
    intro l0 l1 m v m' h
    have h : (none : Option R2) = some _ := h
    cases h
  | succ n ih =>
    intro l0 l1 m v m' h
    rw [X12_ticksOnce_165] at h
    refine x_iload_n dX12_ticksOnce_165 rfl rfl (?_ : Ex _ _ 166 _ _ _ _ _)
    refine x_bipush dX12_ticksOnce_166 kb_80 (by decide) (?_ : Ex _ _ 168 _ _ _ _ _)
    refine x_aload_n dX12_ticksOnce_168 rfl rfl (Or.inr (by decide)) (?_ : Ex _ _ 169 _ _ _ _ _)
    obtain ⟨c1, h⟩ := chk_some h
    refine gt_12_16 c1 fl_RX12_181 dX12_ticksOnce_169 (?_ : Ex _ _ 172 _ _ _ _ _)
    obtain ⟨c2, h⟩ := chk_some h
    refine x_imul dX12_ticksOnce_172 c2 (?_ : Ex _ _ 173 _ _ _ _ _)
    rcases ite_some h with ⟨b3, h⟩ | ⟨b3, h⟩
    · refine x_icmp_ge (tgt := 247) dX12_ticksOnce_173 rfl b3 (?_ : Ex _ _ 247 _ _ _ _ _)
      cases h
      exact x_retv dX12_ticksOnce_247
    · refine x_icmp_geN dX12_ticksOnce_173 (by decide) b3 (?_ : Ex _ _ 176 _ _ _ _ _)
      refine x_iload_n dX12_ticksOnce_176 rfl rfl (?_ : Ex _ _ 177 _ _ _ _ _)
      refine x_bipush dX12_ticksOnce_177 kb_80 (by decide) (?_ : Ex _ _ 179 _ _ _ _ _)
      obtain ⟨c4, h⟩ := chk_some h
      refine x_irem dX12_ticksOnce_179 c4 (by decide) (?_ : Ex _ _ 180 _ _ _ _ _)
      refine x_aload_n dX12_ticksOnce_180 rfl rfl (Or.inr (by decide)) (?_ : Ex _ _ 181 _ _ _ _ _)
      refine gt_12_22 c1 fl_RX12_67 dX12_ticksOnce_181 (?_ : Ex _ _ 184 _ _ _ _ _)
      refine x_iload_n dX12_ticksOnce_184 rfl rfl (?_ : Ex _ _ 185 _ _ _ _ _)
      refine x_bipush dX12_ticksOnce_185 kb_80 (by decide) (?_ : Ex _ _ 187 _ _ _ _ _)
      obtain ⟨c5, h⟩ := chk_some h
      refine x_idiv dX12_ticksOnce_187 c5 (by decide) (?_ : Ex _ _ 188 _ _ _ _ _)
      obtain ⟨⟨c6, c7, c8⟩, h⟩ := chk_some h
      refine ld_i_10 c6 c7 c8 dX12_ticksOnce_188 (?_ : Ex _ _ 189 _ _ _ _ _)
      rcases ite_some h with ⟨b9, h⟩ | ⟨b9, h⟩
      · refine x_icmp_ge (tgt := 219) dX12_ticksOnce_189 rfl b9 (?_ : Ex _ _ 219 _ _ _ _ _)
        refine x_iconst dX12_ticksOnce_219 rfl (by decide) (?_ : Ex _ _ 220 _ _ _ _ _)
        exact e_X12_ticksOnce_220 d ih h
      · refine x_icmp_geN dX12_ticksOnce_189 (by decide) b9 (?_ : Ex _ _ 192 _ _ _ _ _)
        refine x_aload_n dX12_ticksOnce_192 rfl rfl (Or.inr (by decide)) (?_ : Ex _ _ 193 _ _ _ _ _)
        refine gt_12_23 c1 fl_RX12_70 dX12_ticksOnce_193 (?_ : Ex _ _ 196 _ _ _ _ _)
        refine x_iload_n dX12_ticksOnce_196 rfl rfl (?_ : Ex _ _ 197 _ _ _ _ _)
        obtain ⟨⟨c10, c11, c12⟩, h⟩ := chk_some h
        refine ld_i_800 c10 c11 c12 dX12_ticksOnce_197 (?_ : Ex _ _ 198 _ _ _ _ _)
        refine x_iconst dX12_ticksOnce_198 rfl (by decide) (?_ : Ex _ _ 199 _ _ _ _ _)
        rcases ite_some h with ⟨b13, h⟩ | ⟨b13, h⟩
        · refine x_icmp_neN dX12_ticksOnce_199 (by decide) (fun hh => hh b13) (?_ : Ex _ _ 202 _ _ _ _ _)
          refine x_aload_n dX12_ticksOnce_202 rfl rfl (Or.inr (by decide)) (?_ : Ex _ _ 203 _ _ _ _ _)
          refine gt_12_26 c1 fl_RX12_79 dX12_ticksOnce_203 (?_ : Ex _ _ 206 _ _ _ _ _)
          refine x_iload_n dX12_ticksOnce_206 rfl rfl (?_ : Ex _ _ 207 _ _ _ _ _)
          obtain ⟨⟨c14, c15, c16⟩, h⟩ := chk_some h
          refine ld_i_800 c14 c15 c16 dX12_ticksOnce_207 (?_ : Ex _ _ 208 _ _ _ _ _)
          refine x_aload_n dX12_ticksOnce_208 rfl rfl (Or.inr (by decide)) (?_ : Ex _ _ 209 _ _ _ _ _)
          refine gt_12_1 c1 fl_RX12_395 dX12_ticksOnce_209 (?_ : Ex _ _ 212 _ _ _ _ _)
          rcases ite_some h with ⟨b17, h⟩ | ⟨b17, h⟩
          · refine x_icmp_neN dX12_ticksOnce_212 (by decide) (fun hh => hh b17) (?_ : Ex _ _ 215 _ _ _ _ _)
            refine x_iconst dX12_ticksOnce_215 rfl (by decide) (?_ : Ex _ _ 216 _ _ _ _ _)
            refine x_goto (tgt := 220) dX12_ticksOnce_216 rfl (?_ : Ex _ _ 220 _ _ _ _ _)
            exact e_X12_ticksOnce_220 d ih h
          · refine x_icmp_ne (tgt := 219) dX12_ticksOnce_212 rfl b17 (?_ : Ex _ _ 219 _ _ _ _ _)
            refine x_iconst dX12_ticksOnce_219 rfl (by decide) (?_ : Ex _ _ 220 _ _ _ _ _)
            exact e_X12_ticksOnce_220 d ih h
        · refine x_icmp_ne (tgt := 219) dX12_ticksOnce_199 rfl b13 (?_ : Ex _ _ 219 _ _ _ _ _)
          refine x_iconst dX12_ticksOnce_219 rfl (by decide) (?_ : Ex _ _ 220 _ _ _ _ _)
          exact e_X12_ticksOnce_220 d ih h
theorem e_X12_ticksOnce_102 (d : Nat) {k165 : Int → Int → Mem → Option R2} (hk165 : ∀ {l0 l1 : Int} {m : Mem} {v : Int} {m' : Mem}, k165 l0 l1 m = some (v, m') → Ex (d + 4) fm_X12_ticksOnce 165 [(22, l0), (0, l1), (3, 0)] [] m (.inl (3, 0)) m') : ∀ (n : Nat) {l0 l1 : Int} {m : Mem} {v : Int} {m' : Mem}, X12_ticksOnce_102 k165 n l0 l1 m = some (v, m') → Ex (d + 4) fm_X12_ticksOnce 102 [(22, l0), (0, l1), (3, 0)] [] m (.inl (3, 0)) m' := by
  intro n
  induction n with
  | zero =>
    intro l0 l1 m v m' h
    have h : (none : Option R2) = some _ := h
    cases h
  | succ n ih =>
    intro l0 l1 m v m' h
    rw [X12_ticksOnce_102] at h
    refine x_iload_n dX12_ticksOnce_102 rfl rfl (?_ : Ex _ _ 103 _ _ _ _ _)
    refine x_bipush dX12_ticksOnce_103 kb_80 (by decide) (?_ : Ex _ _ 105 _ _ _ _ _)
    refine x_aload_n dX12_ticksOnce_105 rfl rfl (Or.inr (by decide)) (?_ : Ex _ _ 106 _ _ _ _ _)
    obtain ⟨c1, h⟩ := chk_some h
    refine gt_12_16 c1 fl_RX12_181 dX12_ticksOnce_106 (?_ : Ex _ _ 109 _ _ _ _ _)
    obtain ⟨c2, h⟩ := chk_some h
    refine x_imul dX12_ticksOnce_109 c2 (?_ : Ex _ _ 110 _ _ _ _ _)
    rcases ite_some h with ⟨b3, h⟩ | ⟨b3, h⟩
    · refine x_icmp_ge (tgt := 163) dX12_ticksOnce_110 rfl b3 (?_ : Ex _ _ 163 _ _ _ _ _)
      refine x_iconst dX12_ticksOnce_163 rfl (by decide) (?_ : Ex _ _ 164 _ _ _ _ _)
      refine x_istore_n (ls2 := [(22, l0), (0, 0), (3, 0)]) dX12_ticksOnce_164 rfl (Nat.le_of_ble_eq_true rfl) rfl (?_ : Ex _ _ 165 _ _ _ _ _)
      exact hk165 h
    · refine x_icmp_geN dX12_ticksOnce_110 (by decide) b3 (?_ : Ex _ _ 113 _ _ _ _ _)
      refine x_iload_n dX12_ticksOnce_113 rfl rfl (?_ : Ex _ _ 114 _ _ _ _ _)
      refine x_bipush dX12_ticksOnce_114 kb_80 (by decide) (?_ : Ex _ _ 116 _ _ _ _ _)
      obtain ⟨c4, h⟩ := chk_some h
      refine x_irem dX12_ticksOnce_116 c4 (by decide) (?_ : Ex _ _ 117 _ _ _ _ _)
      refine x_aload_n dX12_ticksOnce_117 rfl rfl (Or.inr (by decide)) (?_ : Ex _ _ 118 _ _ _ _ _)
      refine gt_12_22 c1 fl_RX12_67 dX12_ticksOnce_118 (?_ : Ex _ _ 121 _ _ _ _ _)
      refine x_iload_n dX12_ticksOnce_121 rfl rfl (?_ : Ex _ _ 122 _ _ _ _ _)
      refine x_bipush dX12_ticksOnce_122 kb_80 (by decide) (?_ : Ex _ _ 124 _ _ _ _ _)
      obtain ⟨c5, h⟩ := chk_some h
      refine x_idiv dX12_ticksOnce_124 c5 (by decide) (?_ : Ex _ _ 125 _ _ _ _ _)
      obtain ⟨⟨c6, c7, c8⟩, h⟩ := chk_some h
      refine ld_i_10 c6 c7 c8 dX12_ticksOnce_125 (?_ : Ex _ _ 126 _ _ _ _ _)
      rcases ite_some h with ⟨b9, h⟩ | ⟨b9, h⟩
      · refine x_icmp_ge (tgt := 157) dX12_ticksOnce_126 rfl b9 (?_ : Ex _ _ 157 _ _ _ _ _)
        obtain ⟨c10, h⟩ := chk_some h
        refine x_iinc (ls2 := [(22, l0), (0, (l1 + 1)), (3, 0)]) dX12_ticksOnce_157 rfl c10 rfl (?_ : Ex _ _ 160 _ _ _ _ _)
        refine x_goto (tgt := 102) dX12_ticksOnce_160 rfl (?_ : Ex _ _ 102 _ _ _ _ _)
        exact ih h
      · refine x_icmp_geN dX12_ticksOnce_126 (by decide) b9 (?_ : Ex _ _ 129 _ _ _ _ _)
        refine x_aload_n dX12_ticksOnce_129 rfl rfl (Or.inr (by decide)) (?_ : Ex _ _ 130 _ _ _ _ _)
        refine gt_12_23 c1 fl_RX12_70 dX12_ticksOnce_130 (?_ : Ex _ _ 133 _ _ _ _ _)
        refine x_iload_n dX12_ticksOnce_133 rfl rfl (?_ : Ex _ _ 134 _ _ _ _ _)
        obtain ⟨⟨c11, c12, c13⟩, h⟩ := chk_some h
        refine ld_i_800 c11 c12 c13 dX12_ticksOnce_134 (?_ : Ex _ _ 135 _ _ _ _ _)
        refine x_iconst dX12_ticksOnce_135 rfl (by decide) (?_ : Ex _ _ 136 _ _ _ _ _)
        rcases ite_some h with ⟨b14, h⟩ | ⟨b14, h⟩
        · refine x_icmp_neN dX12_ticksOnce_136 (by decide) (fun hh => hh b14) (?_ : Ex _ _ 139 _ _ _ _ _)
          refine x_aload_n dX12_ticksOnce_139 rfl rfl (Or.inr (by decide)) (?_ : Ex _ _ 140 _ _ _ _ _)
          refine gt_12_27 c1 fl_RX12_82 dX12_ticksOnce_140 (?_ : Ex _ _ 143 _ _ _ _ _)
          refine x_iload_n dX12_ticksOnce_143 rfl rfl (?_ : Ex _ _ 144 _ _ _ _ _)
          obtain ⟨⟨c16, c17, c18⟩, h⟩ := chk_some h
          refine ld_i_800 c16 c17 c18 dX12_ticksOnce_144 (?_ : Ex _ _ 145 _ _ _ _ _)
          refine x_aload_n dX12_ticksOnce_145 rfl rfl (Or.inr (by decide)) (?_ : Ex _ _ 146 _ _ _ _ _)
          refine gt_12_1 c1 fl_RX12_395 dX12_ticksOnce_146 (?_ : Ex _ _ 149 _ _ _ _ _)
          rcases ite_some h with ⟨b19, h⟩ | ⟨b19, h⟩
          · refine x_icmp_neN dX12_ticksOnce_149 (by decide) (fun hh => hh b19) (?_ : Ex _ _ 152 _ _ _ _ _)
            refine x_aload_n dX12_ticksOnce_152 rfl rfl (Or.inr (by decide)) (?_ : Ex _ _ 153 _ _ _ _ _)
            refine x_iload_n dX12_ticksOnce_153 rfl rfl (?_ : Ex _ _ 154 _ _ _ _ _)
            obtain ⟨v21, m22, g23, h⟩ := cal_some h
            refine cV1 (e_X12_failsTry d g23) (contV (?_ : Ex _ _ 157 _ _ _ _ _)) og_X12_failsTry rfl ml_RX12_452 12 rfl rfl c1 im_X12_failsTry se_X12_failsTry (Nat.le_of_ble_eq_true rfl) dX12_ticksOnce_154
            obtain ⟨c24, h⟩ := chk_some h
            refine x_iinc (ls2 := [(22, l0), (0, (l1 + 1)), (3, 0)]) dX12_ticksOnce_157 rfl c24 rfl (?_ : Ex _ _ 160 _ _ _ _ _)
            refine x_goto (tgt := 102) dX12_ticksOnce_160 rfl (?_ : Ex _ _ 102 _ _ _ _ _)
            exact ih h
          · refine x_icmp_ne (tgt := 157) dX12_ticksOnce_149 rfl b19 (?_ : Ex _ _ 157 _ _ _ _ _)
            obtain ⟨c20, h⟩ := chk_some h
            refine x_iinc (ls2 := [(22, l0), (0, (l1 + 1)), (3, 0)]) dX12_ticksOnce_157 rfl c20 rfl (?_ : Ex _ _ 160 _ _ _ _ _)
            refine x_goto (tgt := 102) dX12_ticksOnce_160 rfl (?_ : Ex _ _ 102 _ _ _ _ _)
            exact ih h
        · refine x_icmp_ne (tgt := 157) dX12_ticksOnce_136 rfl b14 (?_ : Ex _ _ 157 _ _ _ _ _)
          obtain ⟨c15, h⟩ := chk_some h
          refine x_iinc (ls2 := [(22, l0), (0, (l1 + 1)), (3, 0)]) dX12_ticksOnce_157 rfl c15 rfl (?_ : Ex _ _ 160 _ _ _ _ _)
          refine x_goto (tgt := 102) dX12_ticksOnce_160 rfl (?_ : Ex _ _ 102 _ _ _ _ _)
          exact ih h
theorem e_X12_ticksOnce_32 (d : Nat) {k102 : Int → Int → Mem → Option R2} (hk102 : ∀ {l0 l1 : Int} {m : Mem} {v : Int} {m' : Mem}, k102 l0 l1 m = some (v, m') → Ex (d + 4) fm_X12_ticksOnce 102 [(22, l0), (0, l1), (3, 0)] [] m (.inl (3, 0)) m') : ∀ (n : Nat) {l0 l1 : Int} {m : Mem} {v : Int} {m' : Mem}, X12_ticksOnce_32 k102 n l0 l1 m = some (v, m') → Ex (d + 4) fm_X12_ticksOnce 32 [(22, l0), (0, l1), (3, 0)] [] m (.inl (3, 0)) m' := by
  intro n
  induction n with
  | zero =>
    intro l0 l1 m v m' h
    have h : (none : Option R2) = some _ := h
    cases h
  | succ n ih =>
    intro l0 l1 m v m' h
    rw [X12_ticksOnce_32] at h
    refine x_iload_n dX12_ticksOnce_32 rfl rfl (?_ : Ex _ _ 33 _ _ _ _ _)
    refine x_bipush dX12_ticksOnce_33 kb_80 (by decide) (?_ : Ex _ _ 35 _ _ _ _ _)
    refine x_aload_n dX12_ticksOnce_35 rfl rfl (Or.inr (by decide)) (?_ : Ex _ _ 36 _ _ _ _ _)
    obtain ⟨c1, h⟩ := chk_some h
    refine gt_12_16 c1 fl_RX12_181 dX12_ticksOnce_36 (?_ : Ex _ _ 39 _ _ _ _ _)
    obtain ⟨c2, h⟩ := chk_some h
    refine x_imul dX12_ticksOnce_39 c2 (?_ : Ex _ _ 40 _ _ _ _ _)
    rcases ite_some h with ⟨b3, h⟩ | ⟨b3, h⟩
    · refine x_icmp_ge (tgt := 100) dX12_ticksOnce_40 rfl b3 (?_ : Ex _ _ 100 _ _ _ _ _)
      refine x_iconst dX12_ticksOnce_100 rfl (by decide) (?_ : Ex _ _ 101 _ _ _ _ _)
      refine x_istore_n (ls2 := [(22, l0), (0, 0), (3, 0)]) dX12_ticksOnce_101 rfl (Nat.le_of_ble_eq_true rfl) rfl (?_ : Ex _ _ 102 _ _ _ _ _)
      exact hk102 h
    · refine x_icmp_geN dX12_ticksOnce_40 (by decide) b3 (?_ : Ex _ _ 43 _ _ _ _ _)
      refine x_iload_n dX12_ticksOnce_43 rfl rfl (?_ : Ex _ _ 44 _ _ _ _ _)
      refine x_bipush dX12_ticksOnce_44 kb_80 (by decide) (?_ : Ex _ _ 46 _ _ _ _ _)
      obtain ⟨c4, h⟩ := chk_some h
      refine x_irem dX12_ticksOnce_46 c4 (by decide) (?_ : Ex _ _ 47 _ _ _ _ _)
      refine x_aload_n dX12_ticksOnce_47 rfl rfl (Or.inr (by decide)) (?_ : Ex _ _ 48 _ _ _ _ _)
      refine gt_12_30 c1 fl_RX12_88 dX12_ticksOnce_48 (?_ : Ex _ _ 51 _ _ _ _ _)
      refine x_iload_n dX12_ticksOnce_51 rfl rfl (?_ : Ex _ _ 52 _ _ _ _ _)
      refine x_bipush dX12_ticksOnce_52 kb_80 (by decide) (?_ : Ex _ _ 54 _ _ _ _ _)
      obtain ⟨c5, h⟩ := chk_some h
      refine x_idiv dX12_ticksOnce_54 c5 (by decide) (?_ : Ex _ _ 55 _ _ _ _ _)
      obtain ⟨⟨c6, c7, c8⟩, h⟩ := chk_some h
      refine ld_i_10 c6 c7 c8 dX12_ticksOnce_55 (?_ : Ex _ _ 56 _ _ _ _ _)
      rcases ite_some h with ⟨b9, h⟩ | ⟨b9, h⟩
      · refine x_icmp_ge (tgt := 94) dX12_ticksOnce_56 rfl b9 (?_ : Ex _ _ 94 _ _ _ _ _)
        obtain ⟨c10, h⟩ := chk_some h
        refine x_iinc (ls2 := [(22, l0), (0, (l1 + 1)), (3, 0)]) dX12_ticksOnce_94 rfl c10 rfl (?_ : Ex _ _ 97 _ _ _ _ _)
        refine x_goto (tgt := 32) dX12_ticksOnce_97 rfl (?_ : Ex _ _ 32 _ _ _ _ _)
        exact ih h
      · refine x_icmp_geN dX12_ticksOnce_56 (by decide) b9 (?_ : Ex _ _ 59 _ _ _ _ _)
        refine x_aload_n dX12_ticksOnce_59 rfl rfl (Or.inr (by decide)) (?_ : Ex _ _ 60 _ _ _ _ _)
        refine gt_12_31 c1 fl_RX12_91 dX12_ticksOnce_60 (?_ : Ex _ _ 63 _ _ _ _ _)
        refine x_iload_n dX12_ticksOnce_63 rfl rfl (?_ : Ex _ _ 64 _ _ _ _ _)
        obtain ⟨⟨c11, c12, c13⟩, h⟩ := chk_some h
        refine ld_i_800 c11 c12 c13 dX12_ticksOnce_64 (?_ : Ex _ _ 65 _ _ _ _ _)
        refine x_aload_n dX12_ticksOnce_65 rfl rfl (Or.inr (by decide)) (?_ : Ex _ _ 66 _ _ _ _ _)
        refine gt_12_1 c1 fl_RX12_395 dX12_ticksOnce_66 (?_ : Ex _ _ 69 _ _ _ _ _)
        rcases ite_some h with ⟨b14, h⟩ | ⟨b14, h⟩
        · refine x_icmp_neN dX12_ticksOnce_69 (by decide) (fun hh => hh b14) (?_ : Ex _ _ 72 _ _ _ _ _)
          refine x_aload_n dX12_ticksOnce_72 rfl rfl (Or.inr (by decide)) (?_ : Ex _ _ 73 _ _ _ _ _)
          refine gt_12_31 c1 fl_RX12_91 dX12_ticksOnce_73 (?_ : Ex _ _ 76 _ _ _ _ _)
          refine x_iload_n dX12_ticksOnce_76 rfl rfl (?_ : Ex _ _ 77 _ _ _ _ _)
          refine x_iconst dX12_ticksOnce_77 rfl (by decide) (?_ : Ex _ _ 78 _ _ _ _ _)
          obtain ⟨⟨c16, c17⟩, h⟩ := chk_some h
          obtain ⟨m18, hm18, h⟩ := st_some h
          refine sd_i_800 c11 c16 c17 dX12_ticksOnce_78 (?_ : Ex _ _ 79 _ _ _ _ _)
          rw [← hm18]
          refine x_aload_n dX12_ticksOnce_79 rfl rfl (Or.inr (by decide)) (?_ : Ex _ _ 80 _ _ _ _ _)
          refine x_iload_n dX12_ticksOnce_80 rfl rfl (?_ : Ex _ _ 81 _ _ _ _ _)
          refine x_bipush dX12_ticksOnce_81 kb_80 (by decide) (?_ : Ex _ _ 83 _ _ _ _ _)
          obtain ⟨c19, h⟩ := chk_some h
          refine x_idiv dX12_ticksOnce_83 c19 (by decide) (?_ : Ex _ _ 84 _ _ _ _ _)
          refine x_iconst dX12_ticksOnce_84 rfl (by decide) (?_ : Ex _ _ 85 _ _ _ _ _)
          refine x_iload_n dX12_ticksOnce_85 rfl rfl (?_ : Ex _ _ 86 _ _ _ _ _)
          refine x_bipush dX12_ticksOnce_86 kb_80 (by decide) (?_ : Ex _ _ 88 _ _ _ _ _)
          obtain ⟨c20, h⟩ := chk_some h
          refine x_irem dX12_ticksOnce_88 c20 (by decide) (?_ : Ex _ _ 89 _ _ _ _ _)
          refine x_iconst dX12_ticksOnce_89 rfl (by decide) (?_ : Ex _ _ 90 _ _ _ _ _)
          obtain ⟨v21, m22, g23, h⟩ := cal_some h
          refine cV4 (e_X12_happens (d + 1) g23) (contN (by decide) (?_ : Ex _ _ 93 _ _ _ _ _)) og_X12_happens rfl ml_RX12_227 12 rfl rfl c1 im_X12_happens se_X12_happens (Nat.le_of_ble_eq_true rfl) dX12_ticksOnce_90
          refine x_istore_n (ls2 := [(22, l0), (0, l1), (0, v21)]) dX12_ticksOnce_93 rfl (Nat.le_of_ble_eq_true rfl) rfl (?_ : Ex _ _ 94 _ _ _ _ _)
          obtain ⟨c24, h⟩ := chk_some h
          refine x_iinc (ls2 := [(22, l0), (0, (l1 + 1)), (0, v21)]) dX12_ticksOnce_94 rfl c24 rfl (?_ : Ex _ _ 97 _ _ _ _ _)
          refine x_goto (tgt := 32) dX12_ticksOnce_97 rfl (?_ : Ex _ _ 32 _ _ _ _ _)
          refine Ex.wk (ls2 := [(22, l0), (0, (l1 + 1)), (3, 0)]) ⟨Or.inr rfl, Or.inr rfl, Or.inl rfl, trivial⟩ ?_
          exact ih h
        · refine x_icmp_ne (tgt := 94) dX12_ticksOnce_69 rfl b14 (?_ : Ex _ _ 94 _ _ _ _ _)
          obtain ⟨c15, h⟩ := chk_some h
          refine x_iinc (ls2 := [(22, l0), (0, (l1 + 1)), (3, 0)]) dX12_ticksOnce_94 rfl c15 rfl (?_ : Ex _ _ 97 _ _ _ _ _)
          refine x_goto (tgt := 32) dX12_ticksOnce_97 rfl (?_ : Ex _ _ 32 _ _ _ _ _)
          exact ih h
theorem e_X12_ticksOnce_12 (d : Nat) {k32 : Int → Int → Mem → Option R2} (hk32 : ∀ {l0 l1 : Int} {m : Mem} {v : Int} {m' : Mem}, k32 l0 l1 m = some (v, m') → Ex (d + 4) fm_X12_ticksOnce 32 [(22, l0), (0, l1), (3, 0)] [] m (.inl (3, 0)) m') : ∀ (n : Nat) {l0 l1 : Int} {m : Mem} {v : Int} {m' : Mem}, X12_ticksOnce_12 k32 n l0 l1 m = some (v, m') → Ex (d + 4) fm_X12_ticksOnce 12 [(22, l0), (0, l1), (3, 0)] [] m (.inl (3, 0)) m' := by
  intro n
  induction n with
  | zero =>
    intro l0 l1 m v m' h
    have h : (none : Option R2) = some _ := h
    cases h
  | succ n ih =>
    intro l0 l1 m v m' h
    rw [X12_ticksOnce_12] at h
    refine x_iload_n dX12_ticksOnce_12 rfl rfl (?_ : Ex _ _ 13 _ _ _ _ _)
    refine x_iconst dX12_ticksOnce_13 rfl (by decide) (?_ : Ex _ _ 14 _ _ _ _ _)
    rcases ite_some h with ⟨b1, h⟩ | ⟨b1, h⟩
    · refine x_icmp_ge (tgt := 30) dX12_ticksOnce_14 rfl b1 (?_ : Ex _ _ 30 _ _ _ _ _)
      refine x_iconst dX12_ticksOnce_30 rfl (by decide) (?_ : Ex _ _ 31 _ _ _ _ _)
      refine x_istore_n (ls2 := [(22, l0), (0, 0), (3, 0)]) dX12_ticksOnce_31 rfl (Nat.le_of_ble_eq_true rfl) rfl (?_ : Ex _ _ 32 _ _ _ _ _)
      exact hk32 h
    · refine x_icmp_geN dX12_ticksOnce_14 (by decide) b1 (?_ : Ex _ _ 17 _ _ _ _ _)
      refine x_aload_n dX12_ticksOnce_17 rfl rfl (Or.inr (by decide)) (?_ : Ex _ _ 18 _ _ _ _ _)
      obtain ⟨c2, h⟩ := chk_some h
      refine gt_12_36 c2 fl_RX12_106 dX12_ticksOnce_18 (?_ : Ex _ _ 21 _ _ _ _ _)
      refine x_iload_n dX12_ticksOnce_21 rfl rfl (?_ : Ex _ _ 22 _ _ _ _ _)
      refine x_iconst dX12_ticksOnce_22 rfl (by decide) (?_ : Ex _ _ 23 _ _ _ _ _)
      obtain ⟨⟨c3, c4, c5⟩, h⟩ := chk_some h
      obtain ⟨m6, hm6, h⟩ := st_some h
      refine sd_i_2 c3 c4 c5 dX12_ticksOnce_23 (?_ : Ex _ _ 24 _ _ _ _ _)
      rw [← hm6]
      obtain ⟨c7, h⟩ := chk_some h
      refine x_iinc (ls2 := [(22, l0), (0, (l1 + 1)), (3, 0)]) dX12_ticksOnce_24 rfl c7 rfl (?_ : Ex _ _ 27 _ _ _ _ _)
      refine x_goto (tgt := 12) dX12_ticksOnce_27 rfl (?_ : Ex _ _ 12 _ _ _ _ _)
      exact ih h
theorem e_X12_ticksOnce_0 (d : Nat) {l0 : Int} {m : Mem} {v : Int} {m' : Mem} (h : X12_ticksOnce_0 l0 m = some (v, m')) : Ex (d + 4) fm_X12_ticksOnce 0 [(22, l0), (3, 0), (3, 0)] [] m (.inl (3, 0)) m' := by
  unfold X12_ticksOnce_0 at h
  refine x_aload_n dX12_ticksOnce_0 rfl rfl (Or.inr (by decide)) (?_ : Ex _ _ 1 _ _ _ _ _)
  refine x_dup (by decide : (22 : Int) ≠ 2) dX12_ticksOnce_1 (?_ : Ex _ _ 2 _ _ _ _ _)
  obtain ⟨c1, h⟩ := chk_some h
  refine gt_12_1 c1 fl_RX12_395 dX12_ticksOnce_2 (?_ : Ex _ _ 5 _ _ _ _ _)
  refine x_iconst dX12_ticksOnce_5 rfl (by decide) (?_ : Ex _ _ 6 _ _ _ _ _)
  obtain ⟨c2, h⟩ := chk_some h
  refine x_iadd dX12_ticksOnce_6 c2 (?_ : Ex _ _ 7 _ _ _ _ _)
  obtain ⟨m3, hm3, h⟩ := st_some h
  refine pt_12_1  c1 fl_RX12_395 dX12_ticksOnce_7 (?_ : Ex _ _ 10 _ _ _ _ _)
  rw [← hm3]
  refine x_iconst dX12_ticksOnce_10 rfl (by decide) (?_ : Ex _ _ 11 _ _ _ _ _)
  refine x_istore_n (ls2 := [(22, l0), (0, 0), (3, 0)]) dX12_ticksOnce_11 rfl (Nat.le_of_ble_eq_true rfl) rfl (?_ : Ex _ _ 12 _ _ _ _ _)
  exact e_X12_ticksOnce_12 d (fun h => e_X12_ticksOnce_32 d (fun h => e_X12_ticksOnce_102 d (fun h => e_X12_ticksOnce_165 d fuel9 h) fuel9 h) fuel9 h) fuel9 h
theorem e_X12_ticksOnce (d : Nat) {a0 : Int} {m : Mem} {v : Int} {m' : Mem} (h : X12_ticksOnce a0 m = some (v, m')) : ExM (d + 4) fm_X12_ticksOnce [(22, a0)] m (.inl (3, 0)) m' := by
  exact ExM.of (by decide +kernel) (Nat.le_of_ble_eq_true rfl) (cat9 rfl) retV (e_X12_ticksOnce_0 d h)
theorem dX12_tick_0 : decode cX12_tick 0 = .ok (.aload_n 0, 1) := by decide +kernel
theorem dX12_tick_1 : decode cX12_tick 1 = .ok (.iload_n 1, 1) := by decide +kernel
theorem dX12_tick_2 : decode cX12_tick 2 = .ok (.iconst 1, 1) := by decide +kernel
theorem dX12_tick_3 : decode cX12_tick 3 = .ok (.bipush 50, 2) := by decide +kernel
theorem dX12_tick_5 : decode cX12_tick 5 = .ok (.invokestatic 177, 3) := by decide +kernel
theorem dX12_tick_8 : decode cX12_tick 8 = .ok (.ifCond .eq 7, 3) := by decide +kernel
theorem dX12_tick_11 : decode cX12_tick 11 = .ok (.iconst 0, 1) := by decide +kernel
theorem dX12_tick_12 : decode cX12_tick 12 = .ok (.goto 4, 3) := by decide +kernel
theorem dX12_tick_15 : decode cX12_tick 15 = .ok (.iconst 1, 1) := by decide +kernel
theorem dX12_tick_16 : decode cX12_tick 16 = .ok (.invokevirtual 198, 3) := by decide +kernel
theorem dX12_tick_19 : decode cX12_tick 19 = .ok (.ifCond .ne 5, 3) := by decide +kernel
theorem dX12_tick_22 : decode cX12_tick 22 = .ok (.iconst 0, 1) := by decide +kernel
theorem dX12_tick_23 : decode cX12_tick 23 = .ok (.ireturn, 1) := by decide +kernel
theorem dX12_tick_24 : decode cX12_tick 24 = .ok (.iconst 0, 1) := by decide +kernel
theorem dX12_tick_25 : decode cX12_tick 25 = .ok (.istore_n 2, 1) := by decide +kernel
theorem dX12_tick_26 : decode cX12_tick 26 = .ok (.iload_n 2, 1) := by decide +kernel
theorem dX12_tick_27 : decode cX12_tick 27 = .ok (.iload_n 1, 1) := by decide +kernel
theorem dX12_tick_28 : decode cX12_tick 28 = .ok (.if_icmp .ge 13, 3) := by decide +kernel
theorem dX12_tick_31 : decode cX12_tick 31 = .ok (.aload_n 0, 1) := by decide +kernel
theorem dX12_tick_32 : decode cX12_tick 32 = .ok (.invokevirtual 455, 3) := by decide +kernel
theorem dX12_tick_35 : decode cX12_tick 35 = .ok (.iinc 2 1, 3) := by decide +kernel
theorem dX12_tick_38 : decode cX12_tick 38 = .ok (.goto (-12), 3) := by decide +kernel
theorem dX12_tick_41 : decode cX12_tick 41 = .ok (.aload_n 0, 1) := by decide +kernel
theorem dX12_tick_42 : decode cX12_tick 42 = .ok (.getfield 395, 3) := by decide +kernel
theorem dX12_tick_45 : decode cX12_tick 45 = .ok (.ireturn, 1) := by decide +kernel
theorem e_X12_tick_26 (d : Nat) : ∀ (n : Nat) {l0 l1 l2 : Int} {m : Mem} {v : Int} {m' : Mem}, X12_tick_26 n l0 l1 l2 m = some (v, m') → Ex (d + 5) fm_X12_tick 26 [(22, l0), (0, l1), (0, l2)] [] m (.inl (0, v)) m' := by
  intro n
  induction n with
  | zero =>
    intro l0 l1 l2 m v m' h
    have h : (none : Option R2) = some _ := h
    cases h
  | succ n ih =>
    intro l0 l1 l2 m v m' h
    rw [X12_tick_26] at h
    refine x_iload_n dX12_tick_26 rfl rfl (?_ : Ex _ _ 27 _ _ _ _ _)
    refine x_iload_n dX12_tick_27 rfl rfl (?_ : Ex _ _ 28 _ _ _ _ _)
    rcases ite_some h with ⟨b1, h⟩ | ⟨b1, h⟩
    · refine x_icmp_ge (tgt := 41) dX12_tick_28 rfl b1 (?_ : Ex _ _ 41 _ _ _ _ _)
      refine x_aload_n dX12_tick_41 rfl rfl (Or.inr (by decide)) (?_ : Ex _ _ 42 _ _ _ _ _)
      obtain ⟨c2, h⟩ := chk_some h
      refine gt_12_1 c2 fl_RX12_395 dX12_tick_42 (?_ : Ex _ _ 45 _ _ _ _ _)
      cases h
      exact x_ret dX12_tick_45 (by decide : (0 : Int) ≠ 3)
    · refine x_icmp_geN dX12_tick_28 (by decide) b1 (?_ : Ex _ _ 31 _ _ _ _ _)
      refine x_aload_n dX12_tick_31 rfl rfl (Or.inr (by decide)) (?_ : Ex _ _ 32 _ _ _ _ _)
      obtain ⟨c3, h⟩ := chk_some h
      obtain ⟨v4, m5, g6, h⟩ := cal_some h
      refine cV0 (e_X12_ticksOnce d g6) (contV (?_ : Ex _ _ 35 _ _ _ _ _)) og_X12_ticksOnce rfl ml_RX12_455 12 rfl rfl c3 im_X12_ticksOnce se_X12_ticksOnce (Nat.le_of_ble_eq_true rfl) dX12_tick_32
      obtain ⟨c7, h⟩ := chk_some h
      refine x_iinc (ls2 := [(22, l0), (0, l1), (0, (l2 + 1))]) dX12_tick_35 rfl c7 rfl (?_ : Ex _ _ 38 _ _ _ _ _)
      refine x_goto (tgt := 26) dX12_tick_38 rfl (?_ : Ex _ _ 26 _ _ _ _ _)
      exact ih h
theorem e_X12_tick_16 (d : Nat) {l0 l1 s0 s1 : Int} {m : Mem} {v : Int} {m' : Mem} (h : X12_tick_16 l0 l1 s0 s1 m = some (v, m')) : Ex (d + 5) fm_X12_tick 16 [(22, l0), (0, l1), (3, 0)] [(0, s0), (22, s1)] m (.inl (0, v)) m' := by
  unfold X12_tick_16 at h
  obtain ⟨c1, h⟩ := chk_some h
  obtain ⟨v2, m3, g4, h⟩ := cal_some h
  refine cV1 (e_X12_isFine (d + 4) g4) (contN (by decide) (?_ : Ex _ _ 19 _ _ _ _ _)) og_X12_isFine rfl ml_RX12_198 12 rfl rfl c1 im_X12_isFine se_X12_isFine (Nat.le_of_ble_eq_true rfl) dX12_tick_16
  rcases ite_some h with ⟨b5, h⟩ | ⟨b5, h⟩
  · refine x_if_neN dX12_tick_19 (by decide) (fun hh => hh b5) (?_ : Ex _ _ 22 _ _ _ _ _)
    refine x_iconst dX12_tick_22 rfl (by decide) (?_ : Ex _ _ 23 _ _ _ _ _)
    cases h
    exact x_ret dX12_tick_23 (by decide : (0 : Int) ≠ 3)
  · refine x_if_ne (tgt := 24) dX12_tick_19 rfl b5 (?_ : Ex _ _ 24 _ _ _ _ _)
    refine x_iconst dX12_tick_24 rfl (by decide) (?_ : Ex _ _ 25 _ _ _ _ _)
    refine x_istore_n (ls2 := [(22, l0), (0, l1), (0, 0)]) dX12_tick_25 rfl (Nat.le_of_ble_eq_true rfl) rfl (?_ : Ex _ _ 26 _ _ _ _ _)
    exact e_X12_tick_26 d fuel9 h
theorem e_X12_tick_0 (d : Nat) {l0 l1 : Int} {m : Mem} {v : Int} {m' : Mem} (h : X12_tick_0 l0 l1 m = some (v, m')) : Ex (d + 5) fm_X12_tick 0 [(22, l0), (0, l1), (3, 0)] [] m (.inl (0, v)) m' := by
  unfold X12_tick_0 at h
  refine x_aload_n dX12_tick_0 rfl rfl (Or.inr (by decide)) (?_ : Ex _ _ 1 _ _ _ _ _)
  refine x_iload_n dX12_tick_1 rfl rfl (?_ : Ex _ _ 2 _ _ _ _ _)
  refine x_iconst dX12_tick_2 rfl (by decide) (?_ : Ex _ _ 3 _ _ _ _ _)
  refine x_bipush dX12_tick_3 kb_50 (by decide) (?_ : Ex _ _ 5 _ _ _ _ _)
  obtain ⟨v1, m2, g3, h⟩ := cal_some h
  refine cS3 (e_X12_isIn (d + 4) g3) (contN (by decide) (?_ : Ex _ _ 8 _ _ _ _ _)) og_X12_isIn rfl ml_RX12_177 sm_X12_isIn (Nat.le_of_ble_eq_true rfl) dX12_tick_5
  rcases ite_some h with ⟨b4, h⟩ | ⟨b4, h⟩
  · refine x_if_eq (tgt := 15) dX12_tick_8 rfl b4 (?_ : Ex _ _ 15 _ _ _ _ _)
    refine x_iconst dX12_tick_15 rfl (by decide) (?_ : Ex _ _ 16 _ _ _ _ _)
    exact e_X12_tick_16 d h
  · refine x_if_eqN dX12_tick_8 (by decide) b4 (?_ : Ex _ _ 11 _ _ _ _ _)
    refine x_iconst dX12_tick_11 rfl (by decide) (?_ : Ex _ _ 12 _ _ _ _ _)
    refine x_goto (tgt := 16) dX12_tick_12 rfl (?_ : Ex _ _ 16 _ _ _ _ _)
    exact e_X12_tick_16 d h
theorem e_X12_tick (d : Nat) {a0 a1 : Int} {m : Mem} {v : Int} {m' : Mem} (h : X12_tick a0 a1 m = some (v, m')) : ExM (d + 5) fm_X12_tick [(22, a0), (0, a1)] m (.inl (0, v)) m' := by
  exact ExM.of (by decide +kernel) (Nat.le_of_ble_eq_true rfl) (cat9 rfl) retI (e_X12_tick_0 d h)
theorem dX12_clock_0 : decode cX12_clock 0 = .ok (.aload_n 0, 1) := by decide +kernel
theorem dX12_clock_1 : decode cX12_clock 1 = .ok (.iconst 0, 1) := by decide +kernel
theorem dX12_clock_2 : decode cX12_clock 2 = .ok (.putfield 173, 3) := by decide +kernel
theorem dX12_clock_5 : decode cX12_clock 5 = .ok (.aload_n 0, 1) := by decide +kernel
theorem dX12_clock_6 : decode cX12_clock 6 = .ok (.getfield 395, 3) := by decide +kernel
theorem dX12_clock_9 : decode cX12_clock 9 = .ok (.ireturn, 1) := by decide +kernel
theorem e_X12_clock_0 (d : Nat) {l0 : Int} {m : Mem} {v : Int} {m' : Mem} (h : X12_clock_0 l0 m = some (v, m')) : Ex d fm_X12_clock 0 [(22, l0)] [] m (.inl (0, v)) m' := by
  unfold X12_clock_0 at h
  refine x_aload_n dX12_clock_0 rfl rfl (Or.inr (by decide)) (?_ : Ex _ _ 1 _ _ _ _ _)
  refine x_iconst dX12_clock_1 rfl (by decide) (?_ : Ex _ _ 2 _ _ _ _ _)
  obtain ⟨c1, h⟩ := chk_some h
  obtain ⟨m2, hm2, h⟩ := st_some h
  refine pt_12_0  c1 fl_RX12_173 dX12_clock_2 (?_ : Ex _ _ 5 _ _ _ _ _)
  rw [← hm2]
  refine x_aload_n dX12_clock_5 rfl rfl (Or.inr (by decide)) (?_ : Ex _ _ 6 _ _ _ _ _)
  refine gt_12_1 c1 fl_RX12_395 dX12_clock_6 (?_ : Ex _ _ 9 _ _ _ _ _)
  cases h
  exact x_ret dX12_clock_9 (by decide : (0 : Int) ≠ 3)
theorem e_X12_clock (d : Nat) {a0 : Int} {m : Mem} {v : Int} {m' : Mem} (h : X12_clock a0 m = some (v, m')) : ExM d fm_X12_clock [(22, a0)] m (.inl (0, v)) m' := by
  exact ExM.of (by decide +kernel) (Nat.le_of_ble_eq_true rfl) (cat9 rfl) retI (e_X12_clock_0 d h)
theorem dX12_workflows_0 : decode cX12_workflows 0 = .ok (.aload_n 0, 1) := by decide +kernel
theorem dX12_workflows_1 : decode cX12_workflows 1 = .ok (.iconst 0, 1) := by decide +kernel
theorem dX12_workflows_2 : decode cX12_workflows 2 = .ok (.putfield 173, 3) := by decide +kernel
theorem dX12_workflows_5 : decode cX12_workflows 5 = .ok (.aload_n 0, 1) := by decide +kernel
theorem dX12_workflows_6 : decode cX12_workflows 6 = .ok (.getfield 181, 3) := by decide +kernel
theorem dX12_workflows_9 : decode cX12_workflows 9 = .ok (.ireturn, 1) := by decide +kernel
theorem e_X12_workflows_0 (d : Nat) {l0 : Int} {m : Mem} {v : Int} {m' : Mem} (h : X12_workflows_0 l0 m = some (v, m')) : Ex d fm_X12_workflows 0 [(22, l0)] [] m (.inl (0, v)) m' := by
  unfold X12_workflows_0 at h
  refine x_aload_n dX12_workflows_0 rfl rfl (Or.inr (by decide)) (?_ : Ex _ _ 1 _ _ _ _ _)
  refine x_iconst dX12_workflows_1 rfl (by decide) (?_ : Ex _ _ 2 _ _ _ _ _)
  obtain ⟨c1, h⟩ := chk_some h
  obtain ⟨m2, hm2, h⟩ := st_some h
  refine pt_12_0  c1 fl_RX12_173 dX12_workflows_2 (?_ : Ex _ _ 5 _ _ _ _ _)
  rw [← hm2]
  refine x_aload_n dX12_workflows_5 rfl rfl (Or.inr (by decide)) (?_ : Ex _ _ 6 _ _ _ _ _)
  refine gt_12_16 c1 fl_RX12_181 dX12_workflows_6 (?_ : Ex _ _ 9 _ _ _ _ _)
  cases h
  exact x_ret dX12_workflows_9 (by decide : (0 : Int) ≠ 3)
theorem e_X12_workflows (d : Nat) {a0 : Int} {m : Mem} {v : Int} {m' : Mem} (h : X12_workflows a0 m = some (v, m')) : ExM d fm_X12_workflows [(22, a0)] m (.inl (0, v)) m' := by
  exact ExM.of (by decide +kernel) (Nat.le_of_ble_eq_true rfl) (cat9 rfl) retI (e_X12_workflows_0 d h)
theorem dX12_parent_0 : decode cX12_parent 0 = .ok (.aload_n 0, 1) := by decide +kernel
theorem dX12_parent_1 : decode cX12_parent 1 = .ok (.aload_n 0, 1) := by decide +kernel
theorem dX12_parent_2 : decode cX12_parent 2 = .ok (.iload_n 1, 1) := by decide +kernel
theorem dX12_parent_3 : decode cX12_parent 3 = .ok (.invokevirtual 224, 3) := by decide +kernel
theorem dX12_parent_6 : decode cX12_parent 6 = .ok (.ifCond .eq 7, 3) := by decide +kernel
theorem dX12_parent_9 : decode cX12_parent 9 = .ok (.iconst 0, 1) := by decide +kernel
theorem dX12_parent_10 : decode cX12_parent 10 = .ok (.goto 4, 3) := by decide +kernel
theorem dX12_parent_13 : decode cX12_parent 13 = .ok (.iconst 1, 1) := by decide +kernel
theorem dX12_parent_14 : decode cX12_parent 14 = .ok (.invokevirtual 198, 3) := by decide +kernel
theorem dX12_parent_17 : decode cX12_parent 17 = .ok (.ifCond .eq 12, 3) := by decide +kernel
theorem dX12_parent_20 : decode cX12_parent 20 = .ok (.aload_n 0, 1) := by decide +kernel
theorem dX12_parent_21 : decode cX12_parent 21 = .ok (.getfield 31, 3) := by decide +kernel
theorem dX12_parent_24 : decode cX12_parent 24 = .ok (.iload_n 1, 1) := by decide +kernel
theorem dX12_parent_25 : decode cX12_parent 25 = .ok (.iaload, 1) := by decide +kernel
theorem dX12_parent_26 : decode cX12_parent 26 = .ok (.goto 4, 3) := by decide +kernel
theorem dX12_parent_29 : decode cX12_parent 29 = .ok (.iconst 0, 1) := by decide +kernel
theorem dX12_parent_30 : decode cX12_parent 30 = .ok (.ireturn, 1) := by decide +kernel
theorem e_X12_parent_14 (d : Nat) {l0 l1 s0 s1 : Int} {m : Mem} {v : Int} {m' : Mem} (h : X12_parent_14 l0 l1 s0 s1 m = some (v, m')) : Ex (d + 2) fm_X12_parent 14 [(22, l0), (0, l1)] [(0, s0), (22, s1)] m (.inl (0, v)) m' := by
  unfold X12_parent_14 at h
  obtain ⟨c1, h⟩ := chk_some h
  obtain ⟨v2, m3, g4, h⟩ := cal_some h
  refine cV1 (e_X12_isFine (d + 1) g4) (contN (by decide) (?_ : Ex _ _ 17 _ _ _ _ _)) og_X12_isFine rfl ml_RX12_198 12 rfl rfl c1 im_X12_isFine se_X12_isFine (Nat.le_of_ble_eq_true rfl) dX12_parent_14
  rcases ite_some h with ⟨b5, h⟩ | ⟨b5, h⟩
  · refine x_if_eq (tgt := 29) dX12_parent_17 rfl b5 (?_ : Ex _ _ 29 _ _ _ _ _)
    refine x_iconst dX12_parent_29 rfl (by decide) (?_ : Ex _ _ 30 _ _ _ _ _)
    cases h
    exact x_ret dX12_parent_30 (by decide : (0 : Int) ≠ 3)
  · refine x_if_eqN dX12_parent_17 (by decide) b5 (?_ : Ex _ _ 20 _ _ _ _ _)
    refine x_aload_n dX12_parent_20 rfl rfl (Or.inr (by decide)) (?_ : Ex _ _ 21 _ _ _ _ _)
    obtain ⟨c6, h⟩ := chk_some h
    refine gt_12_9 c6 fl_RX12_31 dX12_parent_21 (?_ : Ex _ _ 24 _ _ _ _ _)
    refine x_iload_n dX12_parent_24 rfl rfl (?_ : Ex _ _ 25 _ _ _ _ _)
    obtain ⟨⟨c7, c8, c9⟩, h⟩ := chk_some h
    refine ld_i_10 c7 c8 c9 dX12_parent_25 (?_ : Ex _ _ 26 _ _ _ _ _)
    refine x_goto (tgt := 30) dX12_parent_26 rfl (?_ : Ex _ _ 30 _ _ _ _ _)
    cases h
    exact x_ret dX12_parent_30 (by decide : (0 : Int) ≠ 3)
theorem e_X12_parent_0 (d : Nat) {l0 l1 : Int} {m : Mem} {v : Int} {m' : Mem} (h : X12_parent_0 l0 l1 m = some (v, m')) : Ex (d + 2) fm_X12_parent 0 [(22, l0), (0, l1)] [] m (.inl (0, v)) m' := by
  unfold X12_parent_0 at h
  refine x_aload_n dX12_parent_0 rfl rfl (Or.inr (by decide)) (?_ : Ex _ _ 1 _ _ _ _ _)
  refine x_aload_n dX12_parent_1 rfl rfl (Or.inr (by decide)) (?_ : Ex _ _ 2 _ _ _ _ _)
  refine x_iload_n dX12_parent_2 rfl rfl (?_ : Ex _ _ 3 _ _ _ _ _)
  obtain ⟨c1, h⟩ := chk_some h
  obtain ⟨v2, m3, g4, h⟩ := cal_some h
  refine cV1 (e_X12_isFlow d g4) (contN (by decide) (?_ : Ex _ _ 6 _ _ _ _ _)) og_X12_isFlow rfl ml_RX12_224 12 rfl rfl c1 im_X12_isFlow se_X12_isFlow (Nat.le_of_ble_eq_true rfl) dX12_parent_3
  rcases ite_some h with ⟨b5, h⟩ | ⟨b5, h⟩
  · refine x_if_eq (tgt := 13) dX12_parent_6 rfl b5 (?_ : Ex _ _ 13 _ _ _ _ _)
    refine x_iconst dX12_parent_13 rfl (by decide) (?_ : Ex _ _ 14 _ _ _ _ _)
    exact e_X12_parent_14 d h
  · refine x_if_eqN dX12_parent_6 (by decide) b5 (?_ : Ex _ _ 9 _ _ _ _ _)
    refine x_iconst dX12_parent_9 rfl (by decide) (?_ : Ex _ _ 10 _ _ _ _ _)
    refine x_goto (tgt := 14) dX12_parent_10 rfl (?_ : Ex _ _ 14 _ _ _ _ _)
    exact e_X12_parent_14 d h
theorem e_X12_parent (d : Nat) {a0 a1 : Int} {m : Mem} {v : Int} {m' : Mem} (h : X12_parent a0 a1 m = some (v, m')) : ExM (d + 2) fm_X12_parent [(22, a0), (0, a1)] m (.inl (0, v)) m' := by
  exact ExM.of (by decide +kernel) (Nat.le_of_ble_eq_true rfl) (cat9 rfl) retI (e_X12_parent_0 d h)
theorem dX12_runs_0 : decode cX12_runs 0 = .ok (.aload_n 0, 1) := by decide +kernel
theorem dX12_runs_1 : decode cX12_runs 1 = .ok (.aload_n 0, 1) := by decide +kernel
theorem dX12_runs_2 : decode cX12_runs 2 = .ok (.iload_n 1, 1) := by decide +kernel
theorem dX12_runs_3 : decode cX12_runs 3 = .ok (.invokevirtual 224, 3) := by decide +kernel
theorem dX12_runs_6 : decode cX12_runs 6 = .ok (.ifCond .eq 7, 3) := by decide +kernel
theorem dX12_runs_9 : decode cX12_runs 9 = .ok (.iconst 0, 1) := by decide +kernel
theorem dX12_runs_10 : decode cX12_runs 10 = .ok (.goto 4, 3) := by decide +kernel
theorem dX12_runs_13 : decode cX12_runs 13 = .ok (.iconst 1, 1) := by decide +kernel
theorem dX12_runs_14 : decode cX12_runs 14 = .ok (.invokevirtual 198, 3) := by decide +kernel
theorem dX12_runs_17 : decode cX12_runs 17 = .ok (.ifCond .eq 12, 3) := by decide +kernel
theorem dX12_runs_20 : decode cX12_runs 20 = .ok (.aload_n 0, 1) := by decide +kernel
theorem dX12_runs_21 : decode cX12_runs 21 = .ok (.getfield 40, 3) := by decide +kernel
theorem dX12_runs_24 : decode cX12_runs 24 = .ok (.iload_n 1, 1) := by decide +kernel
theorem dX12_runs_25 : decode cX12_runs 25 = .ok (.iaload, 1) := by decide +kernel
theorem dX12_runs_26 : decode cX12_runs 26 = .ok (.goto 4, 3) := by decide +kernel
theorem dX12_runs_29 : decode cX12_runs 29 = .ok (.iconst 0, 1) := by decide +kernel
theorem dX12_runs_30 : decode cX12_runs 30 = .ok (.ireturn, 1) := by decide +kernel
theorem e_X12_runs_14 (d : Nat) {l0 l1 s0 s1 : Int} {m : Mem} {v : Int} {m' : Mem} (h : X12_runs_14 l0 l1 s0 s1 m = some (v, m')) : Ex (d + 2) fm_X12_runs 14 [(22, l0), (0, l1)] [(0, s0), (22, s1)] m (.inl (0, v)) m' := by
  unfold X12_runs_14 at h
  obtain ⟨c1, h⟩ := chk_some h
  obtain ⟨v2, m3, g4, h⟩ := cal_some h
  refine cV1 (e_X12_isFine (d + 1) g4) (contN (by decide) (?_ : Ex _ _ 17 _ _ _ _ _)) og_X12_isFine rfl ml_RX12_198 12 rfl rfl c1 im_X12_isFine se_X12_isFine (Nat.le_of_ble_eq_true rfl) dX12_runs_14
  rcases ite_some h with ⟨b5, h⟩ | ⟨b5, h⟩
  · refine x_if_eq (tgt := 29) dX12_runs_17 rfl b5 (?_ : Ex _ _ 29 _ _ _ _ _)
    refine x_iconst dX12_runs_29 rfl (by decide) (?_ : Ex _ _ 30 _ _ _ _ _)
    cases h
    exact x_ret dX12_runs_30 (by decide : (0 : Int) ≠ 3)
  · refine x_if_eqN dX12_runs_17 (by decide) b5 (?_ : Ex _ _ 20 _ _ _ _ _)
    refine x_aload_n dX12_runs_20 rfl rfl (Or.inr (by decide)) (?_ : Ex _ _ 21 _ _ _ _ _)
    obtain ⟨c6, h⟩ := chk_some h
    refine gt_12_12 c6 fl_RX12_40 dX12_runs_21 (?_ : Ex _ _ 24 _ _ _ _ _)
    refine x_iload_n dX12_runs_24 rfl rfl (?_ : Ex _ _ 25 _ _ _ _ _)
    obtain ⟨⟨c7, c8, c9⟩, h⟩ := chk_some h
    refine ld_i_10 c7 c8 c9 dX12_runs_25 (?_ : Ex _ _ 26 _ _ _ _ _)
    refine x_goto (tgt := 30) dX12_runs_26 rfl (?_ : Ex _ _ 30 _ _ _ _ _)
    cases h
    exact x_ret dX12_runs_30 (by decide : (0 : Int) ≠ 3)
theorem e_X12_runs_0 (d : Nat) {l0 l1 : Int} {m : Mem} {v : Int} {m' : Mem} (h : X12_runs_0 l0 l1 m = some (v, m')) : Ex (d + 2) fm_X12_runs 0 [(22, l0), (0, l1)] [] m (.inl (0, v)) m' := by
  unfold X12_runs_0 at h
  refine x_aload_n dX12_runs_0 rfl rfl (Or.inr (by decide)) (?_ : Ex _ _ 1 _ _ _ _ _)
  refine x_aload_n dX12_runs_1 rfl rfl (Or.inr (by decide)) (?_ : Ex _ _ 2 _ _ _ _ _)
  refine x_iload_n dX12_runs_2 rfl rfl (?_ : Ex _ _ 3 _ _ _ _ _)
  obtain ⟨c1, h⟩ := chk_some h
  obtain ⟨v2, m3, g4, h⟩ := cal_some h
  refine cV1 (e_X12_isFlow d g4) (contN (by decide) (?_ : Ex _ _ 6 _ _ _ _ _)) og_X12_isFlow rfl ml_RX12_224 12 rfl rfl c1 im_X12_isFlow se_X12_isFlow (Nat.le_of_ble_eq_true rfl) dX12_runs_3
  rcases ite_some h with ⟨b5, h⟩ | ⟨b5, h⟩
  · refine x_if_eq (tgt := 13) dX12_runs_6 rfl b5 (?_ : Ex _ _ 13 _ _ _ _ _)
    refine x_iconst dX12_runs_13 rfl (by decide) (?_ : Ex _ _ 14 _ _ _ _ _)
    exact e_X12_runs_14 d h
  · refine x_if_eqN dX12_runs_6 (by decide) b5 (?_ : Ex _ _ 9 _ _ _ _ _)
    refine x_iconst dX12_runs_9 rfl (by decide) (?_ : Ex _ _ 10 _ _ _ _ _)
    refine x_goto (tgt := 14) dX12_runs_10 rfl (?_ : Ex _ _ 14 _ _ _ _ _)
    exact e_X12_runs_14 d h
theorem e_X12_runs (d : Nat) {a0 a1 : Int} {m : Mem} {v : Int} {m' : Mem} (h : X12_runs a0 a1 m = some (v, m')) : ExM (d + 2) fm_X12_runs [(22, a0), (0, a1)] m (.inl (0, v)) m' := by
  exact ExM.of (by decide +kernel) (Nat.le_of_ble_eq_true rfl) (cat9 rfl) retI (e_X12_runs_0 d h)
theorem dX12_isRun_0 : decode cX12_isRun 0 = .ok (.aload_n 0, 1) := by decide +kernel
theorem dX12_isRun_1 : decode cX12_isRun 1 = .ok (.iload_n 1, 1) := by decide +kernel
theorem dX12_isRun_2 : decode cX12_isRun 2 = .ok (.invokevirtual 224, 3) := by decide +kernel
theorem dX12_isRun_5 : decode cX12_isRun 5 = .ok (.ifCond .eq 21, 3) := by decide +kernel
theorem dX12_isRun_8 : decode cX12_isRun 8 = .ok (.iload_n 2, 1) := by decide +kernel
theorem dX12_isRun_9 : decode cX12_isRun 9 = .ok (.iconst 1, 1) := by decide +kernel
theorem dX12_isRun_10 : decode cX12_isRun 10 = .ok (.aload_n 0, 1) := by decide +kernel
theorem dX12_isRun_11 : decode cX12_isRun 11 = .ok (.getfield 40, 3) := by decide +kernel
theorem dX12_isRun_14 : decode cX12_isRun 14 = .ok (.iload_n 1, 1) := by decide +kernel
theorem dX12_isRun_15 : decode cX12_isRun 15 = .ok (.iaload, 1) := by decide +kernel
theorem dX12_isRun_16 : decode cX12_isRun 16 = .ok (.invokestatic 177, 3) := by decide +kernel
theorem dX12_isRun_19 : decode cX12_isRun 19 = .ok (.ifCond .eq 7, 3) := by decide +kernel
theorem dX12_isRun_22 : decode cX12_isRun 22 = .ok (.iconst 1, 1) := by decide +kernel
theorem dX12_isRun_23 : decode cX12_isRun 23 = .ok (.goto 4, 3) := by decide +kernel
theorem dX12_isRun_26 : decode cX12_isRun 26 = .ok (.iconst 0, 1) := by decide +kernel
theorem dX12_isRun_27 : decode cX12_isRun 27 = .ok (.ireturn, 1) := by decide +kernel
theorem e_X12_isRun_0 (d : Nat) {l0 l1 l2 : Int} {m : Mem} {v : Int} {m' : Mem} (h : X12_isRun_0 l0 l1 l2 m = some (v, m')) : Ex (d + 2) fm_X12_isRun 0 [(22, l0), (0, l1), (0, l2)] [] m (.inl (0, v)) m' := by
  unfold X12_isRun_0 at h
  refine x_aload_n dX12_isRun_0 rfl rfl (Or.inr (by decide)) (?_ : Ex _ _ 1 _ _ _ _ _)
  refine x_iload_n dX12_isRun_1 rfl rfl (?_ : Ex _ _ 2 _ _ _ _ _)
  obtain ⟨c1, h⟩ := chk_some h
  obtain ⟨v2, m3, g4, h⟩ := cal_some h
  refine cV1 (e_X12_isFlow d g4) (contN (by decide) (?_ : Ex _ _ 5 _ _ _ _ _)) og_X12_isFlow rfl ml_RX12_224 12 rfl rfl c1 im_X12_isFlow se_X12_isFlow (Nat.le_of_ble_eq_true rfl) dX12_isRun_2
  rcases ite_some h with ⟨b5, h⟩ | ⟨b5, h⟩
  · refine x_if_eq (tgt := 26) dX12_isRun_5 rfl b5 (?_ : Ex _ _ 26 _ _ _ _ _)
    refine x_iconst dX12_isRun_26 rfl (by decide) (?_ : Ex _ _ 27 _ _ _ _ _)
    cases h
    exact x_ret dX12_isRun_27 (by decide : (0 : Int) ≠ 3)
  · refine x_if_eqN dX12_isRun_5 (by decide) b5 (?_ : Ex _ _ 8 _ _ _ _ _)
    refine x_iload_n dX12_isRun_8 rfl rfl (?_ : Ex _ _ 9 _ _ _ _ _)
    refine x_iconst dX12_isRun_9 rfl (by decide) (?_ : Ex _ _ 10 _ _ _ _ _)
    refine x_aload_n dX12_isRun_10 rfl rfl (Or.inr (by decide)) (?_ : Ex _ _ 11 _ _ _ _ _)
    refine gt_12_12 c1 fl_RX12_40 dX12_isRun_11 (?_ : Ex _ _ 14 _ _ _ _ _)
    refine x_iload_n dX12_isRun_14 rfl rfl (?_ : Ex _ _ 15 _ _ _ _ _)
    obtain ⟨⟨c6, c7, c8⟩, h⟩ := chk_some h
    refine ld_i_10 c6 c7 c8 dX12_isRun_15 (?_ : Ex _ _ 16 _ _ _ _ _)
    obtain ⟨v9, m10, g11, h⟩ := cal_some h
    refine cS3 (e_X12_isIn (d + 1) g11) (contN (by decide) (?_ : Ex _ _ 19 _ _ _ _ _)) og_X12_isIn rfl ml_RX12_177 sm_X12_isIn (Nat.le_of_ble_eq_true rfl) dX12_isRun_16
    rcases ite_some h with ⟨b12, h⟩ | ⟨b12, h⟩
    · refine x_if_eq (tgt := 26) dX12_isRun_19 rfl b12 (?_ : Ex _ _ 26 _ _ _ _ _)
      refine x_iconst dX12_isRun_26 rfl (by decide) (?_ : Ex _ _ 27 _ _ _ _ _)
      cases h
      exact x_ret dX12_isRun_27 (by decide : (0 : Int) ≠ 3)
    · refine x_if_eqN dX12_isRun_19 (by decide) b12 (?_ : Ex _ _ 22 _ _ _ _ _)
      refine x_iconst dX12_isRun_22 rfl (by decide) (?_ : Ex _ _ 23 _ _ _ _ _)
      refine x_goto (tgt := 27) dX12_isRun_23 rfl (?_ : Ex _ _ 27 _ _ _ _ _)
      cases h
      exact x_ret dX12_isRun_27 (by decide : (0 : Int) ≠ 3)
theorem e_X12_isRun (d : Nat) {a0 a1 a2 : Int} {m : Mem} {v : Int} {m' : Mem} (h : X12_isRun a0 a1 a2 m = some (v, m')) : ExM (d + 2) fm_X12_isRun [(22, a0), (0, a1), (0, a2)] m (.inl (0, v)) m' := by
  obtain ⟨hb, h⟩ := boolR_some h
  exact ExM.of (by decide +kernel) (Nat.le_of_ble_eq_true rfl) (cat9 rfl) (retZ hb) (e_X12_isRun_0 d h)
theorem dX12_state_0 : decode cX12_state 0 = .ok (.aload_n 0, 1) := by decide +kernel
theorem dX12_state_1 : decode cX12_state 1 = .ok (.aload_n 0, 1) := by decide +kernel
theorem dX12_state_2 : decode cX12_state 2 = .ok (.iload_n 1, 1) := by decide +kernel
theorem dX12_state_3 : decode cX12_state 3 = .ok (.iload_n 2, 1) := by decide +kernel
theorem dX12_state_4 : decode cX12_state 4 = .ok (.invokevirtual 458, 3) := by decide +kernel
theorem dX12_state_7 : decode cX12_state 7 = .ok (.ifCond .eq 7, 3) := by decide +kernel
theorem dX12_state_10 : decode cX12_state 10 = .ok (.iconst 0, 1) := by decide +kernel
theorem dX12_state_11 : decode cX12_state 11 = .ok (.goto 4, 3) := by decide +kernel
theorem dX12_state_14 : decode cX12_state 14 = .ok (.iconst 1, 1) := by decide +kernel
theorem dX12_state_15 : decode cX12_state 15 = .ok (.invokevirtual 198, 3) := by decide +kernel
theorem dX12_state_18 : decode cX12_state 18 = .ok (.ifCond .eq 19, 3) := by decide +kernel
theorem dX12_state_21 : decode cX12_state 21 = .ok (.aload_n 0, 1) := by decide +kernel
theorem dX12_state_22 : decode cX12_state 22 = .ok (.getfield 52, 3) := by decide +kernel
theorem dX12_state_25 : decode cX12_state 25 = .ok (.bipush 9, 2) := by decide +kernel
theorem dX12_state_27 : decode cX12_state 27 = .ok (.iload_n 1, 1) := by decide +kernel
theorem dX12_state_28 : decode cX12_state 28 = .ok (.imul, 1) := by decide +kernel
theorem dX12_state_29 : decode cX12_state 29 = .ok (.iload_n 2, 1) := by decide +kernel
theorem dX12_state_30 : decode cX12_state 30 = .ok (.iadd, 1) := by decide +kernel
theorem dX12_state_31 : decode cX12_state 31 = .ok (.iconst 1, 1) := by decide +kernel
theorem dX12_state_32 : decode cX12_state 32 = .ok (.isub, 1) := by decide +kernel
theorem dX12_state_33 : decode cX12_state 33 = .ok (.iaload, 1) := by decide +kernel
theorem dX12_state_34 : decode cX12_state 34 = .ok (.goto 4, 3) := by decide +kernel
theorem dX12_state_37 : decode cX12_state 37 = .ok (.iconst 0, 1) := by decide +kernel
theorem dX12_state_38 : decode cX12_state 38 = .ok (.ireturn, 1) := by decide +kernel
theorem e_X12_state_15 (d : Nat) {l0 l1 l2 s0 s1 : Int} {m : Mem} {v : Int} {m' : Mem} (h : X12_state_15 l0 l1 l2 s0 s1 m = some (v, m')) : Ex (d + 3) fm_X12_state 15 [(22, l0), (0, l1), (0, l2)] [(0, s0), (22, s1)] m (.inl (0, v)) m' := by
  unfold X12_state_15 at h
  obtain ⟨c1, h⟩ := chk_some h
  obtain ⟨v2, m3, g4, h⟩ := cal_some h
  refine cV1 (e_X12_isFine (d + 2) g4) (contN (by decide) (?_ : Ex _ _ 18 _ _ _ _ _)) og_X12_isFine rfl ml_RX12_198 12 rfl rfl c1 im_X12_isFine se_X12_isFine (Nat.le_of_ble_eq_true rfl) dX12_state_15
  rcases ite_some h with ⟨b5, h⟩ | ⟨b5, h⟩
  · refine x_if_eq (tgt := 37) dX12_state_18 rfl b5 (?_ : Ex _ _ 37 _ _ _ _ _)
    refine x_iconst dX12_state_37 rfl (by decide) (?_ : Ex _ _ 38 _ _ _ _ _)
    cases h
    exact x_ret dX12_state_38 (by decide : (0 : Int) ≠ 3)
  · refine x_if_eqN dX12_state_18 (by decide) b5 (?_ : Ex _ _ 21 _ _ _ _ _)
    refine x_aload_n dX12_state_21 rfl rfl (Or.inr (by decide)) (?_ : Ex _ _ 22 _ _ _ _ _)
    obtain ⟨c6, h⟩ := chk_some h
    refine gt_12_17 c6 fl_RX12_52 dX12_state_22 (?_ : Ex _ _ 25 _ _ _ _ _)
    refine x_bipush dX12_state_25 kb_9 (by decide) (?_ : Ex _ _ 27 _ _ _ _ _)
    refine x_iload_n dX12_state_27 rfl rfl (?_ : Ex _ _ 28 _ _ _ _ _)
    obtain ⟨c7, h⟩ := chk_some h
    refine x_imul dX12_state_28 c7 (?_ : Ex _ _ 29 _ _ _ _ _)
    refine x_iload_n dX12_state_29 rfl rfl (?_ : Ex _ _ 30 _ _ _ _ _)
    obtain ⟨c8, h⟩ := chk_some h
    refine x_iadd dX12_state_30 c8 (?_ : Ex _ _ 31 _ _ _ _ _)
    refine x_iconst dX12_state_31 rfl (by decide) (?_ : Ex _ _ 32 _ _ _ _ _)
    obtain ⟨c9, h⟩ := chk_some h
    refine x_isub dX12_state_32 c9 (?_ : Ex _ _ 33 _ _ _ _ _)
    obtain ⟨⟨c10, c11, c12⟩, h⟩ := chk_some h
    refine ld_i_90 c10 c11 c12 dX12_state_33 (?_ : Ex _ _ 34 _ _ _ _ _)
    refine x_goto (tgt := 38) dX12_state_34 rfl (?_ : Ex _ _ 38 _ _ _ _ _)
    cases h
    exact x_ret dX12_state_38 (by decide : (0 : Int) ≠ 3)
theorem e_X12_state_0 (d : Nat) {l0 l1 l2 : Int} {m : Mem} {v : Int} {m' : Mem} (h : X12_state_0 l0 l1 l2 m = some (v, m')) : Ex (d + 3) fm_X12_state 0 [(22, l0), (0, l1), (0, l2)] [] m (.inl (0, v)) m' := by
  unfold X12_state_0 at h
  refine x_aload_n dX12_state_0 rfl rfl (Or.inr (by decide)) (?_ : Ex _ _ 1 _ _ _ _ _)
  refine x_aload_n dX12_state_1 rfl rfl (Or.inr (by decide)) (?_ : Ex _ _ 2 _ _ _ _ _)
  refine x_iload_n dX12_state_2 rfl rfl (?_ : Ex _ _ 3 _ _ _ _ _)
  refine x_iload_n dX12_state_3 rfl rfl (?_ : Ex _ _ 4 _ _ _ _ _)
  obtain ⟨c1, h⟩ := chk_some h
  obtain ⟨v2, m3, g4, h⟩ := cal_some h
  refine cV2 (e_X12_isRun d g4) (contN (by decide) (?_ : Ex _ _ 7 _ _ _ _ _)) og_X12_isRun rfl ml_RX12_458 12 rfl rfl c1 im_X12_isRun se_X12_isRun (Nat.le_of_ble_eq_true rfl) dX12_state_4
  rcases ite_some h with ⟨b5, h⟩ | ⟨b5, h⟩
  · refine x_if_eq (tgt := 14) dX12_state_7 rfl b5 (?_ : Ex _ _ 14 _ _ _ _ _)
    refine x_iconst dX12_state_14 rfl (by decide) (?_ : Ex _ _ 15 _ _ _ _ _)
    exact e_X12_state_15 d h
  · refine x_if_eqN dX12_state_7 (by decide) b5 (?_ : Ex _ _ 10 _ _ _ _ _)
    refine x_iconst dX12_state_10 rfl (by decide) (?_ : Ex _ _ 11 _ _ _ _ _)
    refine x_goto (tgt := 15) dX12_state_11 rfl (?_ : Ex _ _ 15 _ _ _ _ _)
    exact e_X12_state_15 d h
theorem e_X12_state (d : Nat) {a0 a1 a2 : Int} {m : Mem} {v : Int} {m' : Mem} (h : X12_state a0 a1 a2 m = some (v, m')) : ExM (d + 3) fm_X12_state [(22, a0), (0, a1), (0, a2)] m (.inl (0, v)) m' := by
  exact ExM.of (by decide +kernel) (Nat.le_of_ble_eq_true rfl) (cat9 rfl) retI (e_X12_state_0 d h)
theorem dX12_events_0 : decode cX12_events 0 = .ok (.aload_n 0, 1) := by decide +kernel
theorem dX12_events_1 : decode cX12_events 1 = .ok (.aload_n 0, 1) := by decide +kernel
theorem dX12_events_2 : decode cX12_events 2 = .ok (.iload_n 1, 1) := by decide +kernel
theorem dX12_events_3 : decode cX12_events 3 = .ok (.iload_n 2, 1) := by decide +kernel
theorem dX12_events_4 : decode cX12_events 4 = .ok (.invokevirtual 458, 3) := by decide +kernel
theorem dX12_events_7 : decode cX12_events 7 = .ok (.ifCond .eq 7, 3) := by decide +kernel
theorem dX12_events_10 : decode cX12_events 10 = .ok (.iconst 0, 1) := by decide +kernel
theorem dX12_events_11 : decode cX12_events 11 = .ok (.goto 4, 3) := by decide +kernel
theorem dX12_events_14 : decode cX12_events 14 = .ok (.iconst 1, 1) := by decide +kernel
theorem dX12_events_15 : decode cX12_events 15 = .ok (.invokevirtual 198, 3) := by decide +kernel
theorem dX12_events_18 : decode cX12_events 18 = .ok (.ifCond .eq 19, 3) := by decide +kernel
theorem dX12_events_21 : decode cX12_events 21 = .ok (.aload_n 0, 1) := by decide +kernel
theorem dX12_events_22 : decode cX12_events 22 = .ok (.getfield 55, 3) := by decide +kernel
theorem dX12_events_25 : decode cX12_events 25 = .ok (.bipush 9, 2) := by decide +kernel
theorem dX12_events_27 : decode cX12_events 27 = .ok (.iload_n 1, 1) := by decide +kernel
theorem dX12_events_28 : decode cX12_events 28 = .ok (.imul, 1) := by decide +kernel
theorem dX12_events_29 : decode cX12_events 29 = .ok (.iload_n 2, 1) := by decide +kernel
theorem dX12_events_30 : decode cX12_events 30 = .ok (.iadd, 1) := by decide +kernel
theorem dX12_events_31 : decode cX12_events 31 = .ok (.iconst 1, 1) := by decide +kernel
theorem dX12_events_32 : decode cX12_events 32 = .ok (.isub, 1) := by decide +kernel
theorem dX12_events_33 : decode cX12_events 33 = .ok (.iaload, 1) := by decide +kernel
theorem dX12_events_34 : decode cX12_events 34 = .ok (.goto 4, 3) := by decide +kernel
theorem dX12_events_37 : decode cX12_events 37 = .ok (.iconst 0, 1) := by decide +kernel
theorem dX12_events_38 : decode cX12_events 38 = .ok (.ireturn, 1) := by decide +kernel
theorem e_X12_events_15 (d : Nat) {l0 l1 l2 s0 s1 : Int} {m : Mem} {v : Int} {m' : Mem} (h : X12_events_15 l0 l1 l2 s0 s1 m = some (v, m')) : Ex (d + 3) fm_X12_events 15 [(22, l0), (0, l1), (0, l2)] [(0, s0), (22, s1)] m (.inl (0, v)) m' := by
  unfold X12_events_15 at h
  obtain ⟨c1, h⟩ := chk_some h
  obtain ⟨v2, m3, g4, h⟩ := cal_some h
  refine cV1 (e_X12_isFine (d + 2) g4) (contN (by decide) (?_ : Ex _ _ 18 _ _ _ _ _)) og_X12_isFine rfl ml_RX12_198 12 rfl rfl c1 im_X12_isFine se_X12_isFine (Nat.le_of_ble_eq_true rfl) dX12_events_15
  rcases ite_some h with ⟨b5, h⟩ | ⟨b5, h⟩
  · refine x_if_eq (tgt := 37) dX12_events_18 rfl b5 (?_ : Ex _ _ 37 _ _ _ _ _)
    refine x_iconst dX12_events_37 rfl (by decide) (?_ : Ex _ _ 38 _ _ _ _ _)
    cases h
    exact x_ret dX12_events_38 (by decide : (0 : Int) ≠ 3)
  · refine x_if_eqN dX12_events_18 (by decide) b5 (?_ : Ex _ _ 21 _ _ _ _ _)
    refine x_aload_n dX12_events_21 rfl rfl (Or.inr (by decide)) (?_ : Ex _ _ 22 _ _ _ _ _)
    obtain ⟨c6, h⟩ := chk_some h
    refine gt_12_18 c6 fl_RX12_55 dX12_events_22 (?_ : Ex _ _ 25 _ _ _ _ _)
    refine x_bipush dX12_events_25 kb_9 (by decide) (?_ : Ex _ _ 27 _ _ _ _ _)
    refine x_iload_n dX12_events_27 rfl rfl (?_ : Ex _ _ 28 _ _ _ _ _)
    obtain ⟨c7, h⟩ := chk_some h
    refine x_imul dX12_events_28 c7 (?_ : Ex _ _ 29 _ _ _ _ _)
    refine x_iload_n dX12_events_29 rfl rfl (?_ : Ex _ _ 30 _ _ _ _ _)
    obtain ⟨c8, h⟩ := chk_some h
    refine x_iadd dX12_events_30 c8 (?_ : Ex _ _ 31 _ _ _ _ _)
    refine x_iconst dX12_events_31 rfl (by decide) (?_ : Ex _ _ 32 _ _ _ _ _)
    obtain ⟨c9, h⟩ := chk_some h
    refine x_isub dX12_events_32 c9 (?_ : Ex _ _ 33 _ _ _ _ _)
    obtain ⟨⟨c10, c11, c12⟩, h⟩ := chk_some h
    refine ld_i_90 c10 c11 c12 dX12_events_33 (?_ : Ex _ _ 34 _ _ _ _ _)
    refine x_goto (tgt := 38) dX12_events_34 rfl (?_ : Ex _ _ 38 _ _ _ _ _)
    cases h
    exact x_ret dX12_events_38 (by decide : (0 : Int) ≠ 3)
theorem e_X12_events_0 (d : Nat) {l0 l1 l2 : Int} {m : Mem} {v : Int} {m' : Mem} (h : X12_events_0 l0 l1 l2 m = some (v, m')) : Ex (d + 3) fm_X12_events 0 [(22, l0), (0, l1), (0, l2)] [] m (.inl (0, v)) m' := by
  unfold X12_events_0 at h
  refine x_aload_n dX12_events_0 rfl rfl (Or.inr (by decide)) (?_ : Ex _ _ 1 _ _ _ _ _)
  refine x_aload_n dX12_events_1 rfl rfl (Or.inr (by decide)) (?_ : Ex _ _ 2 _ _ _ _ _)
  refine x_iload_n dX12_events_2 rfl rfl (?_ : Ex _ _ 3 _ _ _ _ _)
  refine x_iload_n dX12_events_3 rfl rfl (?_ : Ex _ _ 4 _ _ _ _ _)
  obtain ⟨c1, h⟩ := chk_some h
  obtain ⟨v2, m3, g4, h⟩ := cal_some h
  refine cV2 (e_X12_isRun d g4) (contN (by decide) (?_ : Ex _ _ 7 _ _ _ _ _)) og_X12_isRun rfl ml_RX12_458 12 rfl rfl c1 im_X12_isRun se_X12_isRun (Nat.le_of_ble_eq_true rfl) dX12_events_4
  rcases ite_some h with ⟨b5, h⟩ | ⟨b5, h⟩
  · refine x_if_eq (tgt := 14) dX12_events_7 rfl b5 (?_ : Ex _ _ 14 _ _ _ _ _)
    refine x_iconst dX12_events_14 rfl (by decide) (?_ : Ex _ _ 15 _ _ _ _ _)
    exact e_X12_events_15 d h
  · refine x_if_eqN dX12_events_7 (by decide) b5 (?_ : Ex _ _ 10 _ _ _ _ _)
    refine x_iconst dX12_events_10 rfl (by decide) (?_ : Ex _ _ 11 _ _ _ _ _)
    refine x_goto (tgt := 15) dX12_events_11 rfl (?_ : Ex _ _ 15 _ _ _ _ _)
    exact e_X12_events_15 d h
theorem e_X12_events (d : Nat) {a0 a1 a2 : Int} {m : Mem} {v : Int} {m' : Mem} (h : X12_events a0 a1 a2 m = some (v, m')) : ExM (d + 3) fm_X12_events [(22, a0), (0, a1), (0, a2)] m (.inl (0, v)) m' := by
  exact ExM.of (by decide +kernel) (Nat.le_of_ble_eq_true rfl) (cat9 rfl) retI (e_X12_events_0 d h)
theorem dX12_isEvent_0 : decode cX12_isEvent 0 = .ok (.aload_n 0, 1) := by decide +kernel
theorem dX12_isEvent_1 : decode cX12_isEvent 1 = .ok (.iload_n 1, 1) := by decide +kernel
theorem dX12_isEvent_2 : decode cX12_isEvent 2 = .ok (.iload_n 2, 1) := by decide +kernel
theorem dX12_isEvent_3 : decode cX12_isEvent 3 = .ok (.invokevirtual 458, 3) := by decide +kernel
theorem dX12_isEvent_6 : decode cX12_isEvent 6 = .ok (.ifCond .eq 30, 3) := by decide +kernel
theorem dX12_isEvent_9 : decode cX12_isEvent 9 = .ok (.iload_n 3, 1) := by decide +kernel
theorem dX12_isEvent_10 : decode cX12_isEvent 10 = .ok (.iconst 0, 1) := by decide +kernel
theorem dX12_isEvent_11 : decode cX12_isEvent 11 = .ok (.aload_n 0, 1) := by decide +kernel
theorem dX12_isEvent_12 : decode cX12_isEvent 12 = .ok (.getfield 55, 3) := by decide +kernel
theorem dX12_isEvent_15 : decode cX12_isEvent 15 = .ok (.bipush 9, 2) := by decide +kernel
theorem dX12_isEvent_17 : decode cX12_isEvent 17 = .ok (.iload_n 1, 1) := by decide +kernel
theorem dX12_isEvent_18 : decode cX12_isEvent 18 = .ok (.imul, 1) := by decide +kernel
theorem dX12_isEvent_19 : decode cX12_isEvent 19 = .ok (.iload_n 2, 1) := by decide +kernel
theorem dX12_isEvent_20 : decode cX12_isEvent 20 = .ok (.iadd, 1) := by decide +kernel
theorem dX12_isEvent_21 : decode cX12_isEvent 21 = .ok (.iconst 1, 1) := by decide +kernel
theorem dX12_isEvent_22 : decode cX12_isEvent 22 = .ok (.isub, 1) := by decide +kernel
theorem dX12_isEvent_23 : decode cX12_isEvent 23 = .ok (.iaload, 1) := by decide +kernel
theorem dX12_isEvent_24 : decode cX12_isEvent 24 = .ok (.iconst 1, 1) := by decide +kernel
theorem dX12_isEvent_25 : decode cX12_isEvent 25 = .ok (.isub, 1) := by decide +kernel
theorem dX12_isEvent_26 : decode cX12_isEvent 26 = .ok (.invokestatic 177, 3) := by decide +kernel
theorem dX12_isEvent_29 : decode cX12_isEvent 29 = .ok (.ifCond .eq 7, 3) := by decide +kernel
theorem dX12_isEvent_32 : decode cX12_isEvent 32 = .ok (.iconst 1, 1) := by decide +kernel
theorem dX12_isEvent_33 : decode cX12_isEvent 33 = .ok (.goto 4, 3) := by decide +kernel
theorem dX12_isEvent_36 : decode cX12_isEvent 36 = .ok (.iconst 0, 1) := by decide +kernel
theorem dX12_isEvent_37 : decode cX12_isEvent 37 = .ok (.ireturn, 1) := by decide +kernel
theorem e_X12_isEvent_0 (d : Nat) {l0 l1 l2 l3 : Int} {m : Mem} {v : Int} {m' : Mem} (h : X12_isEvent_0 l0 l1 l2 l3 m = some (v, m')) : Ex (d + 3) fm_X12_isEvent 0 [(22, l0), (0, l1), (0, l2), (0, l3)] [] m (.inl (0, v)) m' := by
  unfold X12_isEvent_0 at h
  refine x_aload_n dX12_isEvent_0 rfl rfl (Or.inr (by decide)) (?_ : Ex _ _ 1 _ _ _ _ _)
  refine x_iload_n dX12_isEvent_1 rfl rfl (?_ : Ex _ _ 2 _ _ _ _ _)
  refine x_iload_n dX12_isEvent_2 rfl rfl (?_ : Ex _ _ 3 _ _ _ _ _)
  obtain ⟨c1, h⟩ := chk_some h
  obtain ⟨v2, m3, g4, h⟩ := cal_some h
  refine cV2 (e_X12_isRun d g4) (contN (by decide) (?_ : Ex _ _ 6 _ _ _ _ _)) og_X12_isRun rfl ml_RX12_458 12 rfl rfl c1 im_X12_isRun se_X12_isRun (Nat.le_of_ble_eq_true rfl) dX12_isEvent_3
  rcases ite_some h with ⟨b5, h⟩ | ⟨b5, h⟩
  · refine x_if_eq (tgt := 36) dX12_isEvent_6 rfl b5 (?_ : Ex _ _ 36 _ _ _ _ _)
    refine x_iconst dX12_isEvent_36 rfl (by decide) (?_ : Ex _ _ 37 _ _ _ _ _)
    cases h
    exact x_ret dX12_isEvent_37 (by decide : (0 : Int) ≠ 3)
  · refine x_if_eqN dX12_isEvent_6 (by decide) b5 (?_ : Ex _ _ 9 _ _ _ _ _)
    refine x_iload_n dX12_isEvent_9 rfl rfl (?_ : Ex _ _ 10 _ _ _ _ _)
    refine x_iconst dX12_isEvent_10 rfl (by decide) (?_ : Ex _ _ 11 _ _ _ _ _)
    refine x_aload_n dX12_isEvent_11 rfl rfl (Or.inr (by decide)) (?_ : Ex _ _ 12 _ _ _ _ _)
    refine gt_12_18 c1 fl_RX12_55 dX12_isEvent_12 (?_ : Ex _ _ 15 _ _ _ _ _)
    refine x_bipush dX12_isEvent_15 kb_9 (by decide) (?_ : Ex _ _ 17 _ _ _ _ _)
    refine x_iload_n dX12_isEvent_17 rfl rfl (?_ : Ex _ _ 18 _ _ _ _ _)
    obtain ⟨c6, h⟩ := chk_some h
    refine x_imul dX12_isEvent_18 c6 (?_ : Ex _ _ 19 _ _ _ _ _)
    refine x_iload_n dX12_isEvent_19 rfl rfl (?_ : Ex _ _ 20 _ _ _ _ _)
    obtain ⟨c7, h⟩ := chk_some h
    refine x_iadd dX12_isEvent_20 c7 (?_ : Ex _ _ 21 _ _ _ _ _)
    refine x_iconst dX12_isEvent_21 rfl (by decide) (?_ : Ex _ _ 22 _ _ _ _ _)
    obtain ⟨c8, h⟩ := chk_some h
    refine x_isub dX12_isEvent_22 c8 (?_ : Ex _ _ 23 _ _ _ _ _)
    obtain ⟨⟨c9, c10, c11⟩, h⟩ := chk_some h
    refine ld_i_90 c9 c10 c11 dX12_isEvent_23 (?_ : Ex _ _ 24 _ _ _ _ _)
    refine x_iconst dX12_isEvent_24 rfl (by decide) (?_ : Ex _ _ 25 _ _ _ _ _)
    obtain ⟨c12, h⟩ := chk_some h
    refine x_isub dX12_isEvent_25 c12 (?_ : Ex _ _ 26 _ _ _ _ _)
    obtain ⟨v13, m14, g15, h⟩ := cal_some h
    refine cS3 (e_X12_isIn (d + 2) g15) (contN (by decide) (?_ : Ex _ _ 29 _ _ _ _ _)) og_X12_isIn rfl ml_RX12_177 sm_X12_isIn (Nat.le_of_ble_eq_true rfl) dX12_isEvent_26
    rcases ite_some h with ⟨b16, h⟩ | ⟨b16, h⟩
    · refine x_if_eq (tgt := 36) dX12_isEvent_29 rfl b16 (?_ : Ex _ _ 36 _ _ _ _ _)
      refine x_iconst dX12_isEvent_36 rfl (by decide) (?_ : Ex _ _ 37 _ _ _ _ _)
      cases h
      exact x_ret dX12_isEvent_37 (by decide : (0 : Int) ≠ 3)
    · refine x_if_eqN dX12_isEvent_29 (by decide) b16 (?_ : Ex _ _ 32 _ _ _ _ _)
      refine x_iconst dX12_isEvent_32 rfl (by decide) (?_ : Ex _ _ 33 _ _ _ _ _)
      refine x_goto (tgt := 37) dX12_isEvent_33 rfl (?_ : Ex _ _ 37 _ _ _ _ _)
      cases h
      exact x_ret dX12_isEvent_37 (by decide : (0 : Int) ≠ 3)
theorem e_X12_isEvent (d : Nat) {a0 a1 a2 a3 : Int} {m : Mem} {v : Int} {m' : Mem} (h : X12_isEvent a0 a1 a2 a3 m = some (v, m')) : ExM (d + 3) fm_X12_isEvent [(22, a0), (0, a1), (0, a2), (0, a3)] m (.inl (0, v)) m' := by
  obtain ⟨hb, h⟩ := boolR_some h
  exact ExM.of (by decide +kernel) (Nat.le_of_ble_eq_true rfl) (cat9 rfl) (retZ hb) (e_X12_isEvent_0 d h)
theorem dX12_eventKind_0 : decode cX12_eventKind 0 = .ok (.aload_n 0, 1) := by decide +kernel
theorem dX12_eventKind_1 : decode cX12_eventKind 1 = .ok (.aload_n 0, 1) := by decide +kernel
theorem dX12_eventKind_2 : decode cX12_eventKind 2 = .ok (.iload_n 1, 1) := by decide +kernel
theorem dX12_eventKind_3 : decode cX12_eventKind 3 = .ok (.iload_n 2, 1) := by decide +kernel
theorem dX12_eventKind_4 : decode cX12_eventKind 4 = .ok (.iload_n 3, 1) := by decide +kernel
theorem dX12_eventKind_5 : decode cX12_eventKind 5 = .ok (.invokevirtual 461, 3) := by decide +kernel
theorem dX12_eventKind_8 : decode cX12_eventKind 8 = .ok (.ifCond .eq 7, 3) := by decide +kernel
theorem dX12_eventKind_11 : decode cX12_eventKind 11 = .ok (.iconst 0, 1) := by decide +kernel
theorem dX12_eventKind_12 : decode cX12_eventKind 12 = .ok (.goto 4, 3) := by decide +kernel
theorem dX12_eventKind_15 : decode cX12_eventKind 15 = .ok (.iconst 1, 1) := by decide +kernel
theorem dX12_eventKind_16 : decode cX12_eventKind 16 = .ok (.invokevirtual 198, 3) := by decide +kernel
theorem dX12_eventKind_19 : decode cX12_eventKind 19 = .ok (.ifCond .eq 24, 3) := by decide +kernel
theorem dX12_eventKind_22 : decode cX12_eventKind 22 = .ok (.aload_n 0, 1) := by decide +kernel
theorem dX12_eventKind_23 : decode cX12_eventKind 23 = .ok (.getfield 58, 3) := by decide +kernel
theorem dX12_eventKind_26 : decode cX12_eventKind 26 = .ok (.bipush 80, 2) := by decide +kernel
theorem dX12_eventKind_28 : decode cX12_eventKind 28 = .ok (.bipush 9, 2) := by decide +kernel
theorem dX12_eventKind_30 : decode cX12_eventKind 30 = .ok (.iload_n 1, 1) := by decide +kernel
theorem dX12_eventKind_31 : decode cX12_eventKind 31 = .ok (.imul, 1) := by decide +kernel
theorem dX12_eventKind_32 : decode cX12_eventKind 32 = .ok (.iload_n 2, 1) := by decide +kernel
theorem dX12_eventKind_33 : decode cX12_eventKind 33 = .ok (.iadd, 1) := by decide +kernel
theorem dX12_eventKind_34 : decode cX12_eventKind 34 = .ok (.iconst 1, 1) := by decide +kernel
theorem dX12_eventKind_35 : decode cX12_eventKind 35 = .ok (.isub, 1) := by decide +kernel
theorem dX12_eventKind_36 : decode cX12_eventKind 36 = .ok (.imul, 1) := by decide +kernel
theorem dX12_eventKind_37 : decode cX12_eventKind 37 = .ok (.iload_n 3, 1) := by decide +kernel
theorem dX12_eventKind_38 : decode cX12_eventKind 38 = .ok (.iadd, 1) := by decide +kernel
theorem dX12_eventKind_39 : decode cX12_eventKind 39 = .ok (.iaload, 1) := by decide +kernel
theorem dX12_eventKind_40 : decode cX12_eventKind 40 = .ok (.goto 4, 3) := by decide +kernel
theorem dX12_eventKind_43 : decode cX12_eventKind 43 = .ok (.iconst 0, 1) := by decide +kernel
theorem dX12_eventKind_44 : decode cX12_eventKind 44 = .ok (.ireturn, 1) := by decide +kernel
theorem e_X12_eventKind_16 (d : Nat) {l0 l1 l2 l3 s0 s1 : Int} {m : Mem} {v : Int} {m' : Mem} (h : X12_eventKind_16 l0 l1 l2 l3 s0 s1 m = some (v, m')) : Ex (d + 4) fm_X12_eventKind 16 [(22, l0), (0, l1), (0, l2), (0, l3)] [(0, s0), (22, s1)] m (.inl (0, v)) m' := by
  unfold X12_eventKind_16 at h
  obtain ⟨c1, h⟩ := chk_some h
  obtain ⟨v2, m3, g4, h⟩ := cal_some h
  refine cV1 (e_X12_isFine (d + 3) g4) (contN (by decide) (?_ : Ex _ _ 19 _ _ _ _ _)) og_X12_isFine rfl ml_RX12_198 12 rfl rfl c1 im_X12_isFine se_X12_isFine (Nat.le_of_ble_eq_true rfl) dX12_eventKind_16
  rcases ite_some h with ⟨b5, h⟩ | ⟨b5, h⟩
  · refine x_if_eq (tgt := 43) dX12_eventKind_19 rfl b5 (?_ : Ex _ _ 43 _ _ _ _ _)
    refine x_iconst dX12_eventKind_43 rfl (by decide) (?_ : Ex _ _ 44 _ _ _ _ _)
    cases h
    exact x_ret dX12_eventKind_44 (by decide : (0 : Int) ≠ 3)
  · refine x_if_eqN dX12_eventKind_19 (by decide) b5 (?_ : Ex _ _ 22 _ _ _ _ _)
    refine x_aload_n dX12_eventKind_22 rfl rfl (Or.inr (by decide)) (?_ : Ex _ _ 23 _ _ _ _ _)
    obtain ⟨c6, h⟩ := chk_some h
    refine gt_12_19 c6 fl_RX12_58 dX12_eventKind_23 (?_ : Ex _ _ 26 _ _ _ _ _)
    refine x_bipush dX12_eventKind_26 kb_80 (by decide) (?_ : Ex _ _ 28 _ _ _ _ _)
    refine x_bipush dX12_eventKind_28 kb_9 (by decide) (?_ : Ex _ _ 30 _ _ _ _ _)
    refine x_iload_n dX12_eventKind_30 rfl rfl (?_ : Ex _ _ 31 _ _ _ _ _)
    obtain ⟨c7, h⟩ := chk_some h
    refine x_imul dX12_eventKind_31 c7 (?_ : Ex _ _ 32 _ _ _ _ _)
    refine x_iload_n dX12_eventKind_32 rfl rfl (?_ : Ex _ _ 33 _ _ _ _ _)
    obtain ⟨c8, h⟩ := chk_some h
    refine x_iadd dX12_eventKind_33 c8 (?_ : Ex _ _ 34 _ _ _ _ _)
    refine x_iconst dX12_eventKind_34 rfl (by decide) (?_ : Ex _ _ 35 _ _ _ _ _)
    obtain ⟨c9, h⟩ := chk_some h
    refine x_isub dX12_eventKind_35 c9 (?_ : Ex _ _ 36 _ _ _ _ _)
    obtain ⟨c10, h⟩ := chk_some h
    refine x_imul dX12_eventKind_36 c10 (?_ : Ex _ _ 37 _ _ _ _ _)
    refine x_iload_n dX12_eventKind_37 rfl rfl (?_ : Ex _ _ 38 _ _ _ _ _)
    obtain ⟨c11, h⟩ := chk_some h
    refine x_iadd dX12_eventKind_38 c11 (?_ : Ex _ _ 39 _ _ _ _ _)
    obtain ⟨⟨c12, c13, c14⟩, h⟩ := chk_some h
    refine ld_i_7200 c12 c13 c14 dX12_eventKind_39 (?_ : Ex _ _ 40 _ _ _ _ _)
    refine x_goto (tgt := 44) dX12_eventKind_40 rfl (?_ : Ex _ _ 44 _ _ _ _ _)
    cases h
    exact x_ret dX12_eventKind_44 (by decide : (0 : Int) ≠ 3)
theorem e_X12_eventKind_0 (d : Nat) {l0 l1 l2 l3 : Int} {m : Mem} {v : Int} {m' : Mem} (h : X12_eventKind_0 l0 l1 l2 l3 m = some (v, m')) : Ex (d + 4) fm_X12_eventKind 0 [(22, l0), (0, l1), (0, l2), (0, l3)] [] m (.inl (0, v)) m' := by
  unfold X12_eventKind_0 at h
  refine x_aload_n dX12_eventKind_0 rfl rfl (Or.inr (by decide)) (?_ : Ex _ _ 1 _ _ _ _ _)
  refine x_aload_n dX12_eventKind_1 rfl rfl (Or.inr (by decide)) (?_ : Ex _ _ 2 _ _ _ _ _)
  refine x_iload_n dX12_eventKind_2 rfl rfl (?_ : Ex _ _ 3 _ _ _ _ _)
  refine x_iload_n dX12_eventKind_3 rfl rfl (?_ : Ex _ _ 4 _ _ _ _ _)
  refine x_iload_n dX12_eventKind_4 rfl rfl (?_ : Ex _ _ 5 _ _ _ _ _)
  obtain ⟨c1, h⟩ := chk_some h
  obtain ⟨v2, m3, g4, h⟩ := cal_some h
  refine cV3 (e_X12_isEvent d g4) (contN (by decide) (?_ : Ex _ _ 8 _ _ _ _ _)) og_X12_isEvent rfl ml_RX12_461 12 rfl rfl c1 im_X12_isEvent se_X12_isEvent (Nat.le_of_ble_eq_true rfl) dX12_eventKind_5
  rcases ite_some h with ⟨b5, h⟩ | ⟨b5, h⟩
  · refine x_if_eq (tgt := 15) dX12_eventKind_8 rfl b5 (?_ : Ex _ _ 15 _ _ _ _ _)
    refine x_iconst dX12_eventKind_15 rfl (by decide) (?_ : Ex _ _ 16 _ _ _ _ _)
    exact e_X12_eventKind_16 d h
  · refine x_if_eqN dX12_eventKind_8 (by decide) b5 (?_ : Ex _ _ 11 _ _ _ _ _)
    refine x_iconst dX12_eventKind_11 rfl (by decide) (?_ : Ex _ _ 12 _ _ _ _ _)
    refine x_goto (tgt := 16) dX12_eventKind_12 rfl (?_ : Ex _ _ 16 _ _ _ _ _)
    exact e_X12_eventKind_16 d h
theorem e_X12_eventKind (d : Nat) {a0 a1 a2 a3 : Int} {m : Mem} {v : Int} {m' : Mem} (h : X12_eventKind a0 a1 a2 a3 m = some (v, m')) : ExM (d + 4) fm_X12_eventKind [(22, a0), (0, a1), (0, a2), (0, a3)] m (.inl (0, v)) m' := by
  exact ExM.of (by decide +kernel) (Nat.le_of_ble_eq_true rfl) (cat9 rfl) retI (e_X12_eventKind_0 d h)
theorem dX12_eventNumber_0 : decode cX12_eventNumber 0 = .ok (.aload_n 0, 1) := by decide +kernel
theorem dX12_eventNumber_1 : decode cX12_eventNumber 1 = .ok (.aload_n 0, 1) := by decide +kernel
theorem dX12_eventNumber_2 : decode cX12_eventNumber 2 = .ok (.iload_n 1, 1) := by decide +kernel
theorem dX12_eventNumber_3 : decode cX12_eventNumber 3 = .ok (.iload_n 2, 1) := by decide +kernel
theorem dX12_eventNumber_4 : decode cX12_eventNumber 4 = .ok (.iload_n 3, 1) := by decide +kernel
theorem dX12_eventNumber_5 : decode cX12_eventNumber 5 = .ok (.invokevirtual 461, 3) := by decide +kernel
theorem dX12_eventNumber_8 : decode cX12_eventNumber 8 = .ok (.ifCond .eq 7, 3) := by decide +kernel
theorem dX12_eventNumber_11 : decode cX12_eventNumber 11 = .ok (.iconst 0, 1) := by decide +kernel
theorem dX12_eventNumber_12 : decode cX12_eventNumber 12 = .ok (.goto 4, 3) := by decide +kernel
theorem dX12_eventNumber_15 : decode cX12_eventNumber 15 = .ok (.iconst 1, 1) := by decide +kernel
theorem dX12_eventNumber_16 : decode cX12_eventNumber 16 = .ok (.invokevirtual 198, 3) := by decide +kernel
theorem dX12_eventNumber_19 : decode cX12_eventNumber 19 = .ok (.ifCond .ne 5, 3) := by decide +kernel
theorem dX12_eventNumber_22 : decode cX12_eventNumber 22 = .ok (.iconst 0, 1) := by decide +kernel
theorem dX12_eventNumber_23 : decode cX12_eventNumber 23 = .ok (.ireturn, 1) := by decide +kernel
theorem dX12_eventNumber_24 : decode cX12_eventNumber 24 = .ok (.bipush 80, 2) := by decide +kernel
theorem dX12_eventNumber_26 : decode cX12_eventNumber 26 = .ok (.bipush 9, 2) := by decide +kernel
theorem dX12_eventNumber_28 : decode cX12_eventNumber 28 = .ok (.iload_n 1, 1) := by decide +kernel
theorem dX12_eventNumber_29 : decode cX12_eventNumber 29 = .ok (.imul, 1) := by decide +kernel
theorem dX12_eventNumber_30 : decode cX12_eventNumber 30 = .ok (.iload_n 2, 1) := by decide +kernel
theorem dX12_eventNumber_31 : decode cX12_eventNumber 31 = .ok (.iadd, 1) := by decide +kernel
theorem dX12_eventNumber_32 : decode cX12_eventNumber 32 = .ok (.iconst 1, 1) := by decide +kernel
theorem dX12_eventNumber_33 : decode cX12_eventNumber 33 = .ok (.isub, 1) := by decide +kernel
theorem dX12_eventNumber_34 : decode cX12_eventNumber 34 = .ok (.imul, 1) := by decide +kernel
theorem dX12_eventNumber_35 : decode cX12_eventNumber 35 = .ok (.iload_n 3, 1) := by decide +kernel
theorem dX12_eventNumber_36 : decode cX12_eventNumber 36 = .ok (.iadd, 1) := by decide +kernel
theorem dX12_eventNumber_37 : decode cX12_eventNumber 37 = .ok (.istore 5, 2) := by decide +kernel
theorem dX12_eventNumber_39 : decode cX12_eventNumber 39 = .ok (.iload 4, 2) := by decide +kernel
theorem dX12_eventNumber_41 : decode cX12_eventNumber 41 = .ok (.ifCond .eq 13, 3) := by decide +kernel
theorem dX12_eventNumber_44 : decode cX12_eventNumber 44 = .ok (.aload_n 0, 1) := by decide +kernel
theorem dX12_eventNumber_45 : decode cX12_eventNumber 45 = .ok (.getfield 61, 3) := by decide +kernel
theorem dX12_eventNumber_48 : decode cX12_eventNumber 48 = .ok (.iload 5, 2) := by decide +kernel
theorem dX12_eventNumber_50 : decode cX12_eventNumber 50 = .ok (.iaload, 1) := by decide +kernel
theorem dX12_eventNumber_51 : decode cX12_eventNumber 51 = .ok (.goto 10, 3) := by decide +kernel
theorem dX12_eventNumber_54 : decode cX12_eventNumber 54 = .ok (.aload_n 0, 1) := by decide +kernel
theorem dX12_eventNumber_55 : decode cX12_eventNumber 55 = .ok (.getfield 64, 3) := by decide +kernel
theorem dX12_eventNumber_58 : decode cX12_eventNumber 58 = .ok (.iload 5, 2) := by decide +kernel
theorem dX12_eventNumber_60 : decode cX12_eventNumber 60 = .ok (.iaload, 1) := by decide +kernel
theorem dX12_eventNumber_61 : decode cX12_eventNumber 61 = .ok (.ireturn, 1) := by decide +kernel
theorem e_X12_eventNumber_16 (d : Nat) {l0 l1 l2 l3 l4 s0 s1 : Int} {m : Mem} {v : Int} {m' : Mem} (h : X12_eventNumber_16 l0 l1 l2 l3 l4 s0 s1 m = some (v, m')) : Ex (d + 4) fm_X12_eventNumber 16 [(22, l0), (0, l1), (0, l2), (0, l3), (0, l4), (3, 0)] [(0, s0), (22, s1)] m (.inl (0, v)) m' := by
  unfold X12_eventNumber_16 at h
  obtain ⟨c1, h⟩ := chk_some h
  obtain ⟨v2, m3, g4, h⟩ := cal_some h
  refine cV1 (e_X12_isFine (d + 3) g4) (contN (by decide) (?_ : Ex _ _ 19 _ _ _ _ _)) og_X12_isFine rfl ml_RX12_198 12 rfl rfl c1 im_X12_isFine se_X12_isFine (Nat.le_of_ble_eq_true rfl) dX12_eventNumber_16
  rcases ite_some h with ⟨b5, h⟩ | ⟨b5, h⟩
  · refine x_if_neN dX12_eventNumber_19 (by decide) (fun hh => hh b5) (?_ : Ex _ _ 22 _ _ _ _ _)
    refine x_iconst dX12_eventNumber_22 rfl (by decide) (?_ : Ex _ _ 23 _ _ _ _ _)
    cases h
    exact x_ret dX12_eventNumber_23 (by decide : (0 : Int) ≠ 3)
  · refine x_if_ne (tgt := 24) dX12_eventNumber_19 rfl b5 (?_ : Ex _ _ 24 _ _ _ _ _)
    refine x_bipush dX12_eventNumber_24 kb_80 (by decide) (?_ : Ex _ _ 26 _ _ _ _ _)
    refine x_bipush dX12_eventNumber_26 kb_9 (by decide) (?_ : Ex _ _ 28 _ _ _ _ _)
    refine x_iload_n dX12_eventNumber_28 rfl rfl (?_ : Ex _ _ 29 _ _ _ _ _)
    obtain ⟨c6, h⟩ := chk_some h
    refine x_imul dX12_eventNumber_29 c6 (?_ : Ex _ _ 30 _ _ _ _ _)
    refine x_iload_n dX12_eventNumber_30 rfl rfl (?_ : Ex _ _ 31 _ _ _ _ _)
    obtain ⟨c7, h⟩ := chk_some h
    refine x_iadd dX12_eventNumber_31 c7 (?_ : Ex _ _ 32 _ _ _ _ _)
    refine x_iconst dX12_eventNumber_32 rfl (by decide) (?_ : Ex _ _ 33 _ _ _ _ _)
    obtain ⟨c8, h⟩ := chk_some h
    refine x_isub dX12_eventNumber_33 c8 (?_ : Ex _ _ 34 _ _ _ _ _)
    obtain ⟨c9, h⟩ := chk_some h
    refine x_imul dX12_eventNumber_34 c9 (?_ : Ex _ _ 35 _ _ _ _ _)
    refine x_iload_n dX12_eventNumber_35 rfl rfl (?_ : Ex _ _ 36 _ _ _ _ _)
    obtain ⟨c10, h⟩ := chk_some h
    refine x_iadd dX12_eventNumber_36 c10 (?_ : Ex _ _ 37 _ _ _ _ _)
    refine x_istore (ls2 := [(22, l0), (0, l1), (0, l2), (0, l3), (0, l4), (0, ((80 * (((9 * l1) + l2) - 1)) + l3))]) dX12_eventNumber_37 (Nat.le_of_ble_eq_true rfl) rfl (?_ : Ex _ _ 39 _ _ _ _ _)
    refine x_iload dX12_eventNumber_39 rfl (?_ : Ex _ _ 41 _ _ _ _ _)
    rcases ite_some h with ⟨b11, h⟩ | ⟨b11, h⟩
    · refine x_if_eq (tgt := 54) dX12_eventNumber_41 rfl b11 (?_ : Ex _ _ 54 _ _ _ _ _)
      refine x_aload_n dX12_eventNumber_54 rfl rfl (Or.inr (by decide)) (?_ : Ex _ _ 55 _ _ _ _ _)
      obtain ⟨c12, h⟩ := chk_some h
      refine gt_12_21 c12 fl_RX12_64 dX12_eventNumber_55 (?_ : Ex _ _ 58 _ _ _ _ _)
      refine x_iload dX12_eventNumber_58 rfl (?_ : Ex _ _ 60 _ _ _ _ _)
      obtain ⟨⟨c13, c14, c15⟩, h⟩ := chk_some h
      refine ld_i_7200 c13 c14 c15 dX12_eventNumber_60 (?_ : Ex _ _ 61 _ _ _ _ _)
      cases h
      exact x_ret dX12_eventNumber_61 (by decide : (0 : Int) ≠ 3)
    · refine x_if_eqN dX12_eventNumber_41 (by decide) b11 (?_ : Ex _ _ 44 _ _ _ _ _)
      refine x_aload_n dX12_eventNumber_44 rfl rfl (Or.inr (by decide)) (?_ : Ex _ _ 45 _ _ _ _ _)
      obtain ⟨c16, h⟩ := chk_some h
      refine gt_12_20 c16 fl_RX12_61 dX12_eventNumber_45 (?_ : Ex _ _ 48 _ _ _ _ _)
      refine x_iload dX12_eventNumber_48 rfl (?_ : Ex _ _ 50 _ _ _ _ _)
      obtain ⟨⟨c17, c18, c19⟩, h⟩ := chk_some h
      refine ld_i_7200 c17 c18 c19 dX12_eventNumber_50 (?_ : Ex _ _ 51 _ _ _ _ _)
      refine x_goto (tgt := 61) dX12_eventNumber_51 rfl (?_ : Ex _ _ 61 _ _ _ _ _)
      cases h
      exact x_ret dX12_eventNumber_61 (by decide : (0 : Int) ≠ 3)
theorem e_X12_eventNumber_0 (d : Nat) {l0 l1 l2 l3 l4 : Int} {m : Mem} {v : Int} {m' : Mem} (h : X12_eventNumber_0 l0 l1 l2 l3 l4 m = some (v, m')) : Ex (d + 4) fm_X12_eventNumber 0 [(22, l0), (0, l1), (0, l2), (0, l3), (0, l4), (3, 0)] [] m (.inl (0, v)) m' := by
  unfold X12_eventNumber_0 at h
  refine x_aload_n dX12_eventNumber_0 rfl rfl (Or.inr (by decide)) (?_ : Ex _ _ 1 _ _ _ _ _)
  refine x_aload_n dX12_eventNumber_1 rfl rfl (Or.inr (by decide)) (?_ : Ex _ _ 2 _ _ _ _ _)
  refine x_iload_n dX12_eventNumber_2 rfl rfl (?_ : Ex _ _ 3 _ _ _ _ _)
  refine x_iload_n dX12_eventNumber_3 rfl rfl (?_ : Ex _ _ 4 _ _ _ _ _)
  refine x_iload_n dX12_eventNumber_4 rfl rfl (?_ : Ex _ _ 5 _ _ _ _ _)
  obtain ⟨c1, h⟩ := chk_some h
  obtain ⟨v2, m3, g4, h⟩ := cal_some h
  refine cV3 (e_X12_isEvent d g4) (contN (by decide) (?_ : Ex _ _ 8 _ _ _ _ _)) og_X12_isEvent rfl ml_RX12_461 12 rfl rfl c1 im_X12_isEvent se_X12_isEvent (Nat.le_of_ble_eq_true rfl) dX12_eventNumber_5
  rcases ite_some h with ⟨b5, h⟩ | ⟨b5, h⟩
  · refine x_if_eq (tgt := 15) dX12_eventNumber_8 rfl b5 (?_ : Ex _ _ 15 _ _ _ _ _)
    refine x_iconst dX12_eventNumber_15 rfl (by decide) (?_ : Ex _ _ 16 _ _ _ _ _)
    exact e_X12_eventNumber_16 d h
  · refine x_if_eqN dX12_eventNumber_8 (by decide) b5 (?_ : Ex _ _ 11 _ _ _ _ _)
    refine x_iconst dX12_eventNumber_11 rfl (by decide) (?_ : Ex _ _ 12 _ _ _ _ _)
    refine x_goto (tgt := 16) dX12_eventNumber_12 rfl (?_ : Ex _ _ 16 _ _ _ _ _)
    exact e_X12_eventNumber_16 d h
theorem e_X12_eventNumber (d : Nat) {a0 a1 a2 a3 a4 : Int} {m : Mem} {v : Int} {m' : Mem} (h : X12_eventNumber a0 a1 a2 a3 a4 m = some (v, m')) : ExM (d + 4) fm_X12_eventNumber [(22, a0), (0, a1), (0, a2), (0, a3), (0, a4)] m (.inl (0, v)) m' := by
  exact ExM.of (by decide +kernel) (Nat.le_of_ble_eq_true rfl) (cat9 rfl) retI (e_X12_eventNumber_0 d h)
theorem dX12_property_0 : decode cX12_property 0 = .ok (.aload_n 0, 1) := by decide +kernel
theorem dX12_property_1 : decode cX12_property 1 = .ok (.iload_n 1, 1) := by decide +kernel
theorem dX12_property_2 : decode cX12_property 2 = .ok (.invokevirtual 224, 3) := by decide +kernel
theorem dX12_property_5 : decode cX12_property 5 = .ok (.istore_n 3, 1) := by decide +kernel
theorem dX12_property_6 : decode cX12_property 6 = .ok (.aload_n 0, 1) := by decide +kernel
theorem dX12_property_7 : decode cX12_property 7 = .ok (.iload_n 3, 1) := by decide +kernel
theorem dX12_property_8 : decode cX12_property 8 = .ok (.ifCond .ne 7, 3) := by decide +kernel
theorem dX12_property_11 : decode cX12_property 11 = .ok (.iconst 1, 1) := by decide +kernel
theorem dX12_property_12 : decode cX12_property 12 = .ok (.goto 17, 3) := by decide +kernel
theorem dX12_property_15 : decode cX12_property 15 = .ok (.iload_n 2, 1) := by decide +kernel
theorem dX12_property_16 : decode cX12_property 16 = .ok (.iconst 0, 1) := by decide +kernel
theorem dX12_property_17 : decode cX12_property 17 = .ok (.iconst 1, 1) := by decide +kernel
theorem dX12_property_18 : decode cX12_property 18 = .ok (.invokestatic 177, 3) := by decide +kernel
theorem dX12_property_21 : decode cX12_property 21 = .ok (.ifCond .ne 7, 3) := by decide +kernel
theorem dX12_property_24 : decode cX12_property 24 = .ok (.iconst 2, 1) := by decide +kernel
theorem dX12_property_25 : decode cX12_property 25 = .ok (.goto 4, 3) := by decide +kernel
theorem dX12_property_28 : decode cX12_property 28 = .ok (.iconst 0, 1) := by decide +kernel
theorem dX12_property_29 : decode cX12_property 29 = .ok (.invokevirtual 198, 3) := by decide +kernel
theorem dX12_property_32 : decode cX12_property 32 = .ok (.ifCond .eq 16, 3) := by decide +kernel
theorem dX12_property_35 : decode cX12_property 35 = .ok (.aload_n 0, 1) := by decide +kernel
theorem dX12_property_36 : decode cX12_property 36 = .ok (.getfield 43, 3) := by decide +kernel
theorem dX12_property_39 : decode cX12_property 39 = .ok (.iconst 2, 1) := by decide +kernel
theorem dX12_property_40 : decode cX12_property 40 = .ok (.iload_n 1, 1) := by decide +kernel
theorem dX12_property_41 : decode cX12_property 41 = .ok (.imul, 1) := by decide +kernel
theorem dX12_property_42 : decode cX12_property 42 = .ok (.iload_n 2, 1) := by decide +kernel
theorem dX12_property_43 : decode cX12_property 43 = .ok (.iadd, 1) := by decide +kernel
theorem dX12_property_44 : decode cX12_property 44 = .ok (.iaload, 1) := by decide +kernel
theorem dX12_property_45 : decode cX12_property 45 = .ok (.goto 4, 3) := by decide +kernel
theorem dX12_property_48 : decode cX12_property 48 = .ok (.iconst 0, 1) := by decide +kernel
theorem dX12_property_49 : decode cX12_property 49 = .ok (.ireturn, 1) := by decide +kernel
theorem e_X12_property_29 (d : Nat) {l0 l1 l2 s0 s1 : Int} {m : Mem} {v : Int} {m' : Mem} (h : X12_property_29 l0 l1 l2 s0 s1 m = some (v, m')) : Ex (d + 2) fm_X12_property 29 [(22, l0), (0, l1), (0, l2), (3, 0)] [(0, s0), (22, s1)] m (.inl (0, v)) m' := by
  unfold X12_property_29 at h
  obtain ⟨c1, h⟩ := chk_some h
  obtain ⟨v2, m3, g4, h⟩ := cal_some h
  refine cV1 (e_X12_isFine (d + 1) g4) (contN (by decide) (?_ : Ex _ _ 32 _ _ _ _ _)) og_X12_isFine rfl ml_RX12_198 12 rfl rfl c1 im_X12_isFine se_X12_isFine (Nat.le_of_ble_eq_true rfl) dX12_property_29
  rcases ite_some h with ⟨b5, h⟩ | ⟨b5, h⟩
  · refine x_if_eq (tgt := 48) dX12_property_32 rfl b5 (?_ : Ex _ _ 48 _ _ _ _ _)
    refine x_iconst dX12_property_48 rfl (by decide) (?_ : Ex _ _ 49 _ _ _ _ _)
    cases h
    exact x_ret dX12_property_49 (by decide : (0 : Int) ≠ 3)
  · refine x_if_eqN dX12_property_32 (by decide) b5 (?_ : Ex _ _ 35 _ _ _ _ _)
    refine x_aload_n dX12_property_35 rfl rfl (Or.inr (by decide)) (?_ : Ex _ _ 36 _ _ _ _ _)
    obtain ⟨c6, h⟩ := chk_some h
    refine gt_12_13 c6 fl_RX12_43 dX12_property_36 (?_ : Ex _ _ 39 _ _ _ _ _)
    refine x_iconst dX12_property_39 rfl (by decide) (?_ : Ex _ _ 40 _ _ _ _ _)
    refine x_iload_n dX12_property_40 rfl rfl (?_ : Ex _ _ 41 _ _ _ _ _)
    obtain ⟨c7, h⟩ := chk_some h
    refine x_imul dX12_property_41 c7 (?_ : Ex _ _ 42 _ _ _ _ _)
    refine x_iload_n dX12_property_42 rfl rfl (?_ : Ex _ _ 43 _ _ _ _ _)
    obtain ⟨c8, h⟩ := chk_some h
    refine x_iadd dX12_property_43 c8 (?_ : Ex _ _ 44 _ _ _ _ _)
    obtain ⟨⟨c9, c10, c11⟩, h⟩ := chk_some h
    refine ld_i_20 c9 c10 c11 dX12_property_44 (?_ : Ex _ _ 45 _ _ _ _ _)
    refine x_goto (tgt := 49) dX12_property_45 rfl (?_ : Ex _ _ 49 _ _ _ _ _)
    cases h
    exact x_ret dX12_property_49 (by decide : (0 : Int) ≠ 3)
theorem e_X12_property_0 (d : Nat) {l0 l1 l2 : Int} {m : Mem} {v : Int} {m' : Mem} (h : X12_property_0 l0 l1 l2 m = some (v, m')) : Ex (d + 2) fm_X12_property 0 [(22, l0), (0, l1), (0, l2), (3, 0)] [] m (.inl (0, v)) m' := by
  unfold X12_property_0 at h
  refine x_aload_n dX12_property_0 rfl rfl (Or.inr (by decide)) (?_ : Ex _ _ 1 _ _ _ _ _)
  refine x_iload_n dX12_property_1 rfl rfl (?_ : Ex _ _ 2 _ _ _ _ _)
  obtain ⟨c1, h⟩ := chk_some h
  obtain ⟨v2, m3, g4, h⟩ := cal_some h
  refine cV1 (e_X12_isFlow d g4) (contN (by decide) (?_ : Ex _ _ 5 _ _ _ _ _)) og_X12_isFlow rfl ml_RX12_224 12 rfl rfl c1 im_X12_isFlow se_X12_isFlow (Nat.le_of_ble_eq_true rfl) dX12_property_2
  refine x_istore_n (ls2 := [(22, l0), (0, l1), (0, l2), (0, v2)]) dX12_property_5 rfl (Nat.le_of_ble_eq_true rfl) rfl (?_ : Ex _ _ 6 _ _ _ _ _)
  refine x_aload_n dX12_property_6 rfl rfl (Or.inr (by decide)) (?_ : Ex _ _ 7 _ _ _ _ _)
  refine x_iload_n dX12_property_7 rfl rfl (?_ : Ex _ _ 8 _ _ _ _ _)
  rcases ite_some h with ⟨b5, h⟩ | ⟨b5, h⟩
  · refine x_if_neN dX12_property_8 (by decide) (fun hh => hh b5) (?_ : Ex _ _ 11 _ _ _ _ _)
    refine x_iconst dX12_property_11 rfl (by decide) (?_ : Ex _ _ 12 _ _ _ _ _)
    refine x_goto (tgt := 29) dX12_property_12 rfl (?_ : Ex _ _ 29 _ _ _ _ _)
    refine Ex.wk (ls2 := [(22, l0), (0, l1), (0, l2), (3, 0)]) ⟨Or.inr rfl, Or.inr rfl, Or.inr rfl, Or.inl rfl, trivial⟩ ?_
    exact e_X12_property_29 d h
  · refine x_if_ne (tgt := 15) dX12_property_8 rfl b5 (?_ : Ex _ _ 15 _ _ _ _ _)
    refine x_iload_n dX12_property_15 rfl rfl (?_ : Ex _ _ 16 _ _ _ _ _)
    refine x_iconst dX12_property_16 rfl (by decide) (?_ : Ex _ _ 17 _ _ _ _ _)
    refine x_iconst dX12_property_17 rfl (by decide) (?_ : Ex _ _ 18 _ _ _ _ _)
    obtain ⟨v6, m7, g8, h⟩ := cal_some h
    refine cS3 (e_X12_isIn (d + 1) g8) (contN (by decide) (?_ : Ex _ _ 21 _ _ _ _ _)) og_X12_isIn rfl ml_RX12_177 sm_X12_isIn (Nat.le_of_ble_eq_true rfl) dX12_property_18
    rcases ite_some h with ⟨b9, h⟩ | ⟨b9, h⟩
    · refine x_if_neN dX12_property_21 (by decide) (fun hh => hh b9) (?_ : Ex _ _ 24 _ _ _ _ _)
      refine x_iconst dX12_property_24 rfl (by decide) (?_ : Ex _ _ 25 _ _ _ _ _)
      refine x_goto (tgt := 29) dX12_property_25 rfl (?_ : Ex _ _ 29 _ _ _ _ _)
      refine Ex.wk (ls2 := [(22, l0), (0, l1), (0, l2), (3, 0)]) ⟨Or.inr rfl, Or.inr rfl, Or.inr rfl, Or.inl rfl, trivial⟩ ?_
      exact e_X12_property_29 d h
    · refine x_if_ne (tgt := 28) dX12_property_21 rfl b9 (?_ : Ex _ _ 28 _ _ _ _ _)
      refine x_iconst dX12_property_28 rfl (by decide) (?_ : Ex _ _ 29 _ _ _ _ _)
      refine Ex.wk (ls2 := [(22, l0), (0, l1), (0, l2), (3, 0)]) ⟨Or.inr rfl, Or.inr rfl, Or.inr rfl, Or.inl rfl, trivial⟩ ?_
      exact e_X12_property_29 d h
theorem e_X12_property (d : Nat) {a0 a1 a2 : Int} {m : Mem} {v : Int} {m' : Mem} (h : X12_property a0 a1 a2 m = some (v, m')) : ExM (d + 2) fm_X12_property [(22, a0), (0, a1), (0, a2)] m (.inl (0, v)) m' := by
  exact ExM.of (by decide +kernel) (Nat.le_of_ble_eq_true rfl) (cat9 rfl) retI (e_X12_property_0 d h)
theorem dX12_found_0 : decode cX12_found 0 = .ok (.aload_n 0, 1) := by decide +kernel
theorem dX12_found_1 : decode cX12_found 1 = .ok (.iload_n 1, 1) := by decide +kernel
theorem dX12_found_2 : decode cX12_found 2 = .ok (.iconst 0, 1) := by decide +kernel
theorem dX12_found_3 : decode cX12_found 3 = .ok (.iconst 1, 1) := by decide +kernel
theorem dX12_found_4 : decode cX12_found 4 = .ok (.invokestatic 177, 3) := by decide +kernel
theorem dX12_found_7 : decode cX12_found 7 = .ok (.ifCond .eq 8, 3) := by decide +kernel
theorem dX12_found_10 : decode cX12_found 10 = .ok (.iload_n 2, 1) := by decide +kernel
theorem dX12_found_11 : decode cX12_found 11 = .ok (.iload_n 3, 1) := by decide +kernel
theorem dX12_found_12 : decode cX12_found 12 = .ok (.if_icmp .le 7, 3) := by decide +kernel
theorem dX12_found_15 : decode cX12_found 15 = .ok (.iconst 1, 1) := by decide +kernel
theorem dX12_found_16 : decode cX12_found 16 = .ok (.goto 4, 3) := by decide +kernel
theorem dX12_found_19 : decode cX12_found 19 = .ok (.iconst 0, 1) := by decide +kernel
theorem dX12_found_20 : decode cX12_found 20 = .ok (.invokevirtual 198, 3) := by decide +kernel
theorem dX12_found_23 : decode cX12_found 23 = .ok (.ifCond .ne 5, 3) := by decide +kernel
theorem dX12_found_26 : decode cX12_found 26 = .ok (.iconst 0, 1) := by decide +kernel
theorem dX12_found_27 : decode cX12_found 27 = .ok (.ireturn, 1) := by decide +kernel
theorem dX12_found_28 : decode cX12_found 28 = .ok (.iconst 0, 1) := by decide +kernel
theorem dX12_found_29 : decode cX12_found 29 = .ok (.istore 4, 2) := by decide +kernel
theorem dX12_found_31 : decode cX12_found 31 = .ok (.iconst 0, 1) := by decide +kernel
theorem dX12_found_32 : decode cX12_found 32 = .ok (.istore 5, 2) := by decide +kernel
theorem dX12_found_34 : decode cX12_found 34 = .ok (.iload 5, 2) := by decide +kernel
theorem dX12_found_36 : decode cX12_found 36 = .ok (.aload_n 0, 1) := by decide +kernel
theorem dX12_found_37 : decode cX12_found 37 = .ok (.getfield 181, 3) := by decide +kernel
theorem dX12_found_40 : decode cX12_found 40 = .ok (.if_icmp .ge 47, 3) := by decide +kernel
theorem dX12_found_43 : decode cX12_found 43 = .ok (.iload 4, 2) := by decide +kernel
theorem dX12_found_45 : decode cX12_found 45 = .ok (.aload_n 0, 1) := by decide +kernel
theorem dX12_found_46 : decode cX12_found 46 = .ok (.iload 5, 2) := by decide +kernel
theorem dX12_found_48 : decode cX12_found 48 = .ok (.invokevirtual 209, 3) := by decide +kernel
theorem dX12_found_51 : decode cX12_found 51 = .ok (.ifCond .eq 26, 3) := by decide +kernel
theorem dX12_found_54 : decode cX12_found 54 = .ok (.aload_n 0, 1) := by decide +kernel
theorem dX12_found_55 : decode cX12_found 55 = .ok (.getfield 43, 3) := by decide +kernel
theorem dX12_found_58 : decode cX12_found 58 = .ok (.iconst 2, 1) := by decide +kernel
theorem dX12_found_59 : decode cX12_found 59 = .ok (.iload 5, 2) := by decide +kernel
theorem dX12_found_61 : decode cX12_found 61 = .ok (.imul, 1) := by decide +kernel
theorem dX12_found_62 : decode cX12_found 62 = .ok (.iload_n 1, 1) := by decide +kernel
theorem dX12_found_63 : decode cX12_found 63 = .ok (.iadd, 1) := by decide +kernel
theorem dX12_found_64 : decode cX12_found 64 = .ok (.iaload, 1) := by decide +kernel
theorem dX12_found_65 : decode cX12_found 65 = .ok (.iload_n 2, 1) := by decide +kernel
theorem dX12_found_66 : decode cX12_found 66 = .ok (.iload_n 3, 1) := by decide +kernel
theorem dX12_found_67 : decode cX12_found 67 = .ok (.invokestatic 177, 3) := by decide +kernel
theorem dX12_found_70 : decode cX12_found 70 = .ok (.ifCond .eq 7, 3) := by decide +kernel
theorem dX12_found_73 : decode cX12_found 73 = .ok (.iconst 1, 1) := by decide +kernel
theorem dX12_found_74 : decode cX12_found 74 = .ok (.goto 4, 3) := by decide +kernel
theorem dX12_found_77 : decode cX12_found 77 = .ok (.iconst 0, 1) := by decide +kernel
theorem dX12_found_78 : decode cX12_found 78 = .ok (.iadd, 1) := by decide +kernel
theorem dX12_found_79 : decode cX12_found 79 = .ok (.istore 4, 2) := by decide +kernel
theorem dX12_found_81 : decode cX12_found 81 = .ok (.iinc 5 1, 3) := by decide +kernel
theorem dX12_found_84 : decode cX12_found 84 = .ok (.goto (-50), 3) := by decide +kernel
theorem dX12_found_87 : decode cX12_found 87 = .ok (.iload 4, 2) := by decide +kernel
theorem dX12_found_89 : decode cX12_found 89 = .ok (.ireturn, 1) := by decide +kernel
theorem e_X12_found_34 (d : Nat) : ∀ (n : Nat) {l0 l1 l2 l3 l4 l5 : Int} {m : Mem} {v : Int} {m' : Mem}, X12_found_34 n l0 l1 l2 l3 l4 l5 m = some (v, m') → Ex (d + 2) fm_X12_found 34 [(22, l0), (0, l1), (0, l2), (0, l3), (0, l4), (0, l5)] [] m (.inl (0, v)) m' := by
  intro n
  induction n with
  | zero =>
    intro l0 l1 l2 l3 l4 l5 m v m' h
    have h : (none : Option R2) = some _ := h
    cases h
  | succ n ih =>
    intro l0 l1 l2 l3 l4 l5 m v m' h
    rw [X12_found_34] at h
    refine x_iload dX12_found_34 rfl (?_ : Ex _ _ 36 _ _ _ _ _)
    refine x_aload_n dX12_found_36 rfl rfl (Or.inr (by decide)) (?_ : Ex _ _ 37 _ _ _ _ _)
    obtain ⟨c1, h⟩ := chk_some h
    refine gt_12_16 c1 fl_RX12_181 dX12_found_37 (?_ : Ex _ _ 40 _ _ _ _ _)
    rcases ite_some h with ⟨b2, h⟩ | ⟨b2, h⟩
    · refine x_icmp_ge (tgt := 87) dX12_found_40 rfl b2 (?_ : Ex _ _ 87 _ _ _ _ _)
      refine x_iload dX12_found_87 rfl (?_ : Ex _ _ 89 _ _ _ _ _)
      cases h
      exact x_ret dX12_found_89 (by decide : (0 : Int) ≠ 3)
    · refine x_icmp_geN dX12_found_40 (by decide) b2 (?_ : Ex _ _ 43 _ _ _ _ _)
      refine x_iload dX12_found_43 rfl (?_ : Ex _ _ 45 _ _ _ _ _)
      refine x_aload_n dX12_found_45 rfl rfl (Or.inr (by decide)) (?_ : Ex _ _ 46 _ _ _ _ _)
      refine x_iload dX12_found_46 rfl (?_ : Ex _ _ 48 _ _ _ _ _)
      obtain ⟨v3, m4, g5, h⟩ := cal_some h
      refine cV1 (e_X12_isRunning d g5) (contN (by decide) (?_ : Ex _ _ 51 _ _ _ _ _)) og_X12_isRunning rfl ml_RX12_209 12 rfl rfl c1 im_X12_isRunning se_X12_isRunning (Nat.le_of_ble_eq_true rfl) dX12_found_48
      rcases ite_some h with ⟨b6, h⟩ | ⟨b6, h⟩
      · refine x_if_eq (tgt := 77) dX12_found_51 rfl b6 (?_ : Ex _ _ 77 _ _ _ _ _)
        refine x_iconst dX12_found_77 rfl (by decide) (?_ : Ex _ _ 78 _ _ _ _ _)
        obtain ⟨c7, h⟩ := chk_some h
        refine x_iadd dX12_found_78 c7 (?_ : Ex _ _ 79 _ _ _ _ _)
        refine x_istore (ls2 := [(22, l0), (0, l1), (0, l2), (0, l3), (0, (l4 + 0)), (0, l5)]) dX12_found_79 (Nat.le_of_ble_eq_true rfl) rfl (?_ : Ex _ _ 81 _ _ _ _ _)
        obtain ⟨c8, h⟩ := chk_some h
        refine x_iinc (ls2 := [(22, l0), (0, l1), (0, l2), (0, l3), (0, (l4 + 0)), (0, (l5 + 1))]) dX12_found_81 rfl c8 rfl (?_ : Ex _ _ 84 _ _ _ _ _)
        refine x_goto (tgt := 34) dX12_found_84 rfl (?_ : Ex _ _ 34 _ _ _ _ _)
        exact ih h
      · refine x_if_eqN dX12_found_51 (by decide) b6 (?_ : Ex _ _ 54 _ _ _ _ _)
        refine x_aload_n dX12_found_54 rfl rfl (Or.inr (by decide)) (?_ : Ex _ _ 55 _ _ _ _ _)
        refine gt_12_13 c1 fl_RX12_43 dX12_found_55 (?_ : Ex _ _ 58 _ _ _ _ _)
        refine x_iconst dX12_found_58 rfl (by decide) (?_ : Ex _ _ 59 _ _ _ _ _)
        refine x_iload dX12_found_59 rfl (?_ : Ex _ _ 61 _ _ _ _ _)
        obtain ⟨c9, h⟩ := chk_some h
        refine x_imul dX12_found_61 c9 (?_ : Ex _ _ 62 _ _ _ _ _)
        refine x_iload_n dX12_found_62 rfl rfl (?_ : Ex _ _ 63 _ _ _ _ _)
        obtain ⟨c10, h⟩ := chk_some h
        refine x_iadd dX12_found_63 c10 (?_ : Ex _ _ 64 _ _ _ _ _)
        obtain ⟨⟨c11, c12, c13⟩, h⟩ := chk_some h
        refine ld_i_20 c11 c12 c13 dX12_found_64 (?_ : Ex _ _ 65 _ _ _ _ _)
        refine x_iload_n dX12_found_65 rfl rfl (?_ : Ex _ _ 66 _ _ _ _ _)
        refine x_iload_n dX12_found_66 rfl rfl (?_ : Ex _ _ 67 _ _ _ _ _)
        obtain ⟨v14, m15, g16, h⟩ := cal_some h
        refine cS3 (e_X12_isIn (d + 1) g16) (contN (by decide) (?_ : Ex _ _ 70 _ _ _ _ _)) og_X12_isIn rfl ml_RX12_177 sm_X12_isIn (Nat.le_of_ble_eq_true rfl) dX12_found_67
        rcases ite_some h with ⟨b17, h⟩ | ⟨b17, h⟩
        · refine x_if_eq (tgt := 77) dX12_found_70 rfl b17 (?_ : Ex _ _ 77 _ _ _ _ _)
          refine x_iconst dX12_found_77 rfl (by decide) (?_ : Ex _ _ 78 _ _ _ _ _)
          obtain ⟨c18, h⟩ := chk_some h
          refine x_iadd dX12_found_78 c18 (?_ : Ex _ _ 79 _ _ _ _ _)
          refine x_istore (ls2 := [(22, l0), (0, l1), (0, l2), (0, l3), (0, (l4 + 0)), (0, l5)]) dX12_found_79 (Nat.le_of_ble_eq_true rfl) rfl (?_ : Ex _ _ 81 _ _ _ _ _)
          obtain ⟨c19, h⟩ := chk_some h
          refine x_iinc (ls2 := [(22, l0), (0, l1), (0, l2), (0, l3), (0, (l4 + 0)), (0, (l5 + 1))]) dX12_found_81 rfl c19 rfl (?_ : Ex _ _ 84 _ _ _ _ _)
          refine x_goto (tgt := 34) dX12_found_84 rfl (?_ : Ex _ _ 34 _ _ _ _ _)
          exact ih h
        · refine x_if_eqN dX12_found_70 (by decide) b17 (?_ : Ex _ _ 73 _ _ _ _ _)
          refine x_iconst dX12_found_73 rfl (by decide) (?_ : Ex _ _ 74 _ _ _ _ _)
          refine x_goto (tgt := 78) dX12_found_74 rfl (?_ : Ex _ _ 78 _ _ _ _ _)
          obtain ⟨c20, h⟩ := chk_some h
          refine x_iadd dX12_found_78 c20 (?_ : Ex _ _ 79 _ _ _ _ _)
          refine x_istore (ls2 := [(22, l0), (0, l1), (0, l2), (0, l3), (0, (l4 + 1)), (0, l5)]) dX12_found_79 (Nat.le_of_ble_eq_true rfl) rfl (?_ : Ex _ _ 81 _ _ _ _ _)
          obtain ⟨c21, h⟩ := chk_some h
          refine x_iinc (ls2 := [(22, l0), (0, l1), (0, l2), (0, l3), (0, (l4 + 1)), (0, (l5 + 1))]) dX12_found_81 rfl c21 rfl (?_ : Ex _ _ 84 _ _ _ _ _)
          refine x_goto (tgt := 34) dX12_found_84 rfl (?_ : Ex _ _ 34 _ _ _ _ _)
          exact ih h
theorem e_X12_found_20 (d : Nat) {l0 l1 l2 l3 s0 s1 : Int} {m : Mem} {v : Int} {m' : Mem} (h : X12_found_20 l0 l1 l2 l3 s0 s1 m = some (v, m')) : Ex (d + 2) fm_X12_found 20 [(22, l0), (0, l1), (0, l2), (0, l3), (3, 0), (3, 0)] [(0, s0), (22, s1)] m (.inl (0, v)) m' := by
  unfold X12_found_20 at h
  obtain ⟨c1, h⟩ := chk_some h
  obtain ⟨v2, m3, g4, h⟩ := cal_some h
  refine cV1 (e_X12_isFine (d + 1) g4) (contN (by decide) (?_ : Ex _ _ 23 _ _ _ _ _)) og_X12_isFine rfl ml_RX12_198 12 rfl rfl c1 im_X12_isFine se_X12_isFine (Nat.le_of_ble_eq_true rfl) dX12_found_20
  rcases ite_some h with ⟨b5, h⟩ | ⟨b5, h⟩
  · refine x_if_neN dX12_found_23 (by decide) (fun hh => hh b5) (?_ : Ex _ _ 26 _ _ _ _ _)
    refine x_iconst dX12_found_26 rfl (by decide) (?_ : Ex _ _ 27 _ _ _ _ _)
    cases h
    exact x_ret dX12_found_27 (by decide : (0 : Int) ≠ 3)
  · refine x_if_ne (tgt := 28) dX12_found_23 rfl b5 (?_ : Ex _ _ 28 _ _ _ _ _)
    refine x_iconst dX12_found_28 rfl (by decide) (?_ : Ex _ _ 29 _ _ _ _ _)
    refine x_istore (ls2 := [(22, l0), (0, l1), (0, l2), (0, l3), (0, 0), (3, 0)]) dX12_found_29 (Nat.le_of_ble_eq_true rfl) rfl (?_ : Ex _ _ 31 _ _ _ _ _)
    refine x_iconst dX12_found_31 rfl (by decide) (?_ : Ex _ _ 32 _ _ _ _ _)
    refine x_istore (ls2 := [(22, l0), (0, l1), (0, l2), (0, l3), (0, 0), (0, 0)]) dX12_found_32 (Nat.le_of_ble_eq_true rfl) rfl (?_ : Ex _ _ 34 _ _ _ _ _)
    exact e_X12_found_34 d fuel9 h
theorem e_X12_found_0 (d : Nat) {l0 l1 l2 l3 : Int} {m : Mem} {v : Int} {m' : Mem} (h : X12_found_0 l0 l1 l2 l3 m = some (v, m')) : Ex (d + 2) fm_X12_found 0 [(22, l0), (0, l1), (0, l2), (0, l3), (3, 0), (3, 0)] [] m (.inl (0, v)) m' := by
  unfold X12_found_0 at h
  refine x_aload_n dX12_found_0 rfl rfl (Or.inr (by decide)) (?_ : Ex _ _ 1 _ _ _ _ _)
  refine x_iload_n dX12_found_1 rfl rfl (?_ : Ex _ _ 2 _ _ _ _ _)
  refine x_iconst dX12_found_2 rfl (by decide) (?_ : Ex _ _ 3 _ _ _ _ _)
  refine x_iconst dX12_found_3 rfl (by decide) (?_ : Ex _ _ 4 _ _ _ _ _)
  obtain ⟨v1, m2, g3, h⟩ := cal_some h
  refine cS3 (e_X12_isIn (d + 1) g3) (contN (by decide) (?_ : Ex _ _ 7 _ _ _ _ _)) og_X12_isIn rfl ml_RX12_177 sm_X12_isIn (Nat.le_of_ble_eq_true rfl) dX12_found_4
  rcases ite_some h with ⟨b4, h⟩ | ⟨b4, h⟩
  · refine x_if_eq (tgt := 15) dX12_found_7 rfl b4 (?_ : Ex _ _ 15 _ _ _ _ _)
    refine x_iconst dX12_found_15 rfl (by decide) (?_ : Ex _ _ 16 _ _ _ _ _)
    refine x_goto (tgt := 20) dX12_found_16 rfl (?_ : Ex _ _ 20 _ _ _ _ _)
    exact e_X12_found_20 d h
  · refine x_if_eqN dX12_found_7 (by decide) b4 (?_ : Ex _ _ 10 _ _ _ _ _)
    refine x_iload_n dX12_found_10 rfl rfl (?_ : Ex _ _ 11 _ _ _ _ _)
    refine x_iload_n dX12_found_11 rfl rfl (?_ : Ex _ _ 12 _ _ _ _ _)
    rcases ite_some h with ⟨b5, h⟩ | ⟨b5, h⟩
    · refine x_icmp_le (tgt := 19) dX12_found_12 rfl b5 (?_ : Ex _ _ 19 _ _ _ _ _)
      refine x_iconst dX12_found_19 rfl (by decide) (?_ : Ex _ _ 20 _ _ _ _ _)
      exact e_X12_found_20 d h
    · refine x_icmp_leN dX12_found_12 (by decide) b5 (?_ : Ex _ _ 15 _ _ _ _ _)
      refine x_iconst dX12_found_15 rfl (by decide) (?_ : Ex _ _ 16 _ _ _ _ _)
      refine x_goto (tgt := 20) dX12_found_16 rfl (?_ : Ex _ _ 20 _ _ _ _ _)
      exact e_X12_found_20 d h
theorem e_X12_found (d : Nat) {a0 a1 a2 a3 : Int} {m : Mem} {v : Int} {m' : Mem} (h : X12_found a0 a1 a2 a3 m = some (v, m')) : ExM (d + 2) fm_X12_found [(22, a0), (0, a1), (0, a2), (0, a3)] m (.inl (0, v)) m' := by
  exact ExM.of (by decide +kernel) (Nat.le_of_ble_eq_true rfl) (cat9 rfl) retI (e_X12_found_0 d h)
theorem dX12_isDue_0 : decode cX12_isDue 0 = .ok (.aload_n 0, 1) := by decide +kernel
theorem dX12_isDue_1 : decode cX12_isDue 1 = .ok (.aload_n 0, 1) := by decide +kernel
theorem dX12_isDue_2 : decode cX12_isDue 2 = .ok (.iload_n 1, 1) := by decide +kernel
theorem dX12_isDue_3 : decode cX12_isDue 3 = .ok (.invokevirtual 224, 3) := by decide +kernel
theorem dX12_isDue_6 : decode cX12_isDue 6 = .ok (.ifCond .eq 7, 3) := by decide +kernel
theorem dX12_isDue_9 : decode cX12_isDue 9 = .ok (.iconst 0, 1) := by decide +kernel
theorem dX12_isDue_10 : decode cX12_isDue 10 = .ok (.goto 4, 3) := by decide +kernel
theorem dX12_isDue_13 : decode cX12_isDue 13 = .ok (.iconst 1, 1) := by decide +kernel
theorem dX12_isDue_14 : decode cX12_isDue 14 = .ok (.invokevirtual 198, 3) := by decide +kernel
theorem dX12_isDue_17 : decode cX12_isDue 17 = .ok (.ifCond .eq 15, 3) := by decide +kernel
theorem dX12_isDue_20 : decode cX12_isDue 20 = .ok (.aload_n 0, 1) := by decide +kernel
theorem dX12_isDue_21 : decode cX12_isDue 21 = .ok (.iload_n 1, 1) := by decide +kernel
theorem dX12_isDue_22 : decode cX12_isDue 22 = .ok (.invokevirtual 425, 3) := by decide +kernel
theorem dX12_isDue_25 : decode cX12_isDue 25 = .ok (.ifCond .eq 7, 3) := by decide +kernel
theorem dX12_isDue_28 : decode cX12_isDue 28 = .ok (.iconst 1, 1) := by decide +kernel
theorem dX12_isDue_29 : decode cX12_isDue 29 = .ok (.goto 4, 3) := by decide +kernel
theorem dX12_isDue_32 : decode cX12_isDue 32 = .ok (.iconst 0, 1) := by decide +kernel
theorem dX12_isDue_33 : decode cX12_isDue 33 = .ok (.ireturn, 1) := by decide +kernel
theorem e_X12_isDue_14 (d : Nat) {l0 l1 s0 s1 : Int} {m : Mem} {v : Int} {m' : Mem} (h : X12_isDue_14 l0 l1 s0 s1 m = some (v, m')) : Ex (d + 3) fm_X12_isDue 14 [(22, l0), (0, l1)] [(0, s0), (22, s1)] m (.inl (0, v)) m' := by
  unfold X12_isDue_14 at h
  obtain ⟨c1, h⟩ := chk_some h
  obtain ⟨v2, m3, g4, h⟩ := cal_some h
  refine cV1 (e_X12_isFine (d + 2) g4) (contN (by decide) (?_ : Ex _ _ 17 _ _ _ _ _)) og_X12_isFine rfl ml_RX12_198 12 rfl rfl c1 im_X12_isFine se_X12_isFine (Nat.le_of_ble_eq_true rfl) dX12_isDue_14
  rcases ite_some h with ⟨b5, h⟩ | ⟨b5, h⟩
  · refine x_if_eq (tgt := 32) dX12_isDue_17 rfl b5 (?_ : Ex _ _ 32 _ _ _ _ _)
    refine x_iconst dX12_isDue_32 rfl (by decide) (?_ : Ex _ _ 33 _ _ _ _ _)
    cases h
    exact x_ret dX12_isDue_33 (by decide : (0 : Int) ≠ 3)
  · refine x_if_eqN dX12_isDue_17 (by decide) b5 (?_ : Ex _ _ 20 _ _ _ _ _)
    refine x_aload_n dX12_isDue_20 rfl rfl (Or.inr (by decide)) (?_ : Ex _ _ 21 _ _ _ _ _)
    refine x_iload_n dX12_isDue_21 rfl rfl (?_ : Ex _ _ 22 _ _ _ _ _)
    obtain ⟨c6, h⟩ := chk_some h
    obtain ⟨v7, m8, g9, h⟩ := cal_some h
    refine cV1 (e_X12_isDueNow d g9) (contN (by decide) (?_ : Ex _ _ 25 _ _ _ _ _)) og_X12_isDueNow rfl ml_RX12_425 12 rfl rfl c6 im_X12_isDueNow se_X12_isDueNow (Nat.le_of_ble_eq_true rfl) dX12_isDue_22
    rcases ite_some h with ⟨b10, h⟩ | ⟨b10, h⟩
    · refine x_if_eq (tgt := 32) dX12_isDue_25 rfl b10 (?_ : Ex _ _ 32 _ _ _ _ _)
      refine x_iconst dX12_isDue_32 rfl (by decide) (?_ : Ex _ _ 33 _ _ _ _ _)
      cases h
      exact x_ret dX12_isDue_33 (by decide : (0 : Int) ≠ 3)
    · refine x_if_eqN dX12_isDue_25 (by decide) b10 (?_ : Ex _ _ 28 _ _ _ _ _)
      refine x_iconst dX12_isDue_28 rfl (by decide) (?_ : Ex _ _ 29 _ _ _ _ _)
      refine x_goto (tgt := 33) dX12_isDue_29 rfl (?_ : Ex _ _ 33 _ _ _ _ _)
      cases h
      exact x_ret dX12_isDue_33 (by decide : (0 : Int) ≠ 3)
theorem e_X12_isDue_0 (d : Nat) {l0 l1 : Int} {m : Mem} {v : Int} {m' : Mem} (h : X12_isDue_0 l0 l1 m = some (v, m')) : Ex (d + 3) fm_X12_isDue 0 [(22, l0), (0, l1)] [] m (.inl (0, v)) m' := by
  unfold X12_isDue_0 at h
  refine x_aload_n dX12_isDue_0 rfl rfl (Or.inr (by decide)) (?_ : Ex _ _ 1 _ _ _ _ _)
  refine x_aload_n dX12_isDue_1 rfl rfl (Or.inr (by decide)) (?_ : Ex _ _ 2 _ _ _ _ _)
  refine x_iload_n dX12_isDue_2 rfl rfl (?_ : Ex _ _ 3 _ _ _ _ _)
  obtain ⟨c1, h⟩ := chk_some h
  obtain ⟨v2, m3, g4, h⟩ := cal_some h
  refine cV1 (e_X12_isFlow (d + 1) g4) (contN (by decide) (?_ : Ex _ _ 6 _ _ _ _ _)) og_X12_isFlow rfl ml_RX12_224 12 rfl rfl c1 im_X12_isFlow se_X12_isFlow (Nat.le_of_ble_eq_true rfl) dX12_isDue_3
  rcases ite_some h with ⟨b5, h⟩ | ⟨b5, h⟩
  · refine x_if_eq (tgt := 13) dX12_isDue_6 rfl b5 (?_ : Ex _ _ 13 _ _ _ _ _)
    refine x_iconst dX12_isDue_13 rfl (by decide) (?_ : Ex _ _ 14 _ _ _ _ _)
    exact e_X12_isDue_14 d h
  · refine x_if_eqN dX12_isDue_6 (by decide) b5 (?_ : Ex _ _ 9 _ _ _ _ _)
    refine x_iconst dX12_isDue_9 rfl (by decide) (?_ : Ex _ _ 10 _ _ _ _ _)
    refine x_goto (tgt := 14) dX12_isDue_10 rfl (?_ : Ex _ _ 14 _ _ _ _ _)
    exact e_X12_isDue_14 d h
theorem e_X12_isDue (d : Nat) {a0 a1 : Int} {m : Mem} {v : Int} {m' : Mem} (h : X12_isDue a0 a1 m = some (v, m')) : ExM (d + 3) fm_X12_isDue [(22, a0), (0, a1)] m (.inl (0, v)) m' := by
  obtain ⟨hb, h⟩ := boolR_some h
  exact ExM.of (by decide +kernel) (Nat.le_of_ble_eq_true rfl) (cat9 rfl) (retZ hb) (e_X12_isDue_0 d h)
theorem dX12_register_0 : decode cX12_register 0 = .ok (.aload_n 0, 1) := by decide +kernel
theorem dX12_register_1 : decode cX12_register 1 = .ok (.aload_n 0, 1) := by decide +kernel
theorem dX12_register_2 : decode cX12_register 2 = .ok (.iload_n 1, 1) := by decide +kernel
theorem dX12_register_3 : decode cX12_register 3 = .ok (.invokevirtual 224, 3) := by decide +kernel
theorem dX12_register_6 : decode cX12_register 6 = .ok (.ifCond .eq 7, 3) := by decide +kernel
theorem dX12_register_9 : decode cX12_register 9 = .ok (.iconst 0, 1) := by decide +kernel
theorem dX12_register_10 : decode cX12_register 10 = .ok (.goto 4, 3) := by decide +kernel
theorem dX12_register_13 : decode cX12_register 13 = .ok (.iconst 1, 1) := by decide +kernel
theorem dX12_register_14 : decode cX12_register 14 = .ok (.invokevirtual 198, 3) := by decide +kernel
theorem dX12_register_17 : decode cX12_register 17 = .ok (.ifCond .eq 12, 3) := by decide +kernel
theorem dX12_register_20 : decode cX12_register 20 = .ok (.aload_n 0, 1) := by decide +kernel
theorem dX12_register_21 : decode cX12_register 21 = .ok (.getfield 46, 3) := by decide +kernel
theorem dX12_register_24 : decode cX12_register 24 = .ok (.iload_n 1, 1) := by decide +kernel
theorem dX12_register_25 : decode cX12_register 25 = .ok (.iaload, 1) := by decide +kernel
theorem dX12_register_26 : decode cX12_register 26 = .ok (.goto 4, 3) := by decide +kernel
theorem dX12_register_29 : decode cX12_register 29 = .ok (.iconst 0, 1) := by decide +kernel
theorem dX12_register_30 : decode cX12_register 30 = .ok (.ireturn, 1) := by decide +kernel
theorem e_X12_register_14 (d : Nat) {l0 l1 s0 s1 : Int} {m : Mem} {v : Int} {m' : Mem} (h : X12_register_14 l0 l1 s0 s1 m = some (v, m')) : Ex (d + 2) fm_X12_register 14 [(22, l0), (0, l1)] [(0, s0), (22, s1)] m (.inl (0, v)) m' := by
  unfold X12_register_14 at h
  obtain ⟨c1, h⟩ := chk_some h
  obtain ⟨v2, m3, g4, h⟩ := cal_some h
  refine cV1 (e_X12_isFine (d + 1) g4) (contN (by decide) (?_ : Ex _ _ 17 _ _ _ _ _)) og_X12_isFine rfl ml_RX12_198 12 rfl rfl c1 im_X12_isFine se_X12_isFine (Nat.le_of_ble_eq_true rfl) dX12_register_14
  rcases ite_some h with ⟨b5, h⟩ | ⟨b5, h⟩
  · refine x_if_eq (tgt := 29) dX12_register_17 rfl b5 (?_ : Ex _ _ 29 _ _ _ _ _)
    refine x_iconst dX12_register_29 rfl (by decide) (?_ : Ex _ _ 30 _ _ _ _ _)
    cases h
    exact x_ret dX12_register_30 (by decide : (0 : Int) ≠ 3)
  · refine x_if_eqN dX12_register_17 (by decide) b5 (?_ : Ex _ _ 20 _ _ _ _ _)
    refine x_aload_n dX12_register_20 rfl rfl (Or.inr (by decide)) (?_ : Ex _ _ 21 _ _ _ _ _)
    obtain ⟨c6, h⟩ := chk_some h
    refine gt_12_14 c6 fl_RX12_46 dX12_register_21 (?_ : Ex _ _ 24 _ _ _ _ _)
    refine x_iload_n dX12_register_24 rfl rfl (?_ : Ex _ _ 25 _ _ _ _ _)
    obtain ⟨⟨c7, c8, c9⟩, h⟩ := chk_some h
    refine ld_i_10 c7 c8 c9 dX12_register_25 (?_ : Ex _ _ 26 _ _ _ _ _)
    refine x_goto (tgt := 30) dX12_register_26 rfl (?_ : Ex _ _ 30 _ _ _ _ _)
    cases h
    exact x_ret dX12_register_30 (by decide : (0 : Int) ≠ 3)
theorem e_X12_register_0 (d : Nat) {l0 l1 : Int} {m : Mem} {v : Int} {m' : Mem} (h : X12_register_0 l0 l1 m = some (v, m')) : Ex (d + 2) fm_X12_register 0 [(22, l0), (0, l1)] [] m (.inl (0, v)) m' := by
  unfold X12_register_0 at h
  refine x_aload_n dX12_register_0 rfl rfl (Or.inr (by decide)) (?_ : Ex _ _ 1 _ _ _ _ _)
  refine x_aload_n dX12_register_1 rfl rfl (Or.inr (by decide)) (?_ : Ex _ _ 2 _ _ _ _ _)
  refine x_iload_n dX12_register_2 rfl rfl (?_ : Ex _ _ 3 _ _ _ _ _)
  obtain ⟨c1, h⟩ := chk_some h
  obtain ⟨v2, m3, g4, h⟩ := cal_some h
  refine cV1 (e_X12_isFlow d g4) (contN (by decide) (?_ : Ex _ _ 6 _ _ _ _ _)) og_X12_isFlow rfl ml_RX12_224 12 rfl rfl c1 im_X12_isFlow se_X12_isFlow (Nat.le_of_ble_eq_true rfl) dX12_register_3
  rcases ite_some h with ⟨b5, h⟩ | ⟨b5, h⟩
  · refine x_if_eq (tgt := 13) dX12_register_6 rfl b5 (?_ : Ex _ _ 13 _ _ _ _ _)
    refine x_iconst dX12_register_13 rfl (by decide) (?_ : Ex _ _ 14 _ _ _ _ _)
    exact e_X12_register_14 d h
  · refine x_if_eqN dX12_register_6 (by decide) b5 (?_ : Ex _ _ 9 _ _ _ _ _)
    refine x_iconst dX12_register_9 rfl (by decide) (?_ : Ex _ _ 10 _ _ _ _ _)
    refine x_goto (tgt := 14) dX12_register_10 rfl (?_ : Ex _ _ 14 _ _ _ _ _)
    exact e_X12_register_14 d h
theorem e_X12_register (d : Nat) {a0 a1 : Int} {m : Mem} {v : Int} {m' : Mem} (h : X12_register a0 a1 m = some (v, m')) : ExM (d + 2) fm_X12_register [(22, a0), (0, a1)] m (.inl (0, v)) m' := by
  exact ExM.of (by decide +kernel) (Nat.le_of_ble_eq_true rfl) (cat9 rfl) retI (e_X12_register_0 d h)
theorem dX12_place_0 : decode cX12_place 0 = .ok (.aload_n 0, 1) := by decide +kernel
theorem dX12_place_1 : decode cX12_place 1 = .ok (.aload_n 0, 1) := by decide +kernel
theorem dX12_place_2 : decode cX12_place 2 = .ok (.iload_n 1, 1) := by decide +kernel
theorem dX12_place_3 : decode cX12_place 3 = .ok (.invokevirtual 224, 3) := by decide +kernel
theorem dX12_place_6 : decode cX12_place 6 = .ok (.ifCond .eq 7, 3) := by decide +kernel
theorem dX12_place_9 : decode cX12_place 9 = .ok (.iconst 0, 1) := by decide +kernel
theorem dX12_place_10 : decode cX12_place 10 = .ok (.goto 4, 3) := by decide +kernel
theorem dX12_place_13 : decode cX12_place 13 = .ok (.iconst 1, 1) := by decide +kernel
theorem dX12_place_14 : decode cX12_place 14 = .ok (.invokevirtual 198, 3) := by decide +kernel
theorem dX12_place_17 : decode cX12_place 17 = .ok (.ifCond .eq 12, 3) := by decide +kernel
theorem dX12_place_20 : decode cX12_place 20 = .ok (.aload_n 0, 1) := by decide +kernel
theorem dX12_place_21 : decode cX12_place 21 = .ok (.getfield 49, 3) := by decide +kernel
theorem dX12_place_24 : decode cX12_place 24 = .ok (.iload_n 1, 1) := by decide +kernel
theorem dX12_place_25 : decode cX12_place 25 = .ok (.iaload, 1) := by decide +kernel
theorem dX12_place_26 : decode cX12_place 26 = .ok (.goto 4, 3) := by decide +kernel
theorem dX12_place_29 : decode cX12_place 29 = .ok (.iconst 0, 1) := by decide +kernel
theorem dX12_place_30 : decode cX12_place 30 = .ok (.ireturn, 1) := by decide +kernel
theorem e_X12_place_14 (d : Nat) {l0 l1 s0 s1 : Int} {m : Mem} {v : Int} {m' : Mem} (h : X12_place_14 l0 l1 s0 s1 m = some (v, m')) : Ex (d + 2) fm_X12_place 14 [(22, l0), (0, l1)] [(0, s0), (22, s1)] m (.inl (0, v)) m' := by
  unfold X12_place_14 at h
  obtain ⟨c1, h⟩ := chk_some h
  obtain ⟨v2, m3, g4, h⟩ := cal_some h
  refine cV1 (e_X12_isFine (d + 1) g4) (contN (by decide) (?_ : Ex _ _ 17 _ _ _ _ _)) og_X12_isFine rfl ml_RX12_198 12 rfl rfl c1 im_X12_isFine se_X12_isFine (Nat.le_of_ble_eq_true rfl) dX12_place_14
  rcases ite_some h with ⟨b5, h⟩ | ⟨b5, h⟩
  · refine x_if_eq (tgt := 29) dX12_place_17 rfl b5 (?_ : Ex _ _ 29 _ _ _ _ _)
    refine x_iconst dX12_place_29 rfl (by decide) (?_ : Ex _ _ 30 _ _ _ _ _)
    cases h
    exact x_ret dX12_place_30 (by decide : (0 : Int) ≠ 3)
  · refine x_if_eqN dX12_place_17 (by decide) b5 (?_ : Ex _ _ 20 _ _ _ _ _)
    refine x_aload_n dX12_place_20 rfl rfl (Or.inr (by decide)) (?_ : Ex _ _ 21 _ _ _ _ _)
    obtain ⟨c6, h⟩ := chk_some h
    refine gt_12_15 c6 fl_RX12_49 dX12_place_21 (?_ : Ex _ _ 24 _ _ _ _ _)
    refine x_iload_n dX12_place_24 rfl rfl (?_ : Ex _ _ 25 _ _ _ _ _)
    obtain ⟨⟨c7, c8, c9⟩, h⟩ := chk_some h
    refine ld_i_10 c7 c8 c9 dX12_place_25 (?_ : Ex _ _ 26 _ _ _ _ _)
    refine x_goto (tgt := 30) dX12_place_26 rfl (?_ : Ex _ _ 30 _ _ _ _ _)
    cases h
    exact x_ret dX12_place_30 (by decide : (0 : Int) ≠ 3)
theorem e_X12_place_0 (d : Nat) {l0 l1 : Int} {m : Mem} {v : Int} {m' : Mem} (h : X12_place_0 l0 l1 m = some (v, m')) : Ex (d + 2) fm_X12_place 0 [(22, l0), (0, l1)] [] m (.inl (0, v)) m' := by
  unfold X12_place_0 at h
  refine x_aload_n dX12_place_0 rfl rfl (Or.inr (by decide)) (?_ : Ex _ _ 1 _ _ _ _ _)
  refine x_aload_n dX12_place_1 rfl rfl (Or.inr (by decide)) (?_ : Ex _ _ 2 _ _ _ _ _)
  refine x_iload_n dX12_place_2 rfl rfl (?_ : Ex _ _ 3 _ _ _ _ _)
  obtain ⟨c1, h⟩ := chk_some h
  obtain ⟨v2, m3, g4, h⟩ := cal_some h
  refine cV1 (e_X12_isFlow d g4) (contN (by decide) (?_ : Ex _ _ 6 _ _ _ _ _)) og_X12_isFlow rfl ml_RX12_224 12 rfl rfl c1 im_X12_isFlow se_X12_isFlow (Nat.le_of_ble_eq_true rfl) dX12_place_3
  rcases ite_some h with ⟨b5, h⟩ | ⟨b5, h⟩
  · refine x_if_eq (tgt := 13) dX12_place_6 rfl b5 (?_ : Ex _ _ 13 _ _ _ _ _)
    refine x_iconst dX12_place_13 rfl (by decide) (?_ : Ex _ _ 14 _ _ _ _ _)
    exact e_X12_place_14 d h
  · refine x_if_eqN dX12_place_6 (by decide) b5 (?_ : Ex _ _ 9 _ _ _ _ _)
    refine x_iconst dX12_place_9 rfl (by decide) (?_ : Ex _ _ 10 _ _ _ _ _)
    refine x_goto (tgt := 14) dX12_place_10 rfl (?_ : Ex _ _ 14 _ _ _ _ _)
    exact e_X12_place_14 d h
theorem e_X12_place (d : Nat) {a0 a1 : Int} {m : Mem} {v : Int} {m' : Mem} (h : X12_place a0 a1 m = some (v, m')) : ExM (d + 2) fm_X12_place [(22, a0), (0, a1)] m (.inl (0, v)) m' := by
  exact ExM.of (by decide +kernel) (Nat.le_of_ble_eq_true rfl) (cat9 rfl) retI (e_X12_place_0 d h)
theorem dX12_registerAnew_0 : decode cX12_registerAnew 0 = .ok (.aload_n 0, 1) := by decide +kernel
theorem dX12_registerAnew_1 : decode cX12_registerAnew 1 = .ok (.iload_n 1, 1) := by decide +kernel
theorem dX12_registerAnew_2 : decode cX12_registerAnew 2 = .ok (.invokevirtual 224, 3) := by decide +kernel
theorem dX12_registerAnew_5 : decode cX12_registerAnew 5 = .ok (.ifCond .eq 26, 3) := by decide +kernel
theorem dX12_registerAnew_8 : decode cX12_registerAnew 8 = .ok (.iload_n 2, 1) := by decide +kernel
theorem dX12_registerAnew_9 : decode cX12_registerAnew 9 = .ok (.iconst 1, 1) := by decide +kernel
theorem dX12_registerAnew_10 : decode cX12_registerAnew 10 = .ok (.aload_n 0, 1) := by decide +kernel
theorem dX12_registerAnew_11 : decode cX12_registerAnew 11 = .ok (.getfield 22, 3) := by decide +kernel
theorem dX12_registerAnew_14 : decode cX12_registerAnew 14 = .ok (.aload_n 0, 1) := by decide +kernel
theorem dX12_registerAnew_15 : decode cX12_registerAnew 15 = .ok (.getfield 25, 3) := by decide +kernel
theorem dX12_registerAnew_18 : decode cX12_registerAnew 18 = .ok (.iload_n 1, 1) := by decide +kernel
theorem dX12_registerAnew_19 : decode cX12_registerAnew 19 = .ok (.iaload, 1) := by decide +kernel
theorem dX12_registerAnew_20 : decode cX12_registerAnew 20 = .ok (.iaload, 1) := by decide +kernel
theorem dX12_registerAnew_21 : decode cX12_registerAnew 21 = .ok (.invokestatic 177, 3) := by decide +kernel
theorem dX12_registerAnew_24 : decode cX12_registerAnew 24 = .ok (.ifCond .eq 7, 3) := by decide +kernel
theorem dX12_registerAnew_27 : decode cX12_registerAnew 27 = .ok (.iconst 1, 1) := by decide +kernel
theorem dX12_registerAnew_28 : decode cX12_registerAnew 28 = .ok (.goto 4, 3) := by decide +kernel
theorem dX12_registerAnew_31 : decode cX12_registerAnew 31 = .ok (.iconst 0, 1) := by decide +kernel
theorem dX12_registerAnew_32 : decode cX12_registerAnew 32 = .ok (.istore_n 3, 1) := by decide +kernel
theorem dX12_registerAnew_33 : decode cX12_registerAnew 33 = .ok (.aload_n 0, 1) := by decide +kernel
theorem dX12_registerAnew_34 : decode cX12_registerAnew 34 = .ok (.iload_n 3, 1) := by decide +kernel
theorem dX12_registerAnew_35 : decode cX12_registerAnew 35 = .ok (.ifCond .eq 7, 3) := by decide +kernel
theorem dX12_registerAnew_38 : decode cX12_registerAnew 38 = .ok (.iconst 0, 1) := by decide +kernel
theorem dX12_registerAnew_39 : decode cX12_registerAnew 39 = .ok (.goto 4, 3) := by decide +kernel
theorem dX12_registerAnew_42 : decode cX12_registerAnew 42 = .ok (.iconst 1, 1) := by decide +kernel
theorem dX12_registerAnew_43 : decode cX12_registerAnew 43 = .ok (.invokevirtual 198, 3) := by decide +kernel
theorem dX12_registerAnew_46 : decode cX12_registerAnew 46 = .ok (.ifCond .eq 11, 3) := by decide +kernel
theorem dX12_registerAnew_49 : decode cX12_registerAnew 49 = .ok (.aload_n 0, 1) := by decide +kernel
theorem dX12_registerAnew_50 : decode cX12_registerAnew 50 = .ok (.iload_n 1, 1) := by decide +kernel
theorem dX12_registerAnew_51 : decode cX12_registerAnew 51 = .ok (.invokevirtual 464, 3) := by decide +kernel
theorem dX12_registerAnew_54 : decode cX12_registerAnew 54 = .ok (.ifCond .ne 5, 3) := by decide +kernel
theorem dX12_registerAnew_57 : decode cX12_registerAnew 57 = .ok (.iconst 0, 1) := by decide +kernel
theorem dX12_registerAnew_58 : decode cX12_registerAnew 58 = .ok (.ireturn, 1) := by decide +kernel
theorem dX12_registerAnew_59 : decode cX12_registerAnew 59 = .ok (.aload_n 0, 1) := by decide +kernel
theorem dX12_registerAnew_60 : decode cX12_registerAnew 60 = .ok (.iload_n 1, 1) := by decide +kernel
theorem dX12_registerAnew_61 : decode cX12_registerAnew 61 = .ok (.iload_n 2, 1) := by decide +kernel
theorem dX12_registerAnew_62 : decode cX12_registerAnew 62 = .ok (.invokevirtual 428, 3) := by decide +kernel
theorem dX12_registerAnew_65 : decode cX12_registerAnew 65 = .ok (.iconst (-1), 1) := by decide +kernel
theorem dX12_registerAnew_66 : decode cX12_registerAnew 66 = .ok (.if_icmp .ne 9, 3) := by decide +kernel
theorem dX12_registerAnew_69 : decode cX12_registerAnew 69 = .ok (.sipush (-2000), 3) := by decide +kernel
theorem dX12_registerAnew_72 : decode cX12_registerAnew 72 = .ok (.goto 7, 3) := by decide +kernel
theorem dX12_registerAnew_75 : decode cX12_registerAnew 75 = .ok (.aload_n 0, 1) := by decide +kernel
theorem dX12_registerAnew_76 : decode cX12_registerAnew 76 = .ok (.getfield 240, 3) := by decide +kernel
theorem dX12_registerAnew_79 : decode cX12_registerAnew 79 = .ok (.ireturn, 1) := by decide +kernel
theorem e_X12_registerAnew_43 (d : Nat) {l0 l1 l2 s0 s1 : Int} {m : Mem} {v : Int} {m' : Mem} (h : X12_registerAnew_43 l0 l1 l2 s0 s1 m = some (v, m')) : Ex (d + 11) fm_X12_registerAnew 43 [(22, l0), (0, l1), (0, l2), (3, 0)] [(0, s0), (22, s1)] m (.inl (0, v)) m' := by
  unfold X12_registerAnew_43 at h
  obtain ⟨c1, h⟩ := chk_some h
  obtain ⟨v2, m3, g4, h⟩ := cal_some h
  refine cV1 (e_X12_isFine (d + 10) g4) (contN (by decide) (?_ : Ex _ _ 46 _ _ _ _ _)) og_X12_isFine rfl ml_RX12_198 12 rfl rfl c1 im_X12_isFine se_X12_isFine (Nat.le_of_ble_eq_true rfl) dX12_registerAnew_43
  rcases ite_some h with ⟨b5, h⟩ | ⟨b5, h⟩
  · refine x_if_eq (tgt := 57) dX12_registerAnew_46 rfl b5 (?_ : Ex _ _ 57 _ _ _ _ _)
    refine x_iconst dX12_registerAnew_57 rfl (by decide) (?_ : Ex _ _ 58 _ _ _ _ _)
    cases h
    exact x_ret dX12_registerAnew_58 (by decide : (0 : Int) ≠ 3)
  · refine x_if_eqN dX12_registerAnew_46 (by decide) b5 (?_ : Ex _ _ 49 _ _ _ _ _)
    refine x_aload_n dX12_registerAnew_49 rfl rfl (Or.inr (by decide)) (?_ : Ex _ _ 50 _ _ _ _ _)
    refine x_iload_n dX12_registerAnew_50 rfl rfl (?_ : Ex _ _ 51 _ _ _ _ _)
    obtain ⟨c6, h⟩ := chk_some h
    obtain ⟨v7, m8, g9, h⟩ := cal_some h
    refine cV1 (e_X12_isAny (d + 9) g9) (contN (by decide) (?_ : Ex _ _ 54 _ _ _ _ _)) og_X12_isAny rfl ml_RX12_464 12 rfl rfl c6 im_X12_isAny se_X12_isAny (Nat.le_of_ble_eq_true rfl) dX12_registerAnew_51
    rcases ite_some h with ⟨b10, h⟩ | ⟨b10, h⟩
    · refine x_if_neN dX12_registerAnew_54 (by decide) (fun hh => hh b10) (?_ : Ex _ _ 57 _ _ _ _ _)
      refine x_iconst dX12_registerAnew_57 rfl (by decide) (?_ : Ex _ _ 58 _ _ _ _ _)
      cases h
      exact x_ret dX12_registerAnew_58 (by decide : (0 : Int) ≠ 3)
    · refine x_if_ne (tgt := 59) dX12_registerAnew_54 rfl b10 (?_ : Ex _ _ 59 _ _ _ _ _)
      refine x_aload_n dX12_registerAnew_59 rfl rfl (Or.inr (by decide)) (?_ : Ex _ _ 60 _ _ _ _ _)
      refine x_iload_n dX12_registerAnew_60 rfl rfl (?_ : Ex _ _ 61 _ _ _ _ _)
      refine x_iload_n dX12_registerAnew_61 rfl rfl (?_ : Ex _ _ 62 _ _ _ _ _)
      obtain ⟨v11, m12, g13, h⟩ := cal_some h
      refine cV2 (e_X12_plays d g13) (contN (by decide) (?_ : Ex _ _ 65 _ _ _ _ _)) og_X12_plays rfl ml_RX12_428 12 rfl rfl c6 im_X12_plays se_X12_plays (Nat.le_of_ble_eq_true rfl) dX12_registerAnew_62
      refine x_iconst dX12_registerAnew_65 rfl (by decide) (?_ : Ex _ _ 66 _ _ _ _ _)
      rcases ite_some h with ⟨b14, h⟩ | ⟨b14, h⟩
      · refine x_icmp_neN dX12_registerAnew_66 (by decide) (fun hh => hh b14) (?_ : Ex _ _ 69 _ _ _ _ _)
        refine x_sipush dX12_registerAnew_69 ks_n2000 (by decide) (?_ : Ex _ _ 72 _ _ _ _ _)
        refine x_goto (tgt := 79) dX12_registerAnew_72 rfl (?_ : Ex _ _ 79 _ _ _ _ _)
        cases h
        exact x_ret dX12_registerAnew_79 (by decide : (0 : Int) ≠ 3)
      · refine x_icmp_ne (tgt := 75) dX12_registerAnew_66 rfl b14 (?_ : Ex _ _ 75 _ _ _ _ _)
        refine x_aload_n dX12_registerAnew_75 rfl rfl (Or.inr (by decide)) (?_ : Ex _ _ 76 _ _ _ _ _)
        refine gt_12_41 c6 fl_RX12_240 dX12_registerAnew_76 (?_ : Ex _ _ 79 _ _ _ _ _)
        cases h
        exact x_ret dX12_registerAnew_79 (by decide : (0 : Int) ≠ 3)
theorem e_X12_registerAnew_32 (d : Nat) {l0 l1 l2 s0 : Int} {m : Mem} {v : Int} {m' : Mem} (h : X12_registerAnew_32 l0 l1 l2 s0 m = some (v, m')) : Ex (d + 11) fm_X12_registerAnew 32 [(22, l0), (0, l1), (0, l2), (3, 0)] [(0, s0)] m (.inl (0, v)) m' := by
  unfold X12_registerAnew_32 at h
  refine x_istore_n (ls2 := [(22, l0), (0, l1), (0, l2), (0, s0)]) dX12_registerAnew_32 rfl (Nat.le_of_ble_eq_true rfl) rfl (?_ : Ex _ _ 33 _ _ _ _ _)
  refine x_aload_n dX12_registerAnew_33 rfl rfl (Or.inr (by decide)) (?_ : Ex _ _ 34 _ _ _ _ _)
  refine x_iload_n dX12_registerAnew_34 rfl rfl (?_ : Ex _ _ 35 _ _ _ _ _)
  rcases ite_some h with ⟨b1, h⟩ | ⟨b1, h⟩
  · refine x_if_eq (tgt := 42) dX12_registerAnew_35 rfl b1 (?_ : Ex _ _ 42 _ _ _ _ _)
    refine x_iconst dX12_registerAnew_42 rfl (by decide) (?_ : Ex _ _ 43 _ _ _ _ _)
    refine Ex.wk (ls2 := [(22, l0), (0, l1), (0, l2), (3, 0)]) ⟨Or.inr rfl, Or.inr rfl, Or.inr rfl, Or.inl rfl, trivial⟩ ?_
    exact e_X12_registerAnew_43 d h
  · refine x_if_eqN dX12_registerAnew_35 (by decide) b1 (?_ : Ex _ _ 38 _ _ _ _ _)
    refine x_iconst dX12_registerAnew_38 rfl (by decide) (?_ : Ex _ _ 39 _ _ _ _ _)
    refine x_goto (tgt := 43) dX12_registerAnew_39 rfl (?_ : Ex _ _ 43 _ _ _ _ _)
    refine Ex.wk (ls2 := [(22, l0), (0, l1), (0, l2), (3, 0)]) ⟨Or.inr rfl, Or.inr rfl, Or.inr rfl, Or.inl rfl, trivial⟩ ?_
    exact e_X12_registerAnew_43 d h
theorem e_X12_registerAnew_0 (d : Nat) {l0 l1 l2 : Int} {m : Mem} {v : Int} {m' : Mem} (h : X12_registerAnew_0 l0 l1 l2 m = some (v, m')) : Ex (d + 11) fm_X12_registerAnew 0 [(22, l0), (0, l1), (0, l2), (3, 0)] [] m (.inl (0, v)) m' := by
  unfold X12_registerAnew_0 at h
  refine x_aload_n dX12_registerAnew_0 rfl rfl (Or.inr (by decide)) (?_ : Ex _ _ 1 _ _ _ _ _)
  refine x_iload_n dX12_registerAnew_1 rfl rfl (?_ : Ex _ _ 2 _ _ _ _ _)
  obtain ⟨c1, h⟩ := chk_some h
  obtain ⟨v2, m3, g4, h⟩ := cal_some h
  refine cV1 (e_X12_isFlow (d + 9) g4) (contN (by decide) (?_ : Ex _ _ 5 _ _ _ _ _)) og_X12_isFlow rfl ml_RX12_224 12 rfl rfl c1 im_X12_isFlow se_X12_isFlow (Nat.le_of_ble_eq_true rfl) dX12_registerAnew_2
  rcases ite_some h with ⟨b5, h⟩ | ⟨b5, h⟩
  · refine x_if_eq (tgt := 31) dX12_registerAnew_5 rfl b5 (?_ : Ex _ _ 31 _ _ _ _ _)
    refine x_iconst dX12_registerAnew_31 rfl (by decide) (?_ : Ex _ _ 32 _ _ _ _ _)
    exact e_X12_registerAnew_32 d h
  · refine x_if_eqN dX12_registerAnew_5 (by decide) b5 (?_ : Ex _ _ 8 _ _ _ _ _)
    refine x_iload_n dX12_registerAnew_8 rfl rfl (?_ : Ex _ _ 9 _ _ _ _ _)
    refine x_iconst dX12_registerAnew_9 rfl (by decide) (?_ : Ex _ _ 10 _ _ _ _ _)
    refine x_aload_n dX12_registerAnew_10 rfl rfl (Or.inr (by decide)) (?_ : Ex _ _ 11 _ _ _ _ _)
    refine gt_12_6 c1 fl_RX12_22 dX12_registerAnew_11 (?_ : Ex _ _ 14 _ _ _ _ _)
    refine x_aload_n dX12_registerAnew_14 rfl rfl (Or.inr (by decide)) (?_ : Ex _ _ 15 _ _ _ _ _)
    refine gt_12_7 c1 fl_RX12_25 dX12_registerAnew_15 (?_ : Ex _ _ 18 _ _ _ _ _)
    refine x_iload_n dX12_registerAnew_18 rfl rfl (?_ : Ex _ _ 19 _ _ _ _ _)
    obtain ⟨⟨c6, c7, c8⟩, h⟩ := chk_some h
    refine ld_i_10 c6 c7 c8 dX12_registerAnew_19 (?_ : Ex _ _ 20 _ _ _ _ _)
    obtain ⟨⟨c9, c10, c11⟩, h⟩ := chk_some h
    refine ld_i_3 c9 c10 c11 dX12_registerAnew_20 (?_ : Ex _ _ 21 _ _ _ _ _)
    obtain ⟨v12, m13, g14, h⟩ := cal_some h
    refine cS3 (e_X12_isIn (d + 10) g14) (contN (by decide) (?_ : Ex _ _ 24 _ _ _ _ _)) og_X12_isIn rfl ml_RX12_177 sm_X12_isIn (Nat.le_of_ble_eq_true rfl) dX12_registerAnew_21
    rcases ite_some h with ⟨b15, h⟩ | ⟨b15, h⟩
    · refine x_if_eq (tgt := 31) dX12_registerAnew_24 rfl b15 (?_ : Ex _ _ 31 _ _ _ _ _)
      refine x_iconst dX12_registerAnew_31 rfl (by decide) (?_ : Ex _ _ 32 _ _ _ _ _)
      exact e_X12_registerAnew_32 d h
    · refine x_if_eqN dX12_registerAnew_24 (by decide) b15 (?_ : Ex _ _ 27 _ _ _ _ _)
      refine x_iconst dX12_registerAnew_27 rfl (by decide) (?_ : Ex _ _ 28 _ _ _ _ _)
      refine x_goto (tgt := 32) dX12_registerAnew_28 rfl (?_ : Ex _ _ 32 _ _ _ _ _)
      exact e_X12_registerAnew_32 d h
theorem e_X12_registerAnew (d : Nat) {a0 a1 a2 : Int} {m : Mem} {v : Int} {m' : Mem} (h : X12_registerAnew a0 a1 a2 m = some (v, m')) : ExM (d + 11) fm_X12_registerAnew [(22, a0), (0, a1), (0, a2)] m (.inl (0, v)) m' := by
  exact ExM.of (by decide +kernel) (Nat.le_of_ble_eq_true rfl) (cat9 rfl) retI (e_X12_registerAnew_0 d h)
theorem dL_step_0 : decode cL_step 0 = .ok (.aload 5, 2) := by decide +kernel
theorem dL_step_2 : decode cL_step 2 = .ok (.iconst 0, 1) := by decide +kernel
theorem dL_step_3 : decode cL_step 3 = .ok (.aload_n 0, 1) := by decide +kernel
theorem dL_step_4 : decode cL_step 4 = .ok (.iload_n 1, 1) := by decide +kernel
theorem dL_step_5 : decode cL_step 5 = .ok (.iload_n 2, 1) := by decide +kernel
theorem dL_step_6 : decode cL_step 6 = .ok (.iload_n 3, 1) := by decide +kernel
theorem dL_step_7 : decode cL_step 7 = .ok (.iload 4, 2) := by decide +kernel
theorem dL_step_9 : decode cL_step 9 = .ok (.invokevirtual 7, 3) := by decide +kernel
theorem dL_step_12 : decode cL_step 12 = .ok (.i2l, 1) := by decide +kernel
theorem dL_step_13 : decode cL_step 13 = .ok (.lastore, 1) := by decide +kernel
theorem dL_step_14 : decode cL_step 14 = .ok (.goto 15, 3) := by decide +kernel
theorem dL_step_17 : decode cL_step 17 = .ok (.astore 6, 2) := by decide +kernel
theorem dL_step_19 : decode cL_step 19 = .ok (.iconst 1, 1) := by decide +kernel
theorem dL_step_20 : decode cL_step 20 = .ok (.ireturn, 1) := by decide +kernel
theorem dL_step_21 : decode cL_step 21 = .ok (.astore 6, 2) := by decide +kernel
theorem dL_step_23 : decode cL_step 23 = .ok (.iconst 2, 1) := by decide +kernel
theorem dL_step_24 : decode cL_step 24 = .ok (.ireturn, 1) := by decide +kernel
theorem dL_step_25 : decode cL_step 25 = .ok (.astore 6, 2) := by decide +kernel
theorem dL_step_27 : decode cL_step 27 = .ok (.iconst 3, 1) := by decide +kernel
theorem dL_step_28 : decode cL_step 28 = .ok (.ireturn, 1) := by decide +kernel
theorem dL_step_29 : decode cL_step 29 = .ok (.iconst 0, 1) := by decide +kernel
theorem dL_step_30 : decode cL_step 30 = .ok (.ireturn, 1) := by decide +kernel
theorem e_L_step_0 (d : Nat) {l0 l1 l2 l3 l4 l5 : Int} {m : Mem} {v : Int} {m' : Mem} (h : L_step_0 l0 l1 l2 l3 l4 l5 m = some (v, m')) : Ex (d + 3) fm_L_step 0 [(21, l0), (0, l1), (0, l2), (0, l3), (0, l4), (300001, l5), (3, 0)] [] m (.inl (0, v)) m' := by
  unfold L_step_0 at h
  refine x_aload dL_step_0 rfl (Or.inr (by decide)) (?_ : Ex _ _ 2 _ _ _ _ _)
  refine x_iconst dL_step_2 rfl (by decide) (?_ : Ex _ _ 3 _ _ _ _ _)
  refine x_aload_n dL_step_3 rfl rfl (Or.inr (by decide)) (?_ : Ex _ _ 4 _ _ _ _ _)
  refine x_iload_n dL_step_4 rfl rfl (?_ : Ex _ _ 5 _ _ _ _ _)
  refine x_iload_n dL_step_5 rfl rfl (?_ : Ex _ _ 6 _ _ _ _ _)
  refine x_iload_n dL_step_6 rfl rfl (?_ : Ex _ _ 7 _ _ _ _ _)
  refine x_iload dL_step_7 rfl (?_ : Ex _ _ 9 _ _ _ _ _)
  obtain ⟨c1, h⟩ := chk_some h
  rcases calT_some h with ⟨v2, m3, g4, h⟩ | ⟨e8, v2, m3, x7, g4, h⟩
  · refine cV4 (e_X11_step d g4) (cont0 (by decide) (?_ : Ex _ _ 12 _ _ _ _ _)) og_X11_step rfl ml_RL_7 11 rfl rfl c1 im_X11_step se_X11_step (Nat.le_of_ble_eq_true rfl) dL_step_9
    refine x_i2l dL_step_12 (?_ : Ex _ _ 13 _ _ _ _ _)
    obtain ⟨c5, h⟩ := chk_some h
    obtain ⟨m6, hm6, h⟩ := st_some h
    refine sd_l_1 c5 (by decide) (by decide) dL_step_13 (?_ : Ex _ _ 14 _ _ _ _ _)
    rw [← hm6]
    refine x_goto (tgt := 29) dL_step_14 rfl (?_ : Ex _ _ 29 _ _ _ _ _)
    refine x_iconst dL_step_29 rfl (by decide) (?_ : Ex _ _ 30 _ _ _ _ _)
    cases h
    exact x_ret dL_step_30 (by decide : (0 : Int) ≠ 3)
  · rcases ite_some h with ⟨b9, h⟩ | ⟨b9, h⟩
    · refine cV4 (e_X11_step d g4) (contH [] [(0, 14, 21, 15), (0, 14, 25, 17)] (0, 14, 17, 13) x7 (by subst b9; rfl) rfl (by decide) (by decide) cl_RL_13 ca_xIO (fun z hz => nomatch hz) (h_astore (ls2 := [(21, l0), (0, l1), (0, l2), (0, l3), (0, l4), (300001, l5), (3, 0)]) dL_step_17 (Nat.le_of_ble_eq_true rfl) rfl (?_ : Ex _ _ 19 _ _ _ _ _))) og_X11_step rfl ml_RL_7 11 rfl rfl c1 im_X11_step se_X11_step (Nat.le_of_ble_eq_true rfl) dL_step_9
      refine x_iconst dL_step_19 rfl (by decide) (?_ : Ex _ _ 20 _ _ _ _ _)
      cases h
      exact x_ret dL_step_20 (by decide : (0 : Int) ≠ 3)
    rcases ite_some h with ⟨b10, h⟩ | ⟨b10, h⟩
    · refine cV4 (e_X11_step d g4) (contH [(0, 14, 17, 13)] [(0, 14, 25, 17)] (0, 14, 21, 15) x7 (by subst b10; rfl) rfl (by decide) (by decide) cl_RL_15 ca_xIA (cH1 ⟨by decide, _, cl_RL_13, by decide⟩) (h_astore (ls2 := [(21, l0), (0, l1), (0, l2), (0, l3), (0, l4), (300001, l5), (3, 0)]) dL_step_21 (Nat.le_of_ble_eq_true rfl) rfl (?_ : Ex _ _ 23 _ _ _ _ _))) og_X11_step rfl ml_RL_7 11 rfl rfl c1 im_X11_step se_X11_step (Nat.le_of_ble_eq_true rfl) dL_step_9
      refine x_iconst dL_step_23 rfl (by decide) (?_ : Ex _ _ 24 _ _ _ _ _)
      cases h
      exact x_ret dL_step_24 (by decide : (0 : Int) ≠ 3)
    rcases ite_some h with ⟨b11, h⟩ | ⟨b11, h⟩
    · refine cV4 (e_X11_step d g4) (contH [(0, 14, 17, 13), (0, 14, 21, 15)] [] (0, 14, 25, 17) x7 (by subst b11; rfl) rfl (by decide) (by decide) cl_RL_17 ca_xIS (cH2 ⟨by decide, _, cl_RL_13, by decide⟩ ⟨by decide, _, cl_RL_15, by decide⟩) (h_astore (ls2 := [(21, l0), (0, l1), (0, l2), (0, l3), (0, l4), (300001, l5), (3, 0)]) dL_step_25 (Nat.le_of_ble_eq_true rfl) rfl (?_ : Ex _ _ 27 _ _ _ _ _))) og_X11_step rfl ml_RL_7 11 rfl rfl c1 im_X11_step se_X11_step (Nat.le_of_ble_eq_true rfl) dL_step_9
      refine x_iconst dL_step_27 rfl (by decide) (?_ : Ex _ _ 28 _ _ _ _ _)
      cases h
      exact x_ret dL_step_28 (by decide : (0 : Int) ≠ 3)
    cases h
theorem e_L_step (d : Nat) {a0 a1 a2 a3 a4 a5 : Int} {m : Mem} {v : Int} {m' : Mem} (h : L_step a0 a1 a2 a3 a4 a5 m = some (v, m')) : ExM (d + 3) fm_L_step [(21, a0), (0, a1), (0, a2), (0, a3), (0, a4), (300001, a5)] m (.inl (0, v)) m' := by
  exact ExM.of (by decide +kernel) (Nat.le_of_ble_eq_true rfl) (cat9 rfl) retI (e_L_step_0 d h)
theorem dL_forget_0 : decode cL_forget 0 = .ok (.aload_n 2, 1) := by decide +kernel
theorem dL_forget_1 : decode cL_forget 1 = .ok (.iconst 0, 1) := by decide +kernel
theorem dL_forget_2 : decode cL_forget 2 = .ok (.aload_n 0, 1) := by decide +kernel
theorem dL_forget_3 : decode cL_forget 3 = .ok (.iload_n 1, 1) := by decide +kernel
theorem dL_forget_4 : decode cL_forget 4 = .ok (.invokevirtual 19, 3) := by decide +kernel
theorem dL_forget_7 : decode cL_forget 7 = .ok (.i2l, 1) := by decide +kernel
theorem dL_forget_8 : decode cL_forget 8 = .ok (.lastore, 1) := by decide +kernel
theorem dL_forget_9 : decode cL_forget 9 = .ok (.goto 6, 3) := by decide +kernel
theorem dL_forget_12 : decode cL_forget 12 = .ok (.astore_n 3, 1) := by decide +kernel
theorem dL_forget_13 : decode cL_forget 13 = .ok (.iconst 1, 1) := by decide +kernel
theorem dL_forget_14 : decode cL_forget 14 = .ok (.ireturn, 1) := by decide +kernel
theorem dL_forget_15 : decode cL_forget 15 = .ok (.iconst 0, 1) := by decide +kernel
theorem dL_forget_16 : decode cL_forget 16 = .ok (.ireturn, 1) := by decide +kernel
theorem e_L_forget_0 (d : Nat) {l0 l1 l2 : Int} {m : Mem} {v : Int} {m' : Mem} (h : L_forget_0 l0 l1 l2 m = some (v, m')) : Ex (d + 3) fm_L_forget 0 [(21, l0), (0, l1), (300001, l2), (3, 0)] [] m (.inl (0, v)) m' := by
  unfold L_forget_0 at h
  refine x_aload_n dL_forget_0 rfl rfl (Or.inr (by decide)) (?_ : Ex _ _ 1 _ _ _ _ _)
  refine x_iconst dL_forget_1 rfl (by decide) (?_ : Ex _ _ 2 _ _ _ _ _)
  refine x_aload_n dL_forget_2 rfl rfl (Or.inr (by decide)) (?_ : Ex _ _ 3 _ _ _ _ _)
  refine x_iload_n dL_forget_3 rfl rfl (?_ : Ex _ _ 4 _ _ _ _ _)
  obtain ⟨c1, h⟩ := chk_some h
  rcases calT_some h with ⟨v2, m3, g4, h⟩ | ⟨e8, v2, m3, x7, g4, h⟩
  · refine cV1 (e_X11_forget d g4) (cont0 (by decide) (?_ : Ex _ _ 7 _ _ _ _ _)) og_X11_forget rfl ml_RL_19 11 rfl rfl c1 im_X11_forget se_X11_forget (Nat.le_of_ble_eq_true rfl) dL_forget_4
    refine x_i2l dL_forget_7 (?_ : Ex _ _ 8 _ _ _ _ _)
    obtain ⟨c5, h⟩ := chk_some h
    obtain ⟨m6, hm6, h⟩ := st_some h
    refine sd_l_1 c5 (by decide) (by decide) dL_forget_8 (?_ : Ex _ _ 9 _ _ _ _ _)
    rw [← hm6]
    refine x_goto (tgt := 15) dL_forget_9 rfl (?_ : Ex _ _ 15 _ _ _ _ _)
    refine x_iconst dL_forget_15 rfl (by decide) (?_ : Ex _ _ 16 _ _ _ _ _)
    cases h
    exact x_ret dL_forget_16 (by decide : (0 : Int) ≠ 3)
  · rcases ite_some h with ⟨b9, h⟩ | ⟨b9, h⟩
    · refine cV1 (e_X11_forget d g4) (contH [] [] (0, 9, 12, 13) x7 (by subst b9; rfl) rfl (by decide) (by decide) cl_RL_13 ca_xIO (fun z hz => nomatch hz) (h_astore_n (ls2 := [(21, l0), (0, l1), (300001, l2), (3, 0)]) dL_forget_12 rfl (Nat.le_of_ble_eq_true rfl) rfl (?_ : Ex _ _ 13 _ _ _ _ _))) og_X11_forget rfl ml_RL_19 11 rfl rfl c1 im_X11_forget se_X11_forget (Nat.le_of_ble_eq_true rfl) dL_forget_4
      refine x_iconst dL_forget_13 rfl (by decide) (?_ : Ex _ _ 14 _ _ _ _ _)
      cases h
      exact x_ret dL_forget_14 (by decide : (0 : Int) ≠ 3)
    cases h
theorem e_L_forget (d : Nat) {a0 a1 a2 : Int} {m : Mem} {v : Int} {m' : Mem} (h : L_forget a0 a1 a2 m = some (v, m')) : ExM (d + 3) fm_L_forget [(21, a0), (0, a1), (300001, a2)] m (.inl (0, v)) m' := by
  exact ExM.of (by decide +kernel) (Nat.le_of_ble_eq_true rfl) (cat9 rfl) retI (e_L_forget_0 d h)
theorem dL_release_0 : decode cL_release 0 = .ok (.aload_n 2, 1) := by decide +kernel
theorem dL_release_1 : decode cL_release 1 = .ok (.iconst 0, 1) := by decide +kernel
theorem dL_release_2 : decode cL_release 2 = .ok (.aload_n 0, 1) := by decide +kernel
theorem dL_release_3 : decode cL_release 3 = .ok (.iload_n 1, 1) := by decide +kernel
theorem dL_release_4 : decode cL_release 4 = .ok (.invokevirtual 23, 3) := by decide +kernel
theorem dL_release_7 : decode cL_release 7 = .ok (.i2l, 1) := by decide +kernel
theorem dL_release_8 : decode cL_release 8 = .ok (.lastore, 1) := by decide +kernel
theorem dL_release_9 : decode cL_release 9 = .ok (.goto 9, 3) := by decide +kernel
theorem dL_release_12 : decode cL_release 12 = .ok (.astore_n 3, 1) := by decide +kernel
theorem dL_release_13 : decode cL_release 13 = .ok (.iconst 1, 1) := by decide +kernel
theorem dL_release_14 : decode cL_release 14 = .ok (.ireturn, 1) := by decide +kernel
theorem dL_release_15 : decode cL_release 15 = .ok (.astore_n 3, 1) := by decide +kernel
theorem dL_release_16 : decode cL_release 16 = .ok (.iconst 2, 1) := by decide +kernel
theorem dL_release_17 : decode cL_release 17 = .ok (.ireturn, 1) := by decide +kernel
theorem dL_release_18 : decode cL_release 18 = .ok (.iconst 0, 1) := by decide +kernel
theorem dL_release_19 : decode cL_release 19 = .ok (.ireturn, 1) := by decide +kernel
theorem e_L_release_0 (d : Nat) {l0 l1 l2 : Int} {m : Mem} {v : Int} {m' : Mem} (h : L_release_0 l0 l1 l2 m = some (v, m')) : Ex (d + 4) fm_L_release 0 [(21, l0), (0, l1), (300001, l2), (3, 0)] [] m (.inl (0, v)) m' := by
  unfold L_release_0 at h
  refine x_aload_n dL_release_0 rfl rfl (Or.inr (by decide)) (?_ : Ex _ _ 1 _ _ _ _ _)
  refine x_iconst dL_release_1 rfl (by decide) (?_ : Ex _ _ 2 _ _ _ _ _)
  refine x_aload_n dL_release_2 rfl rfl (Or.inr (by decide)) (?_ : Ex _ _ 3 _ _ _ _ _)
  refine x_iload_n dL_release_3 rfl rfl (?_ : Ex _ _ 4 _ _ _ _ _)
  obtain ⟨c1, h⟩ := chk_some h
  rcases calT_some h with ⟨v2, m3, g4, h⟩ | ⟨e8, v2, m3, x7, g4, h⟩
  · refine cV1 (e_X11_release d g4) (cont0 (by decide) (?_ : Ex _ _ 7 _ _ _ _ _)) og_X11_release rfl ml_RL_23 11 rfl rfl c1 im_X11_release se_X11_release (Nat.le_of_ble_eq_true rfl) dL_release_4
    refine x_i2l dL_release_7 (?_ : Ex _ _ 8 _ _ _ _ _)
    obtain ⟨c5, h⟩ := chk_some h
    obtain ⟨m6, hm6, h⟩ := st_some h
    refine sd_l_1 c5 (by decide) (by decide) dL_release_8 (?_ : Ex _ _ 9 _ _ _ _ _)
    rw [← hm6]
    refine x_goto (tgt := 18) dL_release_9 rfl (?_ : Ex _ _ 18 _ _ _ _ _)
    refine x_iconst dL_release_18 rfl (by decide) (?_ : Ex _ _ 19 _ _ _ _ _)
    cases h
    exact x_ret dL_release_19 (by decide : (0 : Int) ≠ 3)
  · rcases ite_some h with ⟨b9, h⟩ | ⟨b9, h⟩
    · refine cV1 (e_X11_release d g4) (contH [] [(0, 9, 15, 17)] (0, 9, 12, 13) x7 (by subst b9; rfl) rfl (by decide) (by decide) cl_RL_13 ca_xIO (fun z hz => nomatch hz) (h_astore_n (ls2 := [(21, l0), (0, l1), (300001, l2), (3, 0)]) dL_release_12 rfl (Nat.le_of_ble_eq_true rfl) rfl (?_ : Ex _ _ 13 _ _ _ _ _))) og_X11_release rfl ml_RL_23 11 rfl rfl c1 im_X11_release se_X11_release (Nat.le_of_ble_eq_true rfl) dL_release_4
      refine x_iconst dL_release_13 rfl (by decide) (?_ : Ex _ _ 14 _ _ _ _ _)
      cases h
      exact x_ret dL_release_14 (by decide : (0 : Int) ≠ 3)
    rcases ite_some h with ⟨b10, h⟩ | ⟨b10, h⟩
    · refine cV1 (e_X11_release d g4) (contH [(0, 9, 12, 13)] [] (0, 9, 15, 17) x7 (by subst b10; rfl) rfl (by decide) (by decide) cl_RL_17 ca_xIS (cH1 ⟨by decide, _, cl_RL_13, by decide⟩) (h_astore_n (ls2 := [(21, l0), (0, l1), (300001, l2), (3, 0)]) dL_release_15 rfl (Nat.le_of_ble_eq_true rfl) rfl (?_ : Ex _ _ 16 _ _ _ _ _))) og_X11_release rfl ml_RL_23 11 rfl rfl c1 im_X11_release se_X11_release (Nat.le_of_ble_eq_true rfl) dL_release_4
      refine x_iconst dL_release_16 rfl (by decide) (?_ : Ex _ _ 17 _ _ _ _ _)
      cases h
      exact x_ret dL_release_17 (by decide : (0 : Int) ≠ 3)
    cases h
theorem e_L_release (d : Nat) {a0 a1 a2 : Int} {m : Mem} {v : Int} {m' : Mem} (h : L_release a0 a1 a2 m = some (v, m')) : ExM (d + 4) fm_L_release [(21, a0), (0, a1), (300001, a2)] m (.inl (0, v)) m' := by
  exact ExM.of (by decide +kernel) (Nat.le_of_ble_eq_true rfl) (cat9 rfl) retI (e_L_release_0 d h)
theorem dL_versions_0 : decode cL_versions 0 = .ok (.aload_n 2, 1) := by decide +kernel
theorem dL_versions_1 : decode cL_versions 1 = .ok (.iconst 0, 1) := by decide +kernel
theorem dL_versions_2 : decode cL_versions 2 = .ok (.aload_n 0, 1) := by decide +kernel
theorem dL_versions_3 : decode cL_versions 3 = .ok (.iload_n 1, 1) := by decide +kernel
theorem dL_versions_4 : decode cL_versions 4 = .ok (.invokevirtual 26, 3) := by decide +kernel
theorem dL_versions_7 : decode cL_versions 7 = .ok (.i2l, 1) := by decide +kernel
theorem dL_versions_8 : decode cL_versions 8 = .ok (.lastore, 1) := by decide +kernel
theorem dL_versions_9 : decode cL_versions 9 = .ok (.goto 6, 3) := by decide +kernel
theorem dL_versions_12 : decode cL_versions 12 = .ok (.astore_n 3, 1) := by decide +kernel
theorem dL_versions_13 : decode cL_versions 13 = .ok (.iconst 1, 1) := by decide +kernel
theorem dL_versions_14 : decode cL_versions 14 = .ok (.ireturn, 1) := by decide +kernel
theorem dL_versions_15 : decode cL_versions 15 = .ok (.iconst 0, 1) := by decide +kernel
theorem dL_versions_16 : decode cL_versions 16 = .ok (.ireturn, 1) := by decide +kernel
theorem e_L_versions_0 (d : Nat) {l0 l1 l2 : Int} {m : Mem} {v : Int} {m' : Mem} (h : L_versions_0 l0 l1 l2 m = some (v, m')) : Ex (d + 3) fm_L_versions 0 [(21, l0), (0, l1), (300001, l2), (3, 0)] [] m (.inl (0, v)) m' := by
  unfold L_versions_0 at h
  refine x_aload_n dL_versions_0 rfl rfl (Or.inr (by decide)) (?_ : Ex _ _ 1 _ _ _ _ _)
  refine x_iconst dL_versions_1 rfl (by decide) (?_ : Ex _ _ 2 _ _ _ _ _)
  refine x_aload_n dL_versions_2 rfl rfl (Or.inr (by decide)) (?_ : Ex _ _ 3 _ _ _ _ _)
  refine x_iload_n dL_versions_3 rfl rfl (?_ : Ex _ _ 4 _ _ _ _ _)
  obtain ⟨c1, h⟩ := chk_some h
  rcases calT_some h with ⟨v2, m3, g4, h⟩ | ⟨e8, v2, m3, x7, g4, h⟩
  · refine cV1 (e_X11_versions d g4) (cont0 (by decide) (?_ : Ex _ _ 7 _ _ _ _ _)) og_X11_versions rfl ml_RL_26 11 rfl rfl c1 im_X11_versions se_X11_versions (Nat.le_of_ble_eq_true rfl) dL_versions_4
    refine x_i2l dL_versions_7 (?_ : Ex _ _ 8 _ _ _ _ _)
    obtain ⟨c5, h⟩ := chk_some h
    obtain ⟨m6, hm6, h⟩ := st_some h
    refine sd_l_1 c5 (by decide) (by decide) dL_versions_8 (?_ : Ex _ _ 9 _ _ _ _ _)
    rw [← hm6]
    refine x_goto (tgt := 15) dL_versions_9 rfl (?_ : Ex _ _ 15 _ _ _ _ _)
    refine x_iconst dL_versions_15 rfl (by decide) (?_ : Ex _ _ 16 _ _ _ _ _)
    cases h
    exact x_ret dL_versions_16 (by decide : (0 : Int) ≠ 3)
  · rcases ite_some h with ⟨b9, h⟩ | ⟨b9, h⟩
    · refine cV1 (e_X11_versions d g4) (contH [] [] (0, 9, 12, 13) x7 (by subst b9; rfl) rfl (by decide) (by decide) cl_RL_13 ca_xIO (fun z hz => nomatch hz) (h_astore_n (ls2 := [(21, l0), (0, l1), (300001, l2), (3, 0)]) dL_versions_12 rfl (Nat.le_of_ble_eq_true rfl) rfl (?_ : Ex _ _ 13 _ _ _ _ _))) og_X11_versions rfl ml_RL_26 11 rfl rfl c1 im_X11_versions se_X11_versions (Nat.le_of_ble_eq_true rfl) dL_versions_4
      refine x_iconst dL_versions_13 rfl (by decide) (?_ : Ex _ _ 14 _ _ _ _ _)
      cases h
      exact x_ret dL_versions_14 (by decide : (0 : Int) ≠ 3)
    cases h
theorem e_L_versions (d : Nat) {a0 a1 a2 : Int} {m : Mem} {v : Int} {m' : Mem} (h : L_versions a0 a1 a2 m = some (v, m')) : ExM (d + 3) fm_L_versions [(21, a0), (0, a1), (300001, a2)] m (.inl (0, v)) m' := by
  exact ExM.of (by decide +kernel) (Nat.le_of_ble_eq_true rfl) (cat9 rfl) retI (e_L_versions_0 d h)
theorem dL_start_0 : decode cL_start 0 = .ok (.aload 4, 2) := by decide +kernel
theorem dL_start_2 : decode cL_start 2 = .ok (.iconst 0, 1) := by decide +kernel
theorem dL_start_3 : decode cL_start 3 = .ok (.aload_n 0, 1) := by decide +kernel
theorem dL_start_4 : decode cL_start 4 = .ok (.iload_n 1, 1) := by decide +kernel
theorem dL_start_5 : decode cL_start 5 = .ok (.iload_n 2, 1) := by decide +kernel
theorem dL_start_6 : decode cL_start 6 = .ok (.iload_n 3, 1) := by decide +kernel
theorem dL_start_7 : decode cL_start 7 = .ok (.invokevirtual 29, 3) := by decide +kernel
theorem dL_start_10 : decode cL_start 10 = .ok (.i2l, 1) := by decide +kernel
theorem dL_start_11 : decode cL_start 11 = .ok (.lastore, 1) := by decide +kernel
theorem dL_start_12 : decode cL_start 12 = .ok (.goto 15, 3) := by decide +kernel
theorem dL_start_15 : decode cL_start 15 = .ok (.astore 5, 2) := by decide +kernel
theorem dL_start_17 : decode cL_start 17 = .ok (.iconst 1, 1) := by decide +kernel
theorem dL_start_18 : decode cL_start 18 = .ok (.ireturn, 1) := by decide +kernel
theorem dL_start_19 : decode cL_start 19 = .ok (.astore 5, 2) := by decide +kernel
theorem dL_start_21 : decode cL_start 21 = .ok (.iconst 2, 1) := by decide +kernel
theorem dL_start_22 : decode cL_start 22 = .ok (.ireturn, 1) := by decide +kernel
theorem dL_start_23 : decode cL_start 23 = .ok (.astore 5, 2) := by decide +kernel
theorem dL_start_25 : decode cL_start 25 = .ok (.iconst 3, 1) := by decide +kernel
theorem dL_start_26 : decode cL_start 26 = .ok (.ireturn, 1) := by decide +kernel
theorem dL_start_27 : decode cL_start 27 = .ok (.iconst 0, 1) := by decide +kernel
theorem dL_start_28 : decode cL_start 28 = .ok (.ireturn, 1) := by decide +kernel
theorem e_L_start_0 (d : Nat) {l0 l1 l2 l3 l4 : Int} {m : Mem} {v : Int} {m' : Mem} (h : L_start_0 l0 l1 l2 l3 l4 m = some (v, m')) : Ex (d + 4) fm_L_start 0 [(21, l0), (0, l1), (0, l2), (0, l3), (300001, l4), (3, 0)] [] m (.inl (0, v)) m' := by
  unfold L_start_0 at h
  refine x_aload dL_start_0 rfl (Or.inr (by decide)) (?_ : Ex _ _ 2 _ _ _ _ _)
  refine x_iconst dL_start_2 rfl (by decide) (?_ : Ex _ _ 3 _ _ _ _ _)
  refine x_aload_n dL_start_3 rfl rfl (Or.inr (by decide)) (?_ : Ex _ _ 4 _ _ _ _ _)
  refine x_iload_n dL_start_4 rfl rfl (?_ : Ex _ _ 5 _ _ _ _ _)
  refine x_iload_n dL_start_5 rfl rfl (?_ : Ex _ _ 6 _ _ _ _ _)
  refine x_iload_n dL_start_6 rfl rfl (?_ : Ex _ _ 7 _ _ _ _ _)
  obtain ⟨c1, h⟩ := chk_some h
  rcases calT_some h with ⟨v2, m3, g4, h⟩ | ⟨e8, v2, m3, x7, g4, h⟩
  · refine cV3 (e_X11_start d g4) (cont0 (by decide) (?_ : Ex _ _ 10 _ _ _ _ _)) og_X11_start rfl ml_RL_29 11 rfl rfl c1 im_X11_start se_X11_start (Nat.le_of_ble_eq_true rfl) dL_start_7
    refine x_i2l dL_start_10 (?_ : Ex _ _ 11 _ _ _ _ _)
    obtain ⟨c5, h⟩ := chk_some h
    obtain ⟨m6, hm6, h⟩ := st_some h
    refine sd_l_1 c5 (by decide) (by decide) dL_start_11 (?_ : Ex _ _ 12 _ _ _ _ _)
    rw [← hm6]
    refine x_goto (tgt := 27) dL_start_12 rfl (?_ : Ex _ _ 27 _ _ _ _ _)
    refine x_iconst dL_start_27 rfl (by decide) (?_ : Ex _ _ 28 _ _ _ _ _)
    cases h
    exact x_ret dL_start_28 (by decide : (0 : Int) ≠ 3)
  · rcases ite_some h with ⟨b9, h⟩ | ⟨b9, h⟩
    · refine cV3 (e_X11_start d g4) (contH [] [(0, 12, 19, 15), (0, 12, 23, 17)] (0, 12, 15, 13) x7 (by subst b9; rfl) rfl (by decide) (by decide) cl_RL_13 ca_xIO (fun z hz => nomatch hz) (h_astore (ls2 := [(21, l0), (0, l1), (0, l2), (0, l3), (300001, l4), (3, 0)]) dL_start_15 (Nat.le_of_ble_eq_true rfl) rfl (?_ : Ex _ _ 17 _ _ _ _ _))) og_X11_start rfl ml_RL_29 11 rfl rfl c1 im_X11_start se_X11_start (Nat.le_of_ble_eq_true rfl) dL_start_7
      refine x_iconst dL_start_17 rfl (by decide) (?_ : Ex _ _ 18 _ _ _ _ _)
      cases h
      exact x_ret dL_start_18 (by decide : (0 : Int) ≠ 3)
    rcases ite_some h with ⟨b10, h⟩ | ⟨b10, h⟩
    · refine cV3 (e_X11_start d g4) (contH [(0, 12, 15, 13)] [(0, 12, 23, 17)] (0, 12, 19, 15) x7 (by subst b10; rfl) rfl (by decide) (by decide) cl_RL_15 ca_xIA (cH1 ⟨by decide, _, cl_RL_13, by decide⟩) (h_astore (ls2 := [(21, l0), (0, l1), (0, l2), (0, l3), (300001, l4), (3, 0)]) dL_start_19 (Nat.le_of_ble_eq_true rfl) rfl (?_ : Ex _ _ 21 _ _ _ _ _))) og_X11_start rfl ml_RL_29 11 rfl rfl c1 im_X11_start se_X11_start (Nat.le_of_ble_eq_true rfl) dL_start_7
      refine x_iconst dL_start_21 rfl (by decide) (?_ : Ex _ _ 22 _ _ _ _ _)
      cases h
      exact x_ret dL_start_22 (by decide : (0 : Int) ≠ 3)
    rcases ite_some h with ⟨b11, h⟩ | ⟨b11, h⟩
    · refine cV3 (e_X11_start d g4) (contH [(0, 12, 15, 13), (0, 12, 19, 15)] [] (0, 12, 23, 17) x7 (by subst b11; rfl) rfl (by decide) (by decide) cl_RL_17 ca_xIS (cH2 ⟨by decide, _, cl_RL_13, by decide⟩ ⟨by decide, _, cl_RL_15, by decide⟩) (h_astore (ls2 := [(21, l0), (0, l1), (0, l2), (0, l3), (300001, l4), (3, 0)]) dL_start_23 (Nat.le_of_ble_eq_true rfl) rfl (?_ : Ex _ _ 25 _ _ _ _ _))) og_X11_start rfl ml_RL_29 11 rfl rfl c1 im_X11_start se_X11_start (Nat.le_of_ble_eq_true rfl) dL_start_7
      refine x_iconst dL_start_25 rfl (by decide) (?_ : Ex _ _ 26 _ _ _ _ _)
      cases h
      exact x_ret dL_start_26 (by decide : (0 : Int) ≠ 3)
    cases h
theorem e_L_start (d : Nat) {a0 a1 a2 a3 a4 : Int} {m : Mem} {v : Int} {m' : Mem} (h : L_start a0 a1 a2 a3 a4 m = some (v, m')) : ExM (d + 4) fm_L_start [(21, a0), (0, a1), (0, a2), (0, a3), (300001, a4)] m (.inl (0, v)) m' := by
  exact ExM.of (by decide +kernel) (Nat.le_of_ble_eq_true rfl) (cat9 rfl) retI (e_L_start_0 d h)
