/-! the machine does what the functions say, printed -/
theorem dX12_plays_0 : decode cX12_plays 0 = .ok (.aload_n 0, 1) := by decide +kernel
theorem dX12_plays_1 : decode cX12_plays 1 = .ok (.iload_n 1, 1) := by decide +kernel
theorem dX12_plays_2 : decode cX12_plays 2 = .ok (.invokevirtual 205, 3) := by decide +kernel
theorem dX12_plays_5 : decode cX12_plays 5 = .ok (.istore_n 3, 1) := by decide +kernel
theorem dX12_plays_6 : decode cX12_plays 6 = .ok (.bipush 80, 2) := by decide +kernel
theorem dX12_plays_8 : decode cX12_plays 8 = .ok (.iload_n 3, 1) := by decide +kernel
theorem dX12_plays_9 : decode cX12_plays 9 = .ok (.imul, 1) := by decide +kernel
theorem dX12_plays_10 : decode cX12_plays 10 = .ok (.aload_n 0, 1) := by decide +kernel
theorem dX12_plays_11 : decode cX12_plays 11 = .ok (.getfield 55, 3) := by decide +kernel
theorem dX12_plays_14 : decode cX12_plays 14 = .ok (.iload_n 3, 1) := by decide +kernel
theorem dX12_plays_15 : decode cX12_plays 15 = .ok (.iaload, 1) := by decide +kernel
theorem dX12_plays_16 : decode cX12_plays 16 = .ok (.iadd, 1) := by decide +kernel
theorem dX12_plays_17 : decode cX12_plays 17 = .ok (.istore 4, 2) := by decide +kernel
theorem dX12_plays_19 : decode cX12_plays 19 = .ok (.bipush 80, 2) := by decide +kernel
theorem dX12_plays_21 : decode cX12_plays 21 = .ok (.iload_n 3, 1) := by decide +kernel
theorem dX12_plays_22 : decode cX12_plays 22 = .ok (.imul, 1) := by decide +kernel
theorem dX12_plays_23 : decode cX12_plays 23 = .ok (.istore 5, 2) := by decide +kernel
theorem dX12_plays_25 : decode cX12_plays 25 = .ok (.aload_n 0, 1) := by decide +kernel
theorem dX12_plays_26 : decode cX12_plays 26 = .ok (.aload_n 0, 1) := by decide +kernel
theorem dX12_plays_27 : decode cX12_plays 27 = .ok (.getfield 25, 3) := by decide +kernel
theorem dX12_plays_30 : decode cX12_plays 30 = .ok (.iload_n 1, 1) := by decide +kernel
theorem dX12_plays_31 : decode cX12_plays 31 = .ok (.iaload, 1) := by decide +kernel
theorem dX12_plays_32 : decode cX12_plays 32 = .ok (.iload_n 2, 1) := by decide +kernel
theorem dX12_plays_33 : decode cX12_plays 33 = .ok (.invokestatic 191, 3) := by decide +kernel
theorem dX12_plays_36 : decode cX12_plays 36 = .ok (.invokevirtual 383, 3) := by decide +kernel
theorem dX12_plays_39 : decode cX12_plays 39 = .ok (.aload_n 0, 1) := by decide +kernel
theorem dX12_plays_40 : decode cX12_plays 40 = .ok (.aload_n 0, 1) := by decide +kernel
theorem dX12_plays_41 : decode cX12_plays 41 = .ok (.getfield 40, 3) := by decide +kernel
theorem dX12_plays_44 : decode cX12_plays 44 = .ok (.iload_n 1, 1) := by decide +kernel
theorem dX12_plays_45 : decode cX12_plays 45 = .ok (.iaload, 1) := by decide +kernel
theorem dX12_plays_46 : decode cX12_plays 46 = .ok (.putfield 354, 3) := by decide +kernel
theorem dX12_plays_49 : decode cX12_plays 49 = .ok (.aload_n 0, 1) := by decide +kernel
theorem dX12_plays_50 : decode cX12_plays 50 = .ok (.iconst 0, 1) := by decide +kernel
theorem dX12_plays_51 : decode cX12_plays 51 = .ok (.putfield 336, 3) := by decide +kernel
theorem dX12_plays_54 : decode cX12_plays 54 = .ok (.iload 5, 2) := by decide +kernel
theorem dX12_plays_56 : decode cX12_plays 56 = .ok (.istore 6, 2) := by decide +kernel
theorem dX12_plays_58 : decode cX12_plays 58 = .ok (.iload 6, 2) := by decide +kernel
theorem dX12_plays_60 : decode cX12_plays 60 = .ok (.iload 4, 2) := by decide +kernel
theorem dX12_plays_62 : decode cX12_plays 62 = .ok (.if_icmp .ge 64, 3) := by decide +kernel
theorem dX12_plays_65 : decode cX12_plays 65 = .ok (.aload_n 0, 1) := by decide +kernel
theorem dX12_plays_66 : decode cX12_plays 66 = .ok (.getfield 58, 3) := by decide +kernel
theorem dX12_plays_69 : decode cX12_plays 69 = .ok (.iload 6, 2) := by decide +kernel
theorem dX12_plays_71 : decode cX12_plays 71 = .ok (.iaload, 1) := by decide +kernel
theorem dX12_plays_72 : decode cX12_plays 72 = .ok (.bipush 7, 2) := by decide +kernel
theorem dX12_plays_74 : decode cX12_plays 74 = .ok (.if_icmp .ne 46, 3) := by decide +kernel
theorem dX12_plays_77 : decode cX12_plays 77 = .ok (.aload_n 0, 1) := by decide +kernel
theorem dX12_plays_78 : decode cX12_plays 78 = .ok (.iload 6, 2) := by decide +kernel
theorem dX12_plays_80 : decode cX12_plays 80 = .ok (.iconst 1, 1) := by decide +kernel
theorem dX12_plays_81 : decode cX12_plays 81 = .ok (.iadd, 1) := by decide +kernel
theorem dX12_plays_82 : decode cX12_plays 82 = .ok (.putfield 333, 3) := by decide +kernel
theorem dX12_plays_85 : decode cX12_plays 85 = .ok (.aload_n 0, 1) := by decide +kernel
theorem dX12_plays_86 : decode cX12_plays 86 = .ok (.aload_n 0, 1) := by decide +kernel
theorem dX12_plays_87 : decode cX12_plays 87 = .ok (.iload 6, 2) := by decide +kernel
theorem dX12_plays_89 : decode cX12_plays 89 = .ok (.iload 4, 2) := by decide +kernel
theorem dX12_plays_91 : decode cX12_plays 91 = .ok (.invokevirtual 386, 3) := by decide +kernel
theorem dX12_plays_94 : decode cX12_plays 94 = .ok (.putfield 339, 3) := by decide +kernel
theorem dX12_plays_97 : decode cX12_plays 97 = .ok (.aload_n 0, 1) := by decide +kernel
theorem dX12_plays_98 : decode cX12_plays 98 = .ok (.iload 5, 2) := by decide +kernel
theorem dX12_plays_100 : decode cX12_plays 100 = .ok (.iload 6, 2) := by decide +kernel
theorem dX12_plays_102 : decode cX12_plays 102 = .ok (.invokevirtual 389, 3) := by decide +kernel
theorem dX12_plays_105 : decode cX12_plays 105 = .ok (.aload_n 0, 1) := by decide +kernel
theorem dX12_plays_106 : decode cX12_plays 106 = .ok (.invokevirtual 392, 3) := by decide +kernel
theorem dX12_plays_109 : decode cX12_plays 109 = .ok (.ifCond .ne 5, 3) := by decide +kernel
theorem dX12_plays_112 : decode cX12_plays 112 = .ok (.iconst (-1), 1) := by decide +kernel
theorem dX12_plays_113 : decode cX12_plays 113 = .ok (.ireturn, 1) := by decide +kernel
theorem dX12_plays_114 : decode cX12_plays 114 = .ok (.aload_n 0, 1) := by decide +kernel
theorem dX12_plays_115 : decode cX12_plays 115 = .ok (.getfield 339, 3) := by decide +kernel
theorem dX12_plays_118 : decode cX12_plays 118 = .ok (.istore 5, 2) := by decide +kernel
theorem dX12_plays_120 : decode cX12_plays 120 = .ok (.iinc 6 1, 3) := by decide +kernel
theorem dX12_plays_123 : decode cX12_plays 123 = .ok (.goto (-65), 3) := by decide +kernel
theorem dX12_plays_126 : decode cX12_plays 126 = .ok (.iload 5, 2) := by decide +kernel
theorem dX12_plays_128 : decode cX12_plays 128 = .ok (.ireturn, 1) := by decide +kernel
theorem e_X12_plays_58 (d : Nat) : ∀ (n : Nat) {l0 l4 l5 l6 : Int} {m : Mem} {v : Int} {m' : Mem}, X12_plays_58 n l0 l4 l5 l6 m = some (v, m') → Ex (d + 10) fm_X12_plays 58 [(22, l0), (3, 0), (3, 0), (3, 0), (0, l4), (0, l5), (0, l6)] [] m (.inl (0, v)) m' := by
  intro n
  induction n with
  | zero =>
    intro l0 l4 l5 l6 m v m' h
    have h : (none : Option R2) = some _ := h
    cases h
  | succ n ih =>
    intro l0 l4 l5 l6 m v m' h
    rw [X12_plays_58] at h
    refine x_iload dX12_plays_58 rfl (?_ : Ex _ _ 60 _ _ _ _ _)
    refine x_iload dX12_plays_60 rfl (?_ : Ex _ _ 62 _ _ _ _ _)
    rcases ite_some h with ⟨b1, h⟩ | ⟨b1, h⟩
    · refine x_icmp_ge (tgt := 126) dX12_plays_62 rfl b1 (?_ : Ex _ _ 126 _ _ _ _ _)
      refine x_iload dX12_plays_126 rfl (?_ : Ex _ _ 128 _ _ _ _ _)
      cases h
      exact x_ret dX12_plays_128 (by decide : (0 : Int) ≠ 3)
    · refine x_icmp_geN dX12_plays_62 (by decide) b1 (?_ : Ex _ _ 65 _ _ _ _ _)
      refine x_aload_n dX12_plays_65 rfl rfl (Or.inr (by decide)) (?_ : Ex _ _ 66 _ _ _ _ _)
      obtain ⟨c2, h⟩ := chk_some h
      refine gt_12_19 c2 fl_RX12_58 dX12_plays_66 (?_ : Ex _ _ 69 _ _ _ _ _)
      refine x_iload dX12_plays_69 rfl (?_ : Ex _ _ 71 _ _ _ _ _)
      obtain ⟨⟨c3, c4, c5⟩, h⟩ := chk_some h
      refine ld_i_7200 c3 c4 c5 dX12_plays_71 (?_ : Ex _ _ 72 _ _ _ _ _)
      refine x_bipush dX12_plays_72 kb_7 (by decide) (?_ : Ex _ _ 74 _ _ _ _ _)
      rcases ite_some h with ⟨b6, h⟩ | ⟨b6, h⟩
      · refine x_icmp_neN dX12_plays_74 (by decide) (fun hh => hh b6) (?_ : Ex _ _ 77 _ _ _ _ _)
        refine x_aload_n dX12_plays_77 rfl rfl (Or.inr (by decide)) (?_ : Ex _ _ 78 _ _ _ _ _)
        refine x_iload dX12_plays_78 rfl (?_ : Ex _ _ 80 _ _ _ _ _)
        refine x_iconst dX12_plays_80 rfl (by decide) (?_ : Ex _ _ 81 _ _ _ _ _)
        obtain ⟨c8, h⟩ := chk_some h
        refine x_iadd dX12_plays_81 c8 (?_ : Ex _ _ 82 _ _ _ _ _)
        obtain ⟨m9, hm9, h⟩ := st_some h
        refine pt_12_78  c2 fl_RX12_333 dX12_plays_82 (?_ : Ex _ _ 85 _ _ _ _ _)
        rw [← hm9]
        refine x_aload_n dX12_plays_85 rfl rfl (Or.inr (by decide)) (?_ : Ex _ _ 86 _ _ _ _ _)
        refine x_aload_n dX12_plays_86 rfl rfl (Or.inr (by decide)) (?_ : Ex _ _ 87 _ _ _ _ _)
        refine x_iload dX12_plays_87 rfl (?_ : Ex _ _ 89 _ _ _ _ _)
        refine x_iload dX12_plays_89 rfl (?_ : Ex _ _ 91 _ _ _ _ _)
        obtain ⟨v10, m11, g12, h⟩ := cal_some h
        refine cV2 (e_X12_endOf (d + 9) g12) (contN (by decide) (?_ : Ex _ _ 94 _ _ _ _ _)) og_X12_endOf rfl ml_RX12_386 12 rfl rfl c2 im_X12_endOf se_X12_endOf (Nat.le_of_ble_eq_true rfl) dX12_plays_91
        obtain ⟨m13, hm13, h⟩ := st_some h
        refine pt_12_79  c2 fl_RX12_339 dX12_plays_94 (?_ : Ex _ _ 97 _ _ _ _ _)
        rw [← hm13]
        refine x_aload_n dX12_plays_97 rfl rfl (Or.inr (by decide)) (?_ : Ex _ _ 98 _ _ _ _ _)
        refine x_iload dX12_plays_98 rfl (?_ : Ex _ _ 100 _ _ _ _ _)
        refine x_iload dX12_plays_100 rfl (?_ : Ex _ _ 102 _ _ _ _ _)
        obtain ⟨v14, m15, g16, h⟩ := cal_some h
        refine cV2 (e_X12_takesAll d g16) (contV (?_ : Ex _ _ 105 _ _ _ _ _)) og_X12_takesAll rfl ml_RX12_389 12 rfl rfl c2 im_X12_takesAll se_X12_takesAll (Nat.le_of_ble_eq_true rfl) dX12_plays_102
        refine x_aload_n dX12_plays_105 rfl rfl (Or.inr (by decide)) (?_ : Ex _ _ 106 _ _ _ _ _)
        obtain ⟨v17, m18, g19, h⟩ := cal_some h
        refine cV0 (e_X12_isAsTold (d + 9) g19) (contN (by decide) (?_ : Ex _ _ 109 _ _ _ _ _)) og_X12_isAsTold rfl ml_RX12_392 12 rfl rfl c2 im_X12_isAsTold se_X12_isAsTold (Nat.le_of_ble_eq_true rfl) dX12_plays_106
        rcases ite_some h with ⟨b20, h⟩ | ⟨b20, h⟩
        · refine x_if_neN dX12_plays_109 (by decide) (fun hh => hh b20) (?_ : Ex _ _ 112 _ _ _ _ _)
          refine x_iconst dX12_plays_112 rfl (by decide) (?_ : Ex _ _ 113 _ _ _ _ _)
          cases h
          exact x_ret dX12_plays_113 (by decide : (0 : Int) ≠ 3)
        · refine x_if_ne (tgt := 114) dX12_plays_109 rfl b20 (?_ : Ex _ _ 114 _ _ _ _ _)
          refine x_aload_n dX12_plays_114 rfl rfl (Or.inr (by decide)) (?_ : Ex _ _ 115 _ _ _ _ _)
          refine gt_12_79 c2 fl_RX12_339 dX12_plays_115 (?_ : Ex _ _ 118 _ _ _ _ _)
          refine x_istore (ls2 := [(22, l0), (3, 0), (3, 0), (3, 0), (0, l4), (0, m18 l0 79), (0, l6)]) dX12_plays_118 (Nat.le_of_ble_eq_true rfl) rfl (?_ : Ex _ _ 120 _ _ _ _ _)
          obtain ⟨c21, h⟩ := chk_some h
          refine x_iinc (ls2 := [(22, l0), (3, 0), (3, 0), (3, 0), (0, l4), (0, m18 l0 79), (0, (l6 + 1))]) dX12_plays_120 rfl c21 rfl (?_ : Ex _ _ 123 _ _ _ _ _)
          refine x_goto (tgt := 58) dX12_plays_123 rfl (?_ : Ex _ _ 58 _ _ _ _ _)
          exact ih h
      · refine x_icmp_ne (tgt := 120) dX12_plays_74 rfl b6 (?_ : Ex _ _ 120 _ _ _ _ _)
        obtain ⟨c7, h⟩ := chk_some h
        refine x_iinc (ls2 := [(22, l0), (3, 0), (3, 0), (3, 0), (0, l4), (0, l5), (0, (l6 + 1))]) dX12_plays_120 rfl c7 rfl (?_ : Ex _ _ 123 _ _ _ _ _)
        refine x_goto (tgt := 58) dX12_plays_123 rfl (?_ : Ex _ _ 58 _ _ _ _ _)
        exact ih h
theorem e_X12_plays_0 (d : Nat) {l0 l1 l2 : Int} {m : Mem} {v : Int} {m' : Mem} (h : X12_plays_0 l0 l1 l2 m = some (v, m')) : Ex (d + 10) fm_X12_plays 0 [(22, l0), (0, l1), (0, l2), (3, 0), (3, 0), (3, 0), (3, 0)] [] m (.inl (0, v)) m' := by
  unfold X12_plays_0 at h
  refine x_aload_n dX12_plays_0 rfl rfl (Or.inr (by decide)) (?_ : Ex _ _ 1 _ _ _ _ _)
  refine x_iload_n dX12_plays_1 rfl rfl (?_ : Ex _ _ 2 _ _ _ _ _)
  obtain ⟨c1, h⟩ := chk_some h
  obtain ⟨v2, m3, g4, h⟩ := cal_some h
  refine cV1 (e_X12_rowOfRun (d + 9) g4) (contN (by decide) (?_ : Ex _ _ 5 _ _ _ _ _)) og_X12_rowOfRun rfl ml_RX12_205 12 rfl rfl c1 im_X12_rowOfRun se_X12_rowOfRun (Nat.le_of_ble_eq_true rfl) dX12_plays_2
  refine x_istore_n (ls2 := [(22, l0), (0, l1), (0, l2), (0, v2), (3, 0), (3, 0), (3, 0)]) dX12_plays_5 rfl (Nat.le_of_ble_eq_true rfl) rfl (?_ : Ex _ _ 6 _ _ _ _ _)
  refine x_bipush dX12_plays_6 kb_80 (by decide) (?_ : Ex _ _ 8 _ _ _ _ _)
  refine x_iload_n dX12_plays_8 rfl rfl (?_ : Ex _ _ 9 _ _ _ _ _)
  obtain ⟨c5, h⟩ := chk_some h
  refine x_imul dX12_plays_9 c5 (?_ : Ex _ _ 10 _ _ _ _ _)
  refine x_aload_n dX12_plays_10 rfl rfl (Or.inr (by decide)) (?_ : Ex _ _ 11 _ _ _ _ _)
  refine gt_12_18 c1 fl_RX12_55 dX12_plays_11 (?_ : Ex _ _ 14 _ _ _ _ _)
  refine x_iload_n dX12_plays_14 rfl rfl (?_ : Ex _ _ 15 _ _ _ _ _)
  obtain ⟨⟨c6, c7, c8⟩, h⟩ := chk_some h
  refine ld_i_90 c6 c7 c8 dX12_plays_15 (?_ : Ex _ _ 16 _ _ _ _ _)
  obtain ⟨c9, h⟩ := chk_some h
  refine x_iadd dX12_plays_16 c9 (?_ : Ex _ _ 17 _ _ _ _ _)
  refine x_istore (ls2 := [(22, l0), (0, l1), (0, l2), (0, v2), (0, ((80 * v2) + m3 (m3 l0 18) v2)), (3, 0), (3, 0)]) dX12_plays_17 (Nat.le_of_ble_eq_true rfl) rfl (?_ : Ex _ _ 19 _ _ _ _ _)
  refine x_bipush dX12_plays_19 kb_80 (by decide) (?_ : Ex _ _ 21 _ _ _ _ _)
  refine x_iload_n dX12_plays_21 rfl rfl (?_ : Ex _ _ 22 _ _ _ _ _)
  obtain ⟨c10, h⟩ := chk_some h
  refine x_imul dX12_plays_22 c10 (?_ : Ex _ _ 23 _ _ _ _ _)
  refine x_istore (ls2 := [(22, l0), (0, l1), (0, l2), (0, v2), (0, ((80 * v2) + m3 (m3 l0 18) v2)), (0, (80 * v2)), (3, 0)]) dX12_plays_23 (Nat.le_of_ble_eq_true rfl) rfl (?_ : Ex _ _ 25 _ _ _ _ _)
  refine x_aload_n dX12_plays_25 rfl rfl (Or.inr (by decide)) (?_ : Ex _ _ 26 _ _ _ _ _)
  refine x_aload_n dX12_plays_26 rfl rfl (Or.inr (by decide)) (?_ : Ex _ _ 27 _ _ _ _ _)
  refine gt_12_7 c1 fl_RX12_25 dX12_plays_27 (?_ : Ex _ _ 30 _ _ _ _ _)
  refine x_iload_n dX12_plays_30 rfl rfl (?_ : Ex _ _ 31 _ _ _ _ _)
  obtain ⟨⟨c11, c12, c13⟩, h⟩ := chk_some h
  refine ld_i_10 c11 c12 c13 dX12_plays_31 (?_ : Ex _ _ 32 _ _ _ _ _)
  refine x_iload_n dX12_plays_32 rfl rfl (?_ : Ex _ _ 33 _ _ _ _ _)
  obtain ⟨v14, m15, g16, h⟩ := cal_some h
  refine cS2 (e_X12_rowOf (d + 9) g16) (contN (by decide) (?_ : Ex _ _ 36 _ _ _ _ _)) og_X12_rowOf rfl ml_RX12_191 sm_X12_rowOf (Nat.le_of_ble_eq_true rfl) dX12_plays_33
  obtain ⟨v17, m18, g19, h⟩ := cal_some h
  refine cV1 (e_X12_begins (d + 9) g19) (contV (?_ : Ex _ _ 39 _ _ _ _ _)) og_X12_begins rfl ml_RX12_383 12 rfl rfl c1 im_X12_begins se_X12_begins (Nat.le_of_ble_eq_true rfl) dX12_plays_36
  refine x_aload_n dX12_plays_39 rfl rfl (Or.inr (by decide)) (?_ : Ex _ _ 40 _ _ _ _ _)
  refine x_aload_n dX12_plays_40 rfl rfl (Or.inr (by decide)) (?_ : Ex _ _ 41 _ _ _ _ _)
  refine gt_12_12 c1 fl_RX12_40 dX12_plays_41 (?_ : Ex _ _ 44 _ _ _ _ _)
  refine x_iload_n dX12_plays_44 rfl rfl (?_ : Ex _ _ 45 _ _ _ _ _)
  obtain ⟨⟨c20, c21, c22⟩, h⟩ := chk_some h
  refine ld_i_10 c20 c21 c22 dX12_plays_45 (?_ : Ex _ _ 46 _ _ _ _ _)
  obtain ⟨m23, hm23, h⟩ := st_some h
  refine pt_12_83  c1 fl_RX12_354 dX12_plays_46 (?_ : Ex _ _ 49 _ _ _ _ _)
  rw [← hm23]
  refine x_aload_n dX12_plays_49 rfl rfl (Or.inr (by decide)) (?_ : Ex _ _ 50 _ _ _ _ _)
  refine x_iconst dX12_plays_50 rfl (by decide) (?_ : Ex _ _ 51 _ _ _ _ _)
  obtain ⟨m24, hm24, h⟩ := st_some h
  refine pt_12_80  c1 (by decide) fl_RX12_336 dX12_plays_51 (?_ : Ex _ _ 54 _ _ _ _ _)
  rw [← hm24]
  refine x_iload dX12_plays_54 rfl (?_ : Ex _ _ 56 _ _ _ _ _)
  refine x_istore (ls2 := [(22, l0), (0, l1), (0, l2), (0, v2), (0, ((80 * v2) + m3 (m3 l0 18) v2)), (0, (80 * v2)), (0, (80 * v2))]) dX12_plays_56 (Nat.le_of_ble_eq_true rfl) rfl (?_ : Ex _ _ 58 _ _ _ _ _)
  refine Ex.wk (ls2 := [(22, l0), (3, 0), (3, 0), (3, 0), (0, ((80 * v2) + m3 (m3 l0 18) v2)), (0, (80 * v2)), (0, (80 * v2))]) ⟨Or.inr rfl, Or.inl rfl, Or.inl rfl, Or.inl rfl, Or.inr rfl, Or.inr rfl, Or.inr rfl, trivial⟩ ?_
  exact e_X12_plays_58 d fuel9 h
theorem e_X12_plays (d : Nat) {a0 a1 a2 : Int} {m : Mem} {v : Int} {m' : Mem} (h : X12_plays a0 a1 a2 m = some (v, m')) : ExM (d + 10) fm_X12_plays [(22, a0), (0, a1), (0, a2)] m (.inl (0, v)) m' := by
  exact ExM.of (by decide +kernel) (Nat.le_of_ble_eq_true rfl) (cat9 rfl) retI (e_X12_plays_0 d h)
theorem dX12_isAny_0 : decode cX12_isAny 0 = .ok (.iconst 0, 1) := by decide +kernel
theorem dX12_isAny_1 : decode cX12_isAny 1 = .ok (.istore_n 2, 1) := by decide +kernel
theorem dX12_isAny_2 : decode cX12_isAny 2 = .ok (.aload_n 0, 1) := by decide +kernel
theorem dX12_isAny_3 : decode cX12_isAny 3 = .ok (.iload_n 1, 1) := by decide +kernel
theorem dX12_isAny_4 : decode cX12_isAny 4 = .ok (.invokevirtual 205, 3) := by decide +kernel
theorem dX12_isAny_7 : decode cX12_isAny 7 = .ok (.istore_n 3, 1) := by decide +kernel
theorem dX12_isAny_8 : decode cX12_isAny 8 = .ok (.iconst 0, 1) := by decide +kernel
theorem dX12_isAny_9 : decode cX12_isAny 9 = .ok (.istore 4, 2) := by decide +kernel
theorem dX12_isAny_11 : decode cX12_isAny 11 = .ok (.iload 4, 2) := by decide +kernel
theorem dX12_isAny_13 : decode cX12_isAny 13 = .ok (.aload_n 0, 1) := by decide +kernel
theorem dX12_isAny_14 : decode cX12_isAny 14 = .ok (.getfield 55, 3) := by decide +kernel
theorem dX12_isAny_17 : decode cX12_isAny 17 = .ok (.iload_n 3, 1) := by decide +kernel
theorem dX12_isAny_18 : decode cX12_isAny 18 = .ok (.iaload, 1) := by decide +kernel
theorem dX12_isAny_19 : decode cX12_isAny 19 = .ok (.if_icmp .ge 36, 3) := by decide +kernel
theorem dX12_isAny_22 : decode cX12_isAny 22 = .ok (.iload_n 2, 1) := by decide +kernel
theorem dX12_isAny_23 : decode cX12_isAny 23 = .ok (.ifCond .ne 20, 3) := by decide +kernel
theorem dX12_isAny_26 : decode cX12_isAny 26 = .ok (.aload_n 0, 1) := by decide +kernel
theorem dX12_isAny_27 : decode cX12_isAny 27 = .ok (.getfield 58, 3) := by decide +kernel
theorem dX12_isAny_30 : decode cX12_isAny 30 = .ok (.bipush 80, 2) := by decide +kernel
theorem dX12_isAny_32 : decode cX12_isAny 32 = .ok (.iload_n 3, 1) := by decide +kernel
theorem dX12_isAny_33 : decode cX12_isAny 33 = .ok (.imul, 1) := by decide +kernel
theorem dX12_isAny_34 : decode cX12_isAny 34 = .ok (.iload 4, 2) := by decide +kernel
theorem dX12_isAny_36 : decode cX12_isAny 36 = .ok (.iadd, 1) := by decide +kernel
theorem dX12_isAny_37 : decode cX12_isAny 37 = .ok (.iaload, 1) := by decide +kernel
theorem dX12_isAny_38 : decode cX12_isAny 38 = .ok (.bipush 7, 2) := by decide +kernel
theorem dX12_isAny_40 : decode cX12_isAny 40 = .ok (.if_icmp .ne 7, 3) := by decide +kernel
theorem dX12_isAny_43 : decode cX12_isAny 43 = .ok (.iconst 1, 1) := by decide +kernel
theorem dX12_isAny_44 : decode cX12_isAny 44 = .ok (.goto 4, 3) := by decide +kernel
theorem dX12_isAny_47 : decode cX12_isAny 47 = .ok (.iconst 0, 1) := by decide +kernel
theorem dX12_isAny_48 : decode cX12_isAny 48 = .ok (.istore_n 2, 1) := by decide +kernel
theorem dX12_isAny_49 : decode cX12_isAny 49 = .ok (.iinc 4 1, 3) := by decide +kernel
theorem dX12_isAny_52 : decode cX12_isAny 52 = .ok (.goto (-41), 3) := by decide +kernel
theorem dX12_isAny_55 : decode cX12_isAny 55 = .ok (.iload_n 2, 1) := by decide +kernel
theorem dX12_isAny_56 : decode cX12_isAny 56 = .ok (.ireturn, 1) := by decide +kernel
theorem e_X12_isAny_11 (d : Nat) : ∀ (n : Nat) {l0 l2 l3 l4 : Int} {m : Mem} {v : Int} {m' : Mem}, X12_isAny_11 n l0 l2 l3 l4 m = some (v, m') → Ex (d + 1) fm_X12_isAny 11 [(22, l0), (3, 0), (0, l2), (0, l3), (0, l4)] [] m (.inl (0, v)) m' := by
  intro n
  induction n with
  | zero =>
    intro l0 l2 l3 l4 m v m' h
    have h : (none : Option R2) = some _ := h
    cases h
  | succ n ih =>
    intro l0 l2 l3 l4 m v m' h
    rw [X12_isAny_11] at h
    refine x_iload dX12_isAny_11 rfl (?_ : Ex _ _ 13 _ _ _ _ _)
    refine x_aload_n dX12_isAny_13 rfl rfl (Or.inr (by decide)) (?_ : Ex _ _ 14 _ _ _ _ _)
    obtain ⟨c1, h⟩ := chk_some h
    refine gt_12_18 c1 fl_RX12_55 dX12_isAny_14 (?_ : Ex _ _ 17 _ _ _ _ _)
    refine x_iload_n dX12_isAny_17 rfl rfl (?_ : Ex _ _ 18 _ _ _ _ _)
    obtain ⟨⟨c2, c3, c4⟩, h⟩ := chk_some h
    refine ld_i_90 c2 c3 c4 dX12_isAny_18 (?_ : Ex _ _ 19 _ _ _ _ _)
    rcases ite_some h with ⟨b5, h⟩ | ⟨b5, h⟩
    · refine x_icmp_ge (tgt := 55) dX12_isAny_19 rfl b5 (?_ : Ex _ _ 55 _ _ _ _ _)
      refine x_iload_n dX12_isAny_55 rfl rfl (?_ : Ex _ _ 56 _ _ _ _ _)
      cases h
      exact x_ret dX12_isAny_56 (by decide : (0 : Int) ≠ 3)
    · refine x_icmp_geN dX12_isAny_19 (by decide) b5 (?_ : Ex _ _ 22 _ _ _ _ _)
      refine x_iload_n dX12_isAny_22 rfl rfl (?_ : Ex _ _ 23 _ _ _ _ _)
      rcases ite_some h with ⟨b6, h⟩ | ⟨b6, h⟩
      · refine x_if_neN dX12_isAny_23 (by decide) (fun hh => hh b6) (?_ : Ex _ _ 26 _ _ _ _ _)
        refine x_aload_n dX12_isAny_26 rfl rfl (Or.inr (by decide)) (?_ : Ex _ _ 27 _ _ _ _ _)
        refine gt_12_19 c1 fl_RX12_58 dX12_isAny_27 (?_ : Ex _ _ 30 _ _ _ _ _)
        refine x_bipush dX12_isAny_30 kb_80 (by decide) (?_ : Ex _ _ 32 _ _ _ _ _)
        refine x_iload_n dX12_isAny_32 rfl rfl (?_ : Ex _ _ 33 _ _ _ _ _)
        obtain ⟨c8, h⟩ := chk_some h
        refine x_imul dX12_isAny_33 c8 (?_ : Ex _ _ 34 _ _ _ _ _)
        refine x_iload dX12_isAny_34 rfl (?_ : Ex _ _ 36 _ _ _ _ _)
        obtain ⟨c9, h⟩ := chk_some h
        refine x_iadd dX12_isAny_36 c9 (?_ : Ex _ _ 37 _ _ _ _ _)
        obtain ⟨⟨c10, c11, c12⟩, h⟩ := chk_some h
        refine ld_i_7200 c10 c11 c12 dX12_isAny_37 (?_ : Ex _ _ 38 _ _ _ _ _)
        refine x_bipush dX12_isAny_38 kb_7 (by decide) (?_ : Ex _ _ 40 _ _ _ _ _)
        rcases ite_some h with ⟨b13, h⟩ | ⟨b13, h⟩
        · refine x_icmp_neN dX12_isAny_40 (by decide) (fun hh => hh b13) (?_ : Ex _ _ 43 _ _ _ _ _)
          refine x_iconst dX12_isAny_43 rfl (by decide) (?_ : Ex _ _ 44 _ _ _ _ _)
          refine x_goto (tgt := 48) dX12_isAny_44 rfl (?_ : Ex _ _ 48 _ _ _ _ _)
          refine x_istore_n (ls2 := [(22, l0), (3, 0), (0, 1), (0, l3), (0, l4)]) dX12_isAny_48 rfl (Nat.le_of_ble_eq_true rfl) rfl (?_ : Ex _ _ 49 _ _ _ _ _)
          obtain ⟨c15, h⟩ := chk_some h
          refine x_iinc (ls2 := [(22, l0), (3, 0), (0, 1), (0, l3), (0, (l4 + 1))]) dX12_isAny_49 rfl c15 rfl (?_ : Ex _ _ 52 _ _ _ _ _)
          refine x_goto (tgt := 11) dX12_isAny_52 rfl (?_ : Ex _ _ 11 _ _ _ _ _)
          exact ih h
        · refine x_icmp_ne (tgt := 47) dX12_isAny_40 rfl b13 (?_ : Ex _ _ 47 _ _ _ _ _)
          refine x_iconst dX12_isAny_47 rfl (by decide) (?_ : Ex _ _ 48 _ _ _ _ _)
          refine x_istore_n (ls2 := [(22, l0), (3, 0), (0, 0), (0, l3), (0, l4)]) dX12_isAny_48 rfl (Nat.le_of_ble_eq_true rfl) rfl (?_ : Ex _ _ 49 _ _ _ _ _)
          obtain ⟨c14, h⟩ := chk_some h
          refine x_iinc (ls2 := [(22, l0), (3, 0), (0, 0), (0, l3), (0, (l4 + 1))]) dX12_isAny_49 rfl c14 rfl (?_ : Ex _ _ 52 _ _ _ _ _)
          refine x_goto (tgt := 11) dX12_isAny_52 rfl (?_ : Ex _ _ 11 _ _ _ _ _)
          exact ih h
      · refine x_if_ne (tgt := 43) dX12_isAny_23 rfl b6 (?_ : Ex _ _ 43 _ _ _ _ _)
        refine x_iconst dX12_isAny_43 rfl (by decide) (?_ : Ex _ _ 44 _ _ _ _ _)
        refine x_goto (tgt := 48) dX12_isAny_44 rfl (?_ : Ex _ _ 48 _ _ _ _ _)
        refine x_istore_n (ls2 := [(22, l0), (3, 0), (0, 1), (0, l3), (0, l4)]) dX12_isAny_48 rfl (Nat.le_of_ble_eq_true rfl) rfl (?_ : Ex _ _ 49 _ _ _ _ _)
        obtain ⟨c7, h⟩ := chk_some h
        refine x_iinc (ls2 := [(22, l0), (3, 0), (0, 1), (0, l3), (0, (l4 + 1))]) dX12_isAny_49 rfl c7 rfl (?_ : Ex _ _ 52 _ _ _ _ _)
        refine x_goto (tgt := 11) dX12_isAny_52 rfl (?_ : Ex _ _ 11 _ _ _ _ _)
        exact ih h
theorem e_X12_isAny_0 (d : Nat) {l0 l1 : Int} {m : Mem} {v : Int} {m' : Mem} (h : X12_isAny_0 l0 l1 m = some (v, m')) : Ex (d + 1) fm_X12_isAny 0 [(22, l0), (0, l1), (3, 0), (3, 0), (3, 0)] [] m (.inl (0, v)) m' := by
  unfold X12_isAny_0 at h
  refine x_iconst dX12_isAny_0 rfl (by decide) (?_ : Ex _ _ 1 _ _ _ _ _)
  refine x_istore_n (ls2 := [(22, l0), (0, l1), (0, 0), (3, 0), (3, 0)]) dX12_isAny_1 rfl (Nat.le_of_ble_eq_true rfl) rfl (?_ : Ex _ _ 2 _ _ _ _ _)
  refine x_aload_n dX12_isAny_2 rfl rfl (Or.inr (by decide)) (?_ : Ex _ _ 3 _ _ _ _ _)
  refine x_iload_n dX12_isAny_3 rfl rfl (?_ : Ex _ _ 4 _ _ _ _ _)
  obtain ⟨c1, h⟩ := chk_some h
  obtain ⟨v2, m3, g4, h⟩ := cal_some h
  refine cV1 (e_X12_rowOfRun d g4) (contN (by decide) (?_ : Ex _ _ 7 _ _ _ _ _)) og_X12_rowOfRun rfl ml_RX12_205 12 rfl rfl c1 im_X12_rowOfRun se_X12_rowOfRun (Nat.le_of_ble_eq_true rfl) dX12_isAny_4
  refine x_istore_n (ls2 := [(22, l0), (0, l1), (0, 0), (0, v2), (3, 0)]) dX12_isAny_7 rfl (Nat.le_of_ble_eq_true rfl) rfl (?_ : Ex _ _ 8 _ _ _ _ _)
  refine x_iconst dX12_isAny_8 rfl (by decide) (?_ : Ex _ _ 9 _ _ _ _ _)
  refine x_istore (ls2 := [(22, l0), (0, l1), (0, 0), (0, v2), (0, 0)]) dX12_isAny_9 (Nat.le_of_ble_eq_true rfl) rfl (?_ : Ex _ _ 11 _ _ _ _ _)
  refine Ex.wk (ls2 := [(22, l0), (3, 0), (0, 0), (0, v2), (0, 0)]) ⟨Or.inr rfl, Or.inl rfl, Or.inr rfl, Or.inr rfl, Or.inr rfl, trivial⟩ ?_
  exact e_X12_isAny_11 d fuel9 h
theorem e_X12_isAny (d : Nat) {a0 a1 : Int} {m : Mem} {v : Int} {m' : Mem} (h : X12_isAny a0 a1 m = some (v, m')) : ExM (d + 1) fm_X12_isAny [(22, a0), (0, a1)] m (.inl (0, v)) m' := by
  obtain ⟨hb, h⟩ := boolR_some h
  exact ExM.of (by decide +kernel) (Nat.le_of_ble_eq_true rfl) (cat9 rfl) (retZ hb) (e_X12_isAny_0 d h)
theorem dX12_isDueNow_0 : decode cX12_isDueNow 0 = .ok (.aload_n 0, 1) := by decide +kernel
theorem dX12_isDueNow_1 : decode cX12_isDueNow 1 = .ok (.iload_n 1, 1) := by decide +kernel
theorem dX12_isDueNow_2 : decode cX12_isDueNow 2 = .ok (.invokevirtual 205, 3) := by decide +kernel
theorem dX12_isDueNow_5 : decode cX12_isDueNow 5 = .ok (.istore_n 2, 1) := by decide +kernel
theorem dX12_isDueNow_6 : decode cX12_isDueNow 6 = .ok (.aload_n 0, 1) := by decide +kernel
theorem dX12_isDueNow_7 : decode cX12_isDueNow 7 = .ok (.iload_n 1, 1) := by decide +kernel
theorem dX12_isDueNow_8 : decode cX12_isDueNow 8 = .ok (.invokevirtual 209, 3) := by decide +kernel
theorem dX12_isDueNow_11 : decode cX12_isDueNow 11 = .ok (.ifCond .eq 30, 3) := by decide +kernel
theorem dX12_isDueNow_14 : decode cX12_isDueNow 14 = .ok (.aload_n 0, 1) := by decide +kernel
theorem dX12_isDueNow_15 : decode cX12_isDueNow 15 = .ok (.getfield 58, 3) := by decide +kernel
theorem dX12_isDueNow_18 : decode cX12_isDueNow 18 = .ok (.bipush 80, 2) := by decide +kernel
theorem dX12_isDueNow_20 : decode cX12_isDueNow 20 = .ok (.iload_n 2, 1) := by decide +kernel
theorem dX12_isDueNow_21 : decode cX12_isDueNow 21 = .ok (.imul, 1) := by decide +kernel
theorem dX12_isDueNow_22 : decode cX12_isDueNow 22 = .ok (.aload_n 0, 1) := by decide +kernel
theorem dX12_isDueNow_23 : decode cX12_isDueNow 23 = .ok (.getfield 55, 3) := by decide +kernel
theorem dX12_isDueNow_26 : decode cX12_isDueNow 26 = .ok (.iload_n 2, 1) := by decide +kernel
theorem dX12_isDueNow_27 : decode cX12_isDueNow 27 = .ok (.iaload, 1) := by decide +kernel
theorem dX12_isDueNow_28 : decode cX12_isDueNow 28 = .ok (.iadd, 1) := by decide +kernel
theorem dX12_isDueNow_29 : decode cX12_isDueNow 29 = .ok (.iconst 1, 1) := by decide +kernel
theorem dX12_isDueNow_30 : decode cX12_isDueNow 30 = .ok (.isub, 1) := by decide +kernel
theorem dX12_isDueNow_31 : decode cX12_isDueNow 31 = .ok (.iaload, 1) := by decide +kernel
theorem dX12_isDueNow_32 : decode cX12_isDueNow 32 = .ok (.bipush 7, 2) := by decide +kernel
theorem dX12_isDueNow_34 : decode cX12_isDueNow 34 = .ok (.if_icmp .ge 7, 3) := by decide +kernel
theorem dX12_isDueNow_37 : decode cX12_isDueNow 37 = .ok (.iconst 1, 1) := by decide +kernel
theorem dX12_isDueNow_38 : decode cX12_isDueNow 38 = .ok (.goto 4, 3) := by decide +kernel
theorem dX12_isDueNow_41 : decode cX12_isDueNow 41 = .ok (.iconst 0, 1) := by decide +kernel
theorem dX12_isDueNow_42 : decode cX12_isDueNow 42 = .ok (.ireturn, 1) := by decide +kernel
theorem e_X12_isDueNow_0 (d : Nat) {l0 l1 : Int} {m : Mem} {v : Int} {m' : Mem} (h : X12_isDueNow_0 l0 l1 m = some (v, m')) : Ex (d + 2) fm_X12_isDueNow 0 [(22, l0), (0, l1), (3, 0)] [] m (.inl (0, v)) m' := by
  unfold X12_isDueNow_0 at h
  refine x_aload_n dX12_isDueNow_0 rfl rfl (Or.inr (by decide)) (?_ : Ex _ _ 1 _ _ _ _ _)
  refine x_iload_n dX12_isDueNow_1 rfl rfl (?_ : Ex _ _ 2 _ _ _ _ _)
  obtain ⟨c1, h⟩ := chk_some h
  obtain ⟨v2, m3, g4, h⟩ := cal_some h
  refine cV1 (e_X12_rowOfRun (d + 1) g4) (contN (by decide) (?_ : Ex _ _ 5 _ _ _ _ _)) og_X12_rowOfRun rfl ml_RX12_205 12 rfl rfl c1 im_X12_rowOfRun se_X12_rowOfRun (Nat.le_of_ble_eq_true rfl) dX12_isDueNow_2
  refine x_istore_n (ls2 := [(22, l0), (0, l1), (0, v2)]) dX12_isDueNow_5 rfl (Nat.le_of_ble_eq_true rfl) rfl (?_ : Ex _ _ 6 _ _ _ _ _)
  refine x_aload_n dX12_isDueNow_6 rfl rfl (Or.inr (by decide)) (?_ : Ex _ _ 7 _ _ _ _ _)
  refine x_iload_n dX12_isDueNow_7 rfl rfl (?_ : Ex _ _ 8 _ _ _ _ _)
  obtain ⟨v5, m6, g7, h⟩ := cal_some h
  refine cV1 (e_X12_isRunning d g7) (contN (by decide) (?_ : Ex _ _ 11 _ _ _ _ _)) og_X12_isRunning rfl ml_RX12_209 12 rfl rfl c1 im_X12_isRunning se_X12_isRunning (Nat.le_of_ble_eq_true rfl) dX12_isDueNow_8
  rcases ite_some h with ⟨b8, h⟩ | ⟨b8, h⟩
  · refine x_if_eq (tgt := 41) dX12_isDueNow_11 rfl b8 (?_ : Ex _ _ 41 _ _ _ _ _)
    refine x_iconst dX12_isDueNow_41 rfl (by decide) (?_ : Ex _ _ 42 _ _ _ _ _)
    cases h
    exact x_ret dX12_isDueNow_42 (by decide : (0 : Int) ≠ 3)
  · refine x_if_eqN dX12_isDueNow_11 (by decide) b8 (?_ : Ex _ _ 14 _ _ _ _ _)
    refine x_aload_n dX12_isDueNow_14 rfl rfl (Or.inr (by decide)) (?_ : Ex _ _ 15 _ _ _ _ _)
    refine gt_12_19 c1 fl_RX12_58 dX12_isDueNow_15 (?_ : Ex _ _ 18 _ _ _ _ _)
    refine x_bipush dX12_isDueNow_18 kb_80 (by decide) (?_ : Ex _ _ 20 _ _ _ _ _)
    refine x_iload_n dX12_isDueNow_20 rfl rfl (?_ : Ex _ _ 21 _ _ _ _ _)
    obtain ⟨c9, h⟩ := chk_some h
    refine x_imul dX12_isDueNow_21 c9 (?_ : Ex _ _ 22 _ _ _ _ _)
    refine x_aload_n dX12_isDueNow_22 rfl rfl (Or.inr (by decide)) (?_ : Ex _ _ 23 _ _ _ _ _)
    refine gt_12_18 c1 fl_RX12_55 dX12_isDueNow_23 (?_ : Ex _ _ 26 _ _ _ _ _)
    refine x_iload_n dX12_isDueNow_26 rfl rfl (?_ : Ex _ _ 27 _ _ _ _ _)
    obtain ⟨⟨c10, c11, c12⟩, h⟩ := chk_some h
    refine ld_i_90 c10 c11 c12 dX12_isDueNow_27 (?_ : Ex _ _ 28 _ _ _ _ _)
    obtain ⟨c13, h⟩ := chk_some h
    refine x_iadd dX12_isDueNow_28 c13 (?_ : Ex _ _ 29 _ _ _ _ _)
    refine x_iconst dX12_isDueNow_29 rfl (by decide) (?_ : Ex _ _ 30 _ _ _ _ _)
    obtain ⟨c14, h⟩ := chk_some h
    refine x_isub dX12_isDueNow_30 c14 (?_ : Ex _ _ 31 _ _ _ _ _)
    obtain ⟨⟨c15, c16, c17⟩, h⟩ := chk_some h
    refine ld_i_7200 c15 c16 c17 dX12_isDueNow_31 (?_ : Ex _ _ 32 _ _ _ _ _)
    refine x_bipush dX12_isDueNow_32 kb_7 (by decide) (?_ : Ex _ _ 34 _ _ _ _ _)
    rcases ite_some h with ⟨b18, h⟩ | ⟨b18, h⟩
    · refine x_icmp_ge (tgt := 41) dX12_isDueNow_34 rfl b18 (?_ : Ex _ _ 41 _ _ _ _ _)
      refine x_iconst dX12_isDueNow_41 rfl (by decide) (?_ : Ex _ _ 42 _ _ _ _ _)
      cases h
      exact x_ret dX12_isDueNow_42 (by decide : (0 : Int) ≠ 3)
    · refine x_icmp_geN dX12_isDueNow_34 (by decide) b18 (?_ : Ex _ _ 37 _ _ _ _ _)
      refine x_iconst dX12_isDueNow_37 rfl (by decide) (?_ : Ex _ _ 38 _ _ _ _ _)
      refine x_goto (tgt := 42) dX12_isDueNow_38 rfl (?_ : Ex _ _ 42 _ _ _ _ _)
      cases h
      exact x_ret dX12_isDueNow_42 (by decide : (0 : Int) ≠ 3)
theorem e_X12_isDueNow (d : Nat) {a0 a1 : Int} {m : Mem} {v : Int} {m' : Mem} (h : X12_isDueNow a0 a1 m = some (v, m')) : ExM (d + 2) fm_X12_isDueNow [(22, a0), (0, a1)] m (.inl (0, v)) m' := by
  obtain ⟨hb, h⟩ := boolR_some h
  exact ExM.of (by decide +kernel) (Nat.le_of_ble_eq_true rfl) (cat9 rfl) (retZ hb) (e_X12_isDueNow_0 d h)
theorem dX12_takesOff_0 : decode cX12_takesOff 0 = .ok (.aload_n 0, 1) := by decide +kernel
theorem dX12_takesOff_1 : decode cX12_takesOff 1 = .ok (.getfield 70, 3) := by decide +kernel
theorem dX12_takesOff_4 : decode cX12_takesOff 4 = .ok (.bipush 80, 2) := by decide +kernel
theorem dX12_takesOff_6 : decode cX12_takesOff 6 = .ok (.iload_n 1, 1) := by decide +kernel
theorem dX12_takesOff_7 : decode cX12_takesOff 7 = .ok (.imul, 1) := by decide +kernel
theorem dX12_takesOff_8 : decode cX12_takesOff 8 = .ok (.iload_n 2, 1) := by decide +kernel
theorem dX12_takesOff_9 : decode cX12_takesOff 9 = .ok (.iadd, 1) := by decide +kernel
theorem dX12_takesOff_10 : decode cX12_takesOff 10 = .ok (.iconst 0, 1) := by decide +kernel
theorem dX12_takesOff_11 : decode cX12_takesOff 11 = .ok (.iastore, 1) := by decide +kernel
theorem dX12_takesOff_12 : decode cX12_takesOff 12 = .ok (.iconst 0, 1) := by decide +kernel
theorem dX12_takesOff_13 : decode cX12_takesOff 13 = .ok (.istore_n 3, 1) := by decide +kernel
theorem dX12_takesOff_14 : decode cX12_takesOff 14 = .ok (.iload_n 3, 1) := by decide +kernel
theorem dX12_takesOff_15 : decode cX12_takesOff 15 = .ok (.iconst 4, 1) := by decide +kernel
theorem dX12_takesOff_16 : decode cX12_takesOff 16 = .ok (.if_icmp .ge 40, 3) := by decide +kernel
theorem dX12_takesOff_19 : decode cX12_takesOff 19 = .ok (.aload_n 0, 1) := by decide +kernel
theorem dX12_takesOff_20 : decode cX12_takesOff 20 = .ok (.getfield 116, 3) := by decide +kernel
theorem dX12_takesOff_23 : decode cX12_takesOff 23 = .ok (.iload_n 3, 1) := by decide +kernel
theorem dX12_takesOff_24 : decode cX12_takesOff 24 = .ok (.aload_n 0, 1) := by decide +kernel
theorem dX12_takesOff_25 : decode cX12_takesOff 25 = .ok (.getfield 116, 3) := by decide +kernel
theorem dX12_takesOff_28 : decode cX12_takesOff 28 = .ok (.iload_n 3, 1) := by decide +kernel
theorem dX12_takesOff_29 : decode cX12_takesOff 29 = .ok (.iaload, 1) := by decide +kernel
theorem dX12_takesOff_30 : decode cX12_takesOff 30 = .ok (.bipush 80, 2) := by decide +kernel
theorem dX12_takesOff_32 : decode cX12_takesOff 32 = .ok (.iload_n 1, 1) := by decide +kernel
theorem dX12_takesOff_33 : decode cX12_takesOff 33 = .ok (.imul, 1) := by decide +kernel
theorem dX12_takesOff_34 : decode cX12_takesOff 34 = .ok (.iload_n 2, 1) := by decide +kernel
theorem dX12_takesOff_35 : decode cX12_takesOff 35 = .ok (.iadd, 1) := by decide +kernel
theorem dX12_takesOff_36 : decode cX12_takesOff 36 = .ok (.if_icmp .ne 7, 3) := by decide +kernel
theorem dX12_takesOff_39 : decode cX12_takesOff 39 = .ok (.iconst (-1), 1) := by decide +kernel
theorem dX12_takesOff_40 : decode cX12_takesOff 40 = .ok (.goto 9, 3) := by decide +kernel
theorem dX12_takesOff_43 : decode cX12_takesOff 43 = .ok (.aload_n 0, 1) := by decide +kernel
theorem dX12_takesOff_44 : decode cX12_takesOff 44 = .ok (.getfield 116, 3) := by decide +kernel
theorem dX12_takesOff_47 : decode cX12_takesOff 47 = .ok (.iload_n 3, 1) := by decide +kernel
theorem dX12_takesOff_48 : decode cX12_takesOff 48 = .ok (.iaload, 1) := by decide +kernel
theorem dX12_takesOff_49 : decode cX12_takesOff 49 = .ok (.iastore, 1) := by decide +kernel
theorem dX12_takesOff_50 : decode cX12_takesOff 50 = .ok (.iinc 3 1, 3) := by decide +kernel
theorem dX12_takesOff_53 : decode cX12_takesOff 53 = .ok (.goto (-39), 3) := by decide +kernel
theorem dX12_takesOff_56 : decode cX12_takesOff 56 = .ok (.return_, 1) := by decide +kernel
theorem e_X12_takesOff_14 (d : Nat) : ∀ (n : Nat) {l0 l1 l2 l3 : Int} {m : Mem} {v : Int} {m' : Mem}, X12_takesOff_14 n l0 l1 l2 l3 m = some (v, m') → Ex d fm_X12_takesOff 14 [(22, l0), (0, l1), (0, l2), (0, l3)] [] m (.inl (3, 0)) m' := by
  intro n
  induction n with
  | zero =>
    intro l0 l1 l2 l3 m v m' h
    have h : (none : Option R2) = some _ := h
    cases h
  | succ n ih =>
    intro l0 l1 l2 l3 m v m' h
    rw [X12_takesOff_14] at h
    refine x_iload_n dX12_takesOff_14 rfl rfl (?_ : Ex _ _ 15 _ _ _ _ _)
    refine x_iconst dX12_takesOff_15 rfl (by decide) (?_ : Ex _ _ 16 _ _ _ _ _)
    rcases ite_some h with ⟨b1, h⟩ | ⟨b1, h⟩
    · refine x_icmp_ge (tgt := 56) dX12_takesOff_16 rfl b1 (?_ : Ex _ _ 56 _ _ _ _ _)
      cases h
      exact x_retv dX12_takesOff_56
    · refine x_icmp_geN dX12_takesOff_16 (by decide) b1 (?_ : Ex _ _ 19 _ _ _ _ _)
      refine x_aload_n dX12_takesOff_19 rfl rfl (Or.inr (by decide)) (?_ : Ex _ _ 20 _ _ _ _ _)
      obtain ⟨c2, h⟩ := chk_some h
      refine gt_12_39 c2 fl_RX12_116 dX12_takesOff_20 (?_ : Ex _ _ 23 _ _ _ _ _)
      refine x_iload_n dX12_takesOff_23 rfl rfl (?_ : Ex _ _ 24 _ _ _ _ _)
      refine x_aload_n dX12_takesOff_24 rfl rfl (Or.inr (by decide)) (?_ : Ex _ _ 25 _ _ _ _ _)
      refine gt_12_39 c2 fl_RX12_116 dX12_takesOff_25 (?_ : Ex _ _ 28 _ _ _ _ _)
      refine x_iload_n dX12_takesOff_28 rfl rfl (?_ : Ex _ _ 29 _ _ _ _ _)
      obtain ⟨⟨c3, c4, c5⟩, h⟩ := chk_some h
      refine ld_i_4 c3 c4 c5 dX12_takesOff_29 (?_ : Ex _ _ 30 _ _ _ _ _)
      refine x_bipush dX12_takesOff_30 kb_80 (by decide) (?_ : Ex _ _ 32 _ _ _ _ _)
      refine x_iload_n dX12_takesOff_32 rfl rfl (?_ : Ex _ _ 33 _ _ _ _ _)
      obtain ⟨c6, h⟩ := chk_some h
      refine x_imul dX12_takesOff_33 c6 (?_ : Ex _ _ 34 _ _ _ _ _)
      refine x_iload_n dX12_takesOff_34 rfl rfl (?_ : Ex _ _ 35 _ _ _ _ _)
      obtain ⟨c7, h⟩ := chk_some h
      refine x_iadd dX12_takesOff_35 c7 (?_ : Ex _ _ 36 _ _ _ _ _)
      rcases ite_some h with ⟨b8, h⟩ | ⟨b8, h⟩
      · refine x_icmp_neN dX12_takesOff_36 (by decide) (fun hh => hh b8) (?_ : Ex _ _ 39 _ _ _ _ _)
        refine x_iconst dX12_takesOff_39 rfl (by decide) (?_ : Ex _ _ 40 _ _ _ _ _)
        refine x_goto (tgt := 49) dX12_takesOff_40 rfl (?_ : Ex _ _ 49 _ _ _ _ _)
        obtain ⟨⟨c15, c16⟩, h⟩ := chk_some h
        obtain ⟨m17, hm17, h⟩ := st_some h
        refine sd_i_4 c3 c15 c16 dX12_takesOff_49 (?_ : Ex _ _ 50 _ _ _ _ _)
        rw [← hm17]
        obtain ⟨c18, h⟩ := chk_some h
        refine x_iinc (ls2 := [(22, l0), (0, l1), (0, l2), (0, (l3 + 1))]) dX12_takesOff_50 rfl c18 rfl (?_ : Ex _ _ 53 _ _ _ _ _)
        refine x_goto (tgt := 14) dX12_takesOff_53 rfl (?_ : Ex _ _ 14 _ _ _ _ _)
        exact ih h
      · refine x_icmp_ne (tgt := 43) dX12_takesOff_36 rfl b8 (?_ : Ex _ _ 43 _ _ _ _ _)
        refine x_aload_n dX12_takesOff_43 rfl rfl (Or.inr (by decide)) (?_ : Ex _ _ 44 _ _ _ _ _)
        refine gt_12_39 c2 fl_RX12_116 dX12_takesOff_44 (?_ : Ex _ _ 47 _ _ _ _ _)
        refine x_iload_n dX12_takesOff_47 rfl rfl (?_ : Ex _ _ 48 _ _ _ _ _)
        obtain ⟨⟨c9, c10⟩, h⟩ := chk_some h
        refine ld_i_4 c3 c9 c10 dX12_takesOff_48 (?_ : Ex _ _ 49 _ _ _ _ _)
        obtain ⟨⟨c11, c12⟩, h⟩ := chk_some h
        obtain ⟨m13, hm13, h⟩ := st_some h
        refine sd_i_4 c3 c11 c12 dX12_takesOff_49 (?_ : Ex _ _ 50 _ _ _ _ _)
        rw [← hm13]
        obtain ⟨c14, h⟩ := chk_some h
        refine x_iinc (ls2 := [(22, l0), (0, l1), (0, l2), (0, (l3 + 1))]) dX12_takesOff_50 rfl c14 rfl (?_ : Ex _ _ 53 _ _ _ _ _)
        refine x_goto (tgt := 14) dX12_takesOff_53 rfl (?_ : Ex _ _ 14 _ _ _ _ _)
        exact ih h
theorem e_X12_takesOff_0 (d : Nat) {l0 l1 l2 : Int} {m : Mem} {v : Int} {m' : Mem} (h : X12_takesOff_0 l0 l1 l2 m = some (v, m')) : Ex d fm_X12_takesOff 0 [(22, l0), (0, l1), (0, l2), (3, 0)] [] m (.inl (3, 0)) m' := by
  unfold X12_takesOff_0 at h
  refine x_aload_n dX12_takesOff_0 rfl rfl (Or.inr (by decide)) (?_ : Ex _ _ 1 _ _ _ _ _)
  obtain ⟨c1, h⟩ := chk_some h
  refine gt_12_23 c1 fl_RX12_70 dX12_takesOff_1 (?_ : Ex _ _ 4 _ _ _ _ _)
  refine x_bipush dX12_takesOff_4 kb_80 (by decide) (?_ : Ex _ _ 6 _ _ _ _ _)
  refine x_iload_n dX12_takesOff_6 rfl rfl (?_ : Ex _ _ 7 _ _ _ _ _)
  obtain ⟨c2, h⟩ := chk_some h
  refine x_imul dX12_takesOff_7 c2 (?_ : Ex _ _ 8 _ _ _ _ _)
  refine x_iload_n dX12_takesOff_8 rfl rfl (?_ : Ex _ _ 9 _ _ _ _ _)
  obtain ⟨c3, h⟩ := chk_some h
  refine x_iadd dX12_takesOff_9 c3 (?_ : Ex _ _ 10 _ _ _ _ _)
  refine x_iconst dX12_takesOff_10 rfl (by decide) (?_ : Ex _ _ 11 _ _ _ _ _)
  obtain ⟨⟨c4, c5, c6⟩, h⟩ := chk_some h
  obtain ⟨m7, hm7, h⟩ := st_some h
  refine sd_i_800 c4 c5 c6 dX12_takesOff_11 (?_ : Ex _ _ 12 _ _ _ _ _)
  rw [← hm7]
  refine x_iconst dX12_takesOff_12 rfl (by decide) (?_ : Ex _ _ 13 _ _ _ _ _)
  refine x_istore_n (ls2 := [(22, l0), (0, l1), (0, l2), (0, 0)]) dX12_takesOff_13 rfl (Nat.le_of_ble_eq_true rfl) rfl (?_ : Ex _ _ 14 _ _ _ _ _)
  exact e_X12_takesOff_14 d fuel9 h
theorem e_X12_takesOff (d : Nat) {a0 a1 a2 : Int} {m : Mem} {v : Int} {m' : Mem} (h : X12_takesOff a0 a1 a2 m = some (v, m')) : ExM d fm_X12_takesOff [(22, a0), (0, a1), (0, a2)] m (.inl (3, 0)) m' := by
  exact ExM.of (by decide +kernel) (Nat.le_of_ble_eq_true rfl) (cat9 rfl) retV (e_X12_takesOff_0 d h)
theorem dX12_putsActivity_0 : decode cX12_putsActivity 0 = .ok (.bipush 80, 2) := by decide +kernel
theorem dX12_putsActivity_2 : decode cX12_putsActivity 2 = .ok (.iload_n 1, 1) := by decide +kernel
theorem dX12_putsActivity_3 : decode cX12_putsActivity 3 = .ok (.imul, 1) := by decide +kernel
theorem dX12_putsActivity_4 : decode cX12_putsActivity 4 = .ok (.aload_n 0, 1) := by decide +kernel
theorem dX12_putsActivity_5 : decode cX12_putsActivity 5 = .ok (.getfield 67, 3) := by decide +kernel
theorem dX12_putsActivity_8 : decode cX12_putsActivity 8 = .ok (.iload_n 1, 1) := by decide +kernel
theorem dX12_putsActivity_9 : decode cX12_putsActivity 9 = .ok (.iaload, 1) := by decide +kernel
theorem dX12_putsActivity_10 : decode cX12_putsActivity 10 = .ok (.iadd, 1) := by decide +kernel
theorem dX12_putsActivity_11 : decode cX12_putsActivity 11 = .ok (.istore_n 3, 1) := by decide +kernel
theorem dX12_putsActivity_12 : decode cX12_putsActivity 12 = .ok (.aload_n 0, 1) := by decide +kernel
theorem dX12_putsActivity_13 : decode cX12_putsActivity 13 = .ok (.getfield 70, 3) := by decide +kernel
theorem dX12_putsActivity_16 : decode cX12_putsActivity 16 = .ok (.iload_n 3, 1) := by decide +kernel
theorem dX12_putsActivity_17 : decode cX12_putsActivity 17 = .ok (.iconst 1, 1) := by decide +kernel
theorem dX12_putsActivity_18 : decode cX12_putsActivity 18 = .ok (.iastore, 1) := by decide +kernel
theorem dX12_putsActivity_19 : decode cX12_putsActivity 19 = .ok (.aload_n 0, 1) := by decide +kernel
theorem dX12_putsActivity_20 : decode cX12_putsActivity 20 = .ok (.getfield 73, 3) := by decide +kernel
theorem dX12_putsActivity_23 : decode cX12_putsActivity 23 = .ok (.iload_n 3, 1) := by decide +kernel
theorem dX12_putsActivity_24 : decode cX12_putsActivity 24 = .ok (.iload_n 2, 1) := by decide +kernel
theorem dX12_putsActivity_25 : decode cX12_putsActivity 25 = .ok (.iastore, 1) := by decide +kernel
theorem dX12_putsActivity_26 : decode cX12_putsActivity 26 = .ok (.aload_n 0, 1) := by decide +kernel
theorem dX12_putsActivity_27 : decode cX12_putsActivity 27 = .ok (.getfield 76, 3) := by decide +kernel
theorem dX12_putsActivity_30 : decode cX12_putsActivity 30 = .ok (.iload_n 3, 1) := by decide +kernel
theorem dX12_putsActivity_31 : decode cX12_putsActivity 31 = .ok (.iconst 0, 1) := by decide +kernel
theorem dX12_putsActivity_32 : decode cX12_putsActivity 32 = .ok (.iastore, 1) := by decide +kernel
theorem dX12_putsActivity_33 : decode cX12_putsActivity 33 = .ok (.aload_n 0, 1) := by decide +kernel
theorem dX12_putsActivity_34 : decode cX12_putsActivity 34 = .ok (.getfield 79, 3) := by decide +kernel
theorem dX12_putsActivity_37 : decode cX12_putsActivity 37 = .ok (.iload_n 3, 1) := by decide +kernel
theorem dX12_putsActivity_38 : decode cX12_putsActivity 38 = .ok (.aload_n 0, 1) := by decide +kernel
theorem dX12_putsActivity_39 : decode cX12_putsActivity 39 = .ok (.getfield 395, 3) := by decide +kernel
theorem dX12_putsActivity_42 : decode cX12_putsActivity 42 = .ok (.iastore, 1) := by decide +kernel
theorem dX12_putsActivity_43 : decode cX12_putsActivity 43 = .ok (.aload_n 0, 1) := by decide +kernel
theorem dX12_putsActivity_44 : decode cX12_putsActivity 44 = .ok (.getfield 85, 3) := by decide +kernel
theorem dX12_putsActivity_47 : decode cX12_putsActivity 47 = .ok (.iload_n 3, 1) := by decide +kernel
theorem dX12_putsActivity_48 : decode cX12_putsActivity 48 = .ok (.aload_n 0, 1) := by decide +kernel
theorem dX12_putsActivity_49 : decode cX12_putsActivity 49 = .ok (.getfield 398, 3) := by decide +kernel
theorem dX12_putsActivity_52 : decode cX12_putsActivity 52 = .ok (.iastore, 1) := by decide +kernel
theorem dX12_putsActivity_53 : decode cX12_putsActivity 53 = .ok (.aload_n 0, 1) := by decide +kernel
theorem dX12_putsActivity_54 : decode cX12_putsActivity 54 = .ok (.dup, 1) := by decide +kernel
theorem dX12_putsActivity_55 : decode cX12_putsActivity 55 = .ok (.getfield 398, 3) := by decide +kernel
theorem dX12_putsActivity_58 : decode cX12_putsActivity 58 = .ok (.iconst 1, 1) := by decide +kernel
theorem dX12_putsActivity_59 : decode cX12_putsActivity 59 = .ok (.iadd, 1) := by decide +kernel
theorem dX12_putsActivity_60 : decode cX12_putsActivity 60 = .ok (.putfield 398, 3) := by decide +kernel
theorem dX12_putsActivity_63 : decode cX12_putsActivity 63 = .ok (.aload_n 0, 1) := by decide +kernel
theorem dX12_putsActivity_64 : decode cX12_putsActivity 64 = .ok (.getfield 67, 3) := by decide +kernel
theorem dX12_putsActivity_67 : decode cX12_putsActivity 67 = .ok (.iload_n 1, 1) := by decide +kernel
theorem dX12_putsActivity_68 : decode cX12_putsActivity 68 = .ok (.dup2, 1) := by decide +kernel
theorem dX12_putsActivity_69 : decode cX12_putsActivity 69 = .ok (.iaload, 1) := by decide +kernel
theorem dX12_putsActivity_70 : decode cX12_putsActivity 70 = .ok (.iconst 1, 1) := by decide +kernel
theorem dX12_putsActivity_71 : decode cX12_putsActivity 71 = .ok (.iadd, 1) := by decide +kernel
theorem dX12_putsActivity_72 : decode cX12_putsActivity 72 = .ok (.iastore, 1) := by decide +kernel
theorem dX12_putsActivity_73 : decode cX12_putsActivity 73 = .ok (.return_, 1) := by decide +kernel
theorem e_X12_putsActivity_0 (d : Nat) {l0 l1 l2 : Int} {m : Mem} {v : Int} {m' : Mem} (h : X12_putsActivity_0 l0 l1 l2 m = some (v, m')) : Ex d fm_X12_putsActivity 0 [(22, l0), (0, l1), (0, l2), (3, 0)] [] m (.inl (3, 0)) m' := by
  unfold X12_putsActivity_0 at h
  refine x_bipush dX12_putsActivity_0 kb_80 (by decide) (?_ : Ex _ _ 2 _ _ _ _ _)
  refine x_iload_n dX12_putsActivity_2 rfl rfl (?_ : Ex _ _ 3 _ _ _ _ _)
  obtain ⟨c1, h⟩ := chk_some h
  refine x_imul dX12_putsActivity_3 c1 (?_ : Ex _ _ 4 _ _ _ _ _)
  refine x_aload_n dX12_putsActivity_4 rfl rfl (Or.inr (by decide)) (?_ : Ex _ _ 5 _ _ _ _ _)
  obtain ⟨c2, h⟩ := chk_some h
  refine gt_12_22 c2 fl_RX12_67 dX12_putsActivity_5 (?_ : Ex _ _ 8 _ _ _ _ _)
  refine x_iload_n dX12_putsActivity_8 rfl rfl (?_ : Ex _ _ 9 _ _ _ _ _)
  obtain ⟨⟨c3, c4, c5⟩, h⟩ := chk_some h
  refine ld_i_10 c3 c4 c5 dX12_putsActivity_9 (?_ : Ex _ _ 10 _ _ _ _ _)
  obtain ⟨c6, h⟩ := chk_some h
  refine x_iadd dX12_putsActivity_10 c6 (?_ : Ex _ _ 11 _ _ _ _ _)
  refine x_istore_n (ls2 := [(22, l0), (0, l1), (0, l2), (0, ((80 * l1) + m (m l0 22) l1))]) dX12_putsActivity_11 rfl (Nat.le_of_ble_eq_true rfl) rfl (?_ : Ex _ _ 12 _ _ _ _ _)
  refine x_aload_n dX12_putsActivity_12 rfl rfl (Or.inr (by decide)) (?_ : Ex _ _ 13 _ _ _ _ _)
  refine gt_12_23 c2 fl_RX12_70 dX12_putsActivity_13 (?_ : Ex _ _ 16 _ _ _ _ _)
  refine x_iload_n dX12_putsActivity_16 rfl rfl (?_ : Ex _ _ 17 _ _ _ _ _)
  refine x_iconst dX12_putsActivity_17 rfl (by decide) (?_ : Ex _ _ 18 _ _ _ _ _)
  obtain ⟨⟨c7, c8, c9⟩, h⟩ := chk_some h
  obtain ⟨m10, hm10, h⟩ := st_some h
  refine sd_i_800 c7 c8 c9 dX12_putsActivity_18 (?_ : Ex _ _ 19 _ _ _ _ _)
  rw [← hm10]
  refine x_aload_n dX12_putsActivity_19 rfl rfl (Or.inr (by decide)) (?_ : Ex _ _ 20 _ _ _ _ _)
  refine gt_12_24 c2 fl_RX12_73 dX12_putsActivity_20 (?_ : Ex _ _ 23 _ _ _ _ _)
  refine x_iload_n dX12_putsActivity_23 rfl rfl (?_ : Ex _ _ 24 _ _ _ _ _)
  refine x_iload_n dX12_putsActivity_24 rfl rfl (?_ : Ex _ _ 25 _ _ _ _ _)
  obtain ⟨⟨c11, c12, c13⟩, h⟩ := chk_some h
  obtain ⟨m14, hm14, h⟩ := st_some h
  refine sd_i_800 c11 c12 c13 dX12_putsActivity_25 (?_ : Ex _ _ 26 _ _ _ _ _)
  rw [← hm14]
  refine x_aload_n dX12_putsActivity_26 rfl rfl (Or.inr (by decide)) (?_ : Ex _ _ 27 _ _ _ _ _)
  refine gt_12_25 c2 fl_RX12_76 dX12_putsActivity_27 (?_ : Ex _ _ 30 _ _ _ _ _)
  refine x_iload_n dX12_putsActivity_30 rfl rfl (?_ : Ex _ _ 31 _ _ _ _ _)
  refine x_iconst dX12_putsActivity_31 rfl (by decide) (?_ : Ex _ _ 32 _ _ _ _ _)
  obtain ⟨⟨c15, c16, c17⟩, h⟩ := chk_some h
  obtain ⟨m18, hm18, h⟩ := st_some h
  refine sd_i_800 c15 c16 c17 dX12_putsActivity_32 (?_ : Ex _ _ 33 _ _ _ _ _)
  rw [← hm18]
  refine x_aload_n dX12_putsActivity_33 rfl rfl (Or.inr (by decide)) (?_ : Ex _ _ 34 _ _ _ _ _)
  refine gt_12_26 c2 fl_RX12_79 dX12_putsActivity_34 (?_ : Ex _ _ 37 _ _ _ _ _)
  refine x_iload_n dX12_putsActivity_37 rfl rfl (?_ : Ex _ _ 38 _ _ _ _ _)
  refine x_aload_n dX12_putsActivity_38 rfl rfl (Or.inr (by decide)) (?_ : Ex _ _ 39 _ _ _ _ _)
  refine gt_12_1 c2 fl_RX12_395 dX12_putsActivity_39 (?_ : Ex _ _ 42 _ _ _ _ _)
  obtain ⟨⟨c19, c20, c21⟩, h⟩ := chk_some h
  obtain ⟨m22, hm22, h⟩ := st_some h
  refine sd_i_800 c19 c20 c21 dX12_putsActivity_42 (?_ : Ex _ _ 43 _ _ _ _ _)
  rw [← hm22]
  refine x_aload_n dX12_putsActivity_43 rfl rfl (Or.inr (by decide)) (?_ : Ex _ _ 44 _ _ _ _ _)
  refine gt_12_28 c2 fl_RX12_85 dX12_putsActivity_44 (?_ : Ex _ _ 47 _ _ _ _ _)
  refine x_iload_n dX12_putsActivity_47 rfl rfl (?_ : Ex _ _ 48 _ _ _ _ _)
  refine x_aload_n dX12_putsActivity_48 rfl rfl (Or.inr (by decide)) (?_ : Ex _ _ 49 _ _ _ _ _)
  refine gt_12_29 c2 fl_RX12_398 dX12_putsActivity_49 (?_ : Ex _ _ 52 _ _ _ _ _)
  obtain ⟨⟨c23, c24, c25⟩, h⟩ := chk_some h
  obtain ⟨m26, hm26, h⟩ := st_some h
  refine sd_i_800 c23 c24 c25 dX12_putsActivity_52 (?_ : Ex _ _ 53 _ _ _ _ _)
  rw [← hm26]
  refine x_aload_n dX12_putsActivity_53 rfl rfl (Or.inr (by decide)) (?_ : Ex _ _ 54 _ _ _ _ _)
  refine x_dup (by decide : (22 : Int) ≠ 2) dX12_putsActivity_54 (?_ : Ex _ _ 55 _ _ _ _ _)
  refine gt_12_29 c2 fl_RX12_398 dX12_putsActivity_55 (?_ : Ex _ _ 58 _ _ _ _ _)
  refine x_iconst dX12_putsActivity_58 rfl (by decide) (?_ : Ex _ _ 59 _ _ _ _ _)
  obtain ⟨c27, h⟩ := chk_some h
  refine x_iadd dX12_putsActivity_59 c27 (?_ : Ex _ _ 60 _ _ _ _ _)
  obtain ⟨m28, hm28, h⟩ := st_some h
  refine pt_12_29  c2 fl_RX12_398 dX12_putsActivity_60 (?_ : Ex _ _ 63 _ _ _ _ _)
  rw [← hm28]
  refine x_aload_n dX12_putsActivity_63 rfl rfl (Or.inr (by decide)) (?_ : Ex _ _ 64 _ _ _ _ _)
  refine gt_12_22 c2 fl_RX12_67 dX12_putsActivity_64 (?_ : Ex _ _ 67 _ _ _ _ _)
  refine x_iload_n dX12_putsActivity_67 rfl rfl (?_ : Ex _ _ 68 _ _ _ _ _)
  refine x_dup2 (by decide : (0 : Int) ≠ 2) (by decide : (100010 : Int) ≠ 2) dX12_putsActivity_68 (?_ : Ex _ _ 69 _ _ _ _ _)
  obtain ⟨⟨c29, c30, c31⟩, h⟩ := chk_some h
  refine ld_i_10 c29 c30 c31 dX12_putsActivity_69 (?_ : Ex _ _ 70 _ _ _ _ _)
  refine x_iconst dX12_putsActivity_70 rfl (by decide) (?_ : Ex _ _ 71 _ _ _ _ _)
  obtain ⟨c32, h⟩ := chk_some h
  refine x_iadd dX12_putsActivity_71 c32 (?_ : Ex _ _ 72 _ _ _ _ _)
  obtain ⟨⟨c33, c34⟩, h⟩ := chk_some h
  obtain ⟨m35, hm35, h⟩ := st_some h
  refine sd_i_10 c29 c33 c34 dX12_putsActivity_72 (?_ : Ex _ _ 73 _ _ _ _ _)
  rw [← hm35]
  cases h
  exact x_retv dX12_putsActivity_73
theorem e_X12_putsActivity (d : Nat) {a0 a1 a2 : Int} {m : Mem} {v : Int} {m' : Mem} (h : X12_putsActivity a0 a1 a2 m = some (v, m')) : ExM d fm_X12_putsActivity [(22, a0), (0, a1), (0, a2)] m (.inl (3, 0)) m' := by
  exact ExM.of (by decide +kernel) (Nat.le_of_ble_eq_true rfl) (cat9 rfl) retV (e_X12_putsActivity_0 d h)
theorem dX12_setsTimer__0 : decode cX12_setsTimer_ 0 = .ok (.iload_n 3, 1) := by decide +kernel
theorem dX12_setsTimer__1 : decode cX12_setsTimer_ 1 = .ok (.ifCond .eq 38, 3) := by decide +kernel
theorem dX12_setsTimer__4 : decode cX12_setsTimer_ 4 = .ok (.aload_n 0, 1) := by decide +kernel
theorem dX12_setsTimer__5 : decode cX12_setsTimer_ 5 = .ok (.getfield 91, 3) := by decide +kernel
theorem dX12_setsTimer__8 : decode cX12_setsTimer_ 8 = .ok (.bipush 80, 2) := by decide +kernel
theorem dX12_setsTimer__10 : decode cX12_setsTimer_ 10 = .ok (.iload_n 1, 1) := by decide +kernel
theorem dX12_setsTimer__11 : decode cX12_setsTimer_ 11 = .ok (.imul, 1) := by decide +kernel
theorem dX12_setsTimer__12 : decode cX12_setsTimer_ 12 = .ok (.aload_n 0, 1) := by decide +kernel
theorem dX12_setsTimer__13 : decode cX12_setsTimer_ 13 = .ok (.getfield 88, 3) := by decide +kernel
theorem dX12_setsTimer__16 : decode cX12_setsTimer_ 16 = .ok (.iload_n 1, 1) := by decide +kernel
theorem dX12_setsTimer__17 : decode cX12_setsTimer_ 17 = .ok (.iaload, 1) := by decide +kernel
theorem dX12_setsTimer__18 : decode cX12_setsTimer_ 18 = .ok (.iadd, 1) := by decide +kernel
theorem dX12_setsTimer__19 : decode cX12_setsTimer_ 19 = .ok (.aload_n 0, 1) := by decide +kernel
theorem dX12_setsTimer__20 : decode cX12_setsTimer_ 20 = .ok (.getfield 395, 3) := by decide +kernel
theorem dX12_setsTimer__23 : decode cX12_setsTimer_ 23 = .ok (.iload_n 2, 1) := by decide +kernel
theorem dX12_setsTimer__24 : decode cX12_setsTimer_ 24 = .ok (.iadd, 1) := by decide +kernel
theorem dX12_setsTimer__25 : decode cX12_setsTimer_ 25 = .ok (.iastore, 1) := by decide +kernel
theorem dX12_setsTimer__26 : decode cX12_setsTimer_ 26 = .ok (.aload_n 0, 1) := by decide +kernel
theorem dX12_setsTimer__27 : decode cX12_setsTimer_ 27 = .ok (.getfield 88, 3) := by decide +kernel
theorem dX12_setsTimer__30 : decode cX12_setsTimer_ 30 = .ok (.iload_n 1, 1) := by decide +kernel
theorem dX12_setsTimer__31 : decode cX12_setsTimer_ 31 = .ok (.dup2, 1) := by decide +kernel
theorem dX12_setsTimer__32 : decode cX12_setsTimer_ 32 = .ok (.iaload, 1) := by decide +kernel
theorem dX12_setsTimer__33 : decode cX12_setsTimer_ 33 = .ok (.iconst 1, 1) := by decide +kernel
theorem dX12_setsTimer__34 : decode cX12_setsTimer_ 34 = .ok (.iadd, 1) := by decide +kernel
theorem dX12_setsTimer__35 : decode cX12_setsTimer_ 35 = .ok (.iastore, 1) := by decide +kernel
theorem dX12_setsTimer__36 : decode cX12_setsTimer_ 36 = .ok (.goto 15, 3) := by decide +kernel
theorem dX12_setsTimer__39 : decode cX12_setsTimer_ 39 = .ok (.aload_n 0, 1) := by decide +kernel
theorem dX12_setsTimer__40 : decode cX12_setsTimer_ 40 = .ok (.getfield 91, 3) := by decide +kernel
theorem dX12_setsTimer__43 : decode cX12_setsTimer_ 43 = .ok (.bipush 80, 2) := by decide +kernel
theorem dX12_setsTimer__45 : decode cX12_setsTimer_ 45 = .ok (.iload_n 1, 1) := by decide +kernel
theorem dX12_setsTimer__46 : decode cX12_setsTimer_ 46 = .ok (.imul, 1) := by decide +kernel
theorem dX12_setsTimer__47 : decode cX12_setsTimer_ 47 = .ok (.iload_n 2, 1) := by decide +kernel
theorem dX12_setsTimer__48 : decode cX12_setsTimer_ 48 = .ok (.iadd, 1) := by decide +kernel
theorem dX12_setsTimer__49 : decode cX12_setsTimer_ 49 = .ok (.iconst 0, 1) := by decide +kernel
theorem dX12_setsTimer__50 : decode cX12_setsTimer_ 50 = .ok (.iastore, 1) := by decide +kernel
theorem dX12_setsTimer__51 : decode cX12_setsTimer_ 51 = .ok (.return_, 1) := by decide +kernel
theorem e_X12_setsTimer__0 (d : Nat) {l0 l1 l2 l3 : Int} {m : Mem} {v : Int} {m' : Mem} (h : X12_setsTimer__0 l0 l1 l2 l3 m = some (v, m')) : Ex d fm_X12_setsTimer_ 0 [(22, l0), (0, l1), (0, l2), (0, l3)] [] m (.inl (3, 0)) m' := by
  unfold X12_setsTimer__0 at h
  refine x_iload_n dX12_setsTimer__0 rfl rfl (?_ : Ex _ _ 1 _ _ _ _ _)
  rcases ite_some h with ⟨b1, h⟩ | ⟨b1, h⟩
  · refine x_if_eq (tgt := 39) dX12_setsTimer__1 rfl b1 (?_ : Ex _ _ 39 _ _ _ _ _)
    refine x_aload_n dX12_setsTimer__39 rfl rfl (Or.inr (by decide)) (?_ : Ex _ _ 40 _ _ _ _ _)
    obtain ⟨c2, h⟩ := chk_some h
    refine gt_12_31 c2 fl_RX12_91 dX12_setsTimer__40 (?_ : Ex _ _ 43 _ _ _ _ _)
    refine x_bipush dX12_setsTimer__43 kb_80 (by decide) (?_ : Ex _ _ 45 _ _ _ _ _)
    refine x_iload_n dX12_setsTimer__45 rfl rfl (?_ : Ex _ _ 46 _ _ _ _ _)
    obtain ⟨c3, h⟩ := chk_some h
    refine x_imul dX12_setsTimer__46 c3 (?_ : Ex _ _ 47 _ _ _ _ _)
    refine x_iload_n dX12_setsTimer__47 rfl rfl (?_ : Ex _ _ 48 _ _ _ _ _)
    obtain ⟨c4, h⟩ := chk_some h
    refine x_iadd dX12_setsTimer__48 c4 (?_ : Ex _ _ 49 _ _ _ _ _)
    refine x_iconst dX12_setsTimer__49 rfl (by decide) (?_ : Ex _ _ 50 _ _ _ _ _)
    obtain ⟨⟨c5, c6, c7⟩, h⟩ := chk_some h
    obtain ⟨m8, hm8, h⟩ := st_some h
    refine sd_i_800 c5 c6 c7 dX12_setsTimer__50 (?_ : Ex _ _ 51 _ _ _ _ _)
    rw [← hm8]
    cases h
    exact x_retv dX12_setsTimer__51
  · refine x_if_eqN dX12_setsTimer__1 (by decide) b1 (?_ : Ex _ _ 4 _ _ _ _ _)
    refine x_aload_n dX12_setsTimer__4 rfl rfl (Or.inr (by decide)) (?_ : Ex _ _ 5 _ _ _ _ _)
    obtain ⟨c9, h⟩ := chk_some h
    refine gt_12_31 c9 fl_RX12_91 dX12_setsTimer__5 (?_ : Ex _ _ 8 _ _ _ _ _)
    refine x_bipush dX12_setsTimer__8 kb_80 (by decide) (?_ : Ex _ _ 10 _ _ _ _ _)
    refine x_iload_n dX12_setsTimer__10 rfl rfl (?_ : Ex _ _ 11 _ _ _ _ _)
    obtain ⟨c10, h⟩ := chk_some h
    refine x_imul dX12_setsTimer__11 c10 (?_ : Ex _ _ 12 _ _ _ _ _)
    refine x_aload_n dX12_setsTimer__12 rfl rfl (Or.inr (by decide)) (?_ : Ex _ _ 13 _ _ _ _ _)
    refine gt_12_30 c9 fl_RX12_88 dX12_setsTimer__13 (?_ : Ex _ _ 16 _ _ _ _ _)
    refine x_iload_n dX12_setsTimer__16 rfl rfl (?_ : Ex _ _ 17 _ _ _ _ _)
    obtain ⟨⟨c11, c12, c13⟩, h⟩ := chk_some h
    refine ld_i_10 c11 c12 c13 dX12_setsTimer__17 (?_ : Ex _ _ 18 _ _ _ _ _)
    obtain ⟨c14, h⟩ := chk_some h
    refine x_iadd dX12_setsTimer__18 c14 (?_ : Ex _ _ 19 _ _ _ _ _)
    refine x_aload_n dX12_setsTimer__19 rfl rfl (Or.inr (by decide)) (?_ : Ex _ _ 20 _ _ _ _ _)
    refine gt_12_1 c9 fl_RX12_395 dX12_setsTimer__20 (?_ : Ex _ _ 23 _ _ _ _ _)
    refine x_iload_n dX12_setsTimer__23 rfl rfl (?_ : Ex _ _ 24 _ _ _ _ _)
    obtain ⟨c15, h⟩ := chk_some h
    refine x_iadd dX12_setsTimer__24 c15 (?_ : Ex _ _ 25 _ _ _ _ _)
    obtain ⟨⟨c16, c17, c18⟩, h⟩ := chk_some h
    obtain ⟨m19, hm19, h⟩ := st_some h
    refine sd_i_800 c16 c17 c18 dX12_setsTimer__25 (?_ : Ex _ _ 26 _ _ _ _ _)
    rw [← hm19]
    refine x_aload_n dX12_setsTimer__26 rfl rfl (Or.inr (by decide)) (?_ : Ex _ _ 27 _ _ _ _ _)
    refine gt_12_30 c9 fl_RX12_88 dX12_setsTimer__27 (?_ : Ex _ _ 30 _ _ _ _ _)
    refine x_iload_n dX12_setsTimer__30 rfl rfl (?_ : Ex _ _ 31 _ _ _ _ _)
    refine x_dup2 (by decide : (0 : Int) ≠ 2) (by decide : (100010 : Int) ≠ 2) dX12_setsTimer__31 (?_ : Ex _ _ 32 _ _ _ _ _)
    obtain ⟨⟨c20, c21, c22⟩, h⟩ := chk_some h
    refine ld_i_10 c20 c21 c22 dX12_setsTimer__32 (?_ : Ex _ _ 33 _ _ _ _ _)
    refine x_iconst dX12_setsTimer__33 rfl (by decide) (?_ : Ex _ _ 34 _ _ _ _ _)
    obtain ⟨c23, h⟩ := chk_some h
    refine x_iadd dX12_setsTimer__34 c23 (?_ : Ex _ _ 35 _ _ _ _ _)
    obtain ⟨⟨c24, c25⟩, h⟩ := chk_some h
    obtain ⟨m26, hm26, h⟩ := st_some h
    refine sd_i_10 c20 c24 c25 dX12_setsTimer__35 (?_ : Ex _ _ 36 _ _ _ _ _)
    rw [← hm26]
    refine x_goto (tgt := 51) dX12_setsTimer__36 rfl (?_ : Ex _ _ 51 _ _ _ _ _)
    cases h
    exact x_retv dX12_setsTimer__51
theorem e_X12_setsTimer_ (d : Nat) {a0 a1 a2 a3 : Int} {m : Mem} {v : Int} {m' : Mem} (h : X12_setsTimer_ a0 a1 a2 a3 m = some (v, m')) : ExM d fm_X12_setsTimer_ [(22, a0), (0, a1), (0, a2), (0, a3)] m (.inl (3, 0)) m' := by
  exact ExM.of (by decide +kernel) (Nat.le_of_ble_eq_true rfl) (cat9 rfl) retV (e_X12_setsTimer__0 d h)
theorem dX12_makesChild_0 : decode cX12_makesChild 0 = .ok (.bipush 80, 2) := by decide +kernel
theorem dX12_makesChild_2 : decode cX12_makesChild 2 = .ok (.iload_n 1, 1) := by decide +kernel
theorem dX12_makesChild_3 : decode cX12_makesChild 3 = .ok (.imul, 1) := by decide +kernel
theorem dX12_makesChild_4 : decode cX12_makesChild 4 = .ok (.aload_n 0, 1) := by decide +kernel
theorem dX12_makesChild_5 : decode cX12_makesChild 5 = .ok (.getfield 94, 3) := by decide +kernel
theorem dX12_makesChild_8 : decode cX12_makesChild 8 = .ok (.iload_n 1, 1) := by decide +kernel
theorem dX12_makesChild_9 : decode cX12_makesChild 9 = .ok (.iaload, 1) := by decide +kernel
theorem dX12_makesChild_10 : decode cX12_makesChild 10 = .ok (.iadd, 1) := by decide +kernel
theorem dX12_makesChild_11 : decode cX12_makesChild 11 = .ok (.istore_n 3, 1) := by decide +kernel
theorem dX12_makesChild_12 : decode cX12_makesChild 12 = .ok (.aload_n 0, 1) := by decide +kernel
theorem dX12_makesChild_13 : decode cX12_makesChild 13 = .ok (.getfield 100, 3) := by decide +kernel
theorem dX12_makesChild_16 : decode cX12_makesChild 16 = .ok (.iload_n 3, 1) := by decide +kernel
theorem dX12_makesChild_17 : decode cX12_makesChild 17 = .ok (.aload_n 0, 1) := by decide +kernel
theorem dX12_makesChild_18 : decode cX12_makesChild 18 = .ok (.getfield 164, 3) := by decide +kernel
theorem dX12_makesChild_21 : decode cX12_makesChild 21 = .ok (.iload_n 2, 1) := by decide +kernel
theorem dX12_makesChild_22 : decode cX12_makesChild 22 = .ok (.iaload, 1) := by decide +kernel
theorem dX12_makesChild_23 : decode cX12_makesChild 23 = .ok (.iastore, 1) := by decide +kernel
theorem dX12_makesChild_24 : decode cX12_makesChild 24 = .ok (.aload_n 0, 1) := by decide +kernel
theorem dX12_makesChild_25 : decode cX12_makesChild 25 = .ok (.getfield 97, 3) := by decide +kernel
theorem dX12_makesChild_28 : decode cX12_makesChild 28 = .ok (.iload_n 3, 1) := by decide +kernel
theorem dX12_makesChild_29 : decode cX12_makesChild 29 = .ok (.aload_n 0, 1) := by decide +kernel
theorem dX12_makesChild_30 : decode cX12_makesChild 30 = .ok (.getfield 181, 3) := by decide +kernel
theorem dX12_makesChild_33 : decode cX12_makesChild 33 = .ok (.bipush 10, 2) := by decide +kernel
theorem dX12_makesChild_35 : decode cX12_makesChild 35 = .ok (.if_icmp .ne 7, 3) := by decide +kernel
theorem dX12_makesChild_38 : decode cX12_makesChild 38 = .ok (.iconst (-1), 1) := by decide +kernel
theorem dX12_makesChild_39 : decode cX12_makesChild 39 = .ok (.goto 32, 3) := by decide +kernel
theorem dX12_makesChild_42 : decode cX12_makesChild 42 = .ok (.aload_n 0, 1) := by decide +kernel
theorem dX12_makesChild_43 : decode cX12_makesChild 43 = .ok (.aload_n 0, 1) := by decide +kernel
theorem dX12_makesChild_44 : decode cX12_makesChild 44 = .ok (.getfield 161, 3) := by decide +kernel
theorem dX12_makesChild_47 : decode cX12_makesChild 47 = .ok (.iload_n 2, 1) := by decide +kernel
theorem dX12_makesChild_48 : decode cX12_makesChild 48 = .ok (.iaload, 1) := by decide +kernel
theorem dX12_makesChild_49 : decode cX12_makesChild 49 = .ok (.aload_n 0, 1) := by decide +kernel
theorem dX12_makesChild_50 : decode cX12_makesChild 50 = .ok (.getfield 28, 3) := by decide +kernel
theorem dX12_makesChild_53 : decode cX12_makesChild 53 = .ok (.iload_n 1, 1) := by decide +kernel
theorem dX12_makesChild_54 : decode cX12_makesChild 54 = .ok (.iaload, 1) := by decide +kernel
theorem dX12_makesChild_55 : decode cX12_makesChild 55 = .ok (.iload_n 1, 1) := by decide +kernel
theorem dX12_makesChild_56 : decode cX12_makesChild 56 = .ok (.aload_n 0, 1) := by decide +kernel
theorem dX12_makesChild_57 : decode cX12_makesChild 57 = .ok (.getfield 94, 3) := by decide +kernel
theorem dX12_makesChild_60 : decode cX12_makesChild 60 = .ok (.iload_n 1, 1) := by decide +kernel
theorem dX12_makesChild_61 : decode cX12_makesChild 61 = .ok (.iaload, 1) := by decide +kernel
theorem dX12_makesChild_62 : decode cX12_makesChild 62 = .ok (.aload_n 0, 1) := by decide +kernel
theorem dX12_makesChild_63 : decode cX12_makesChild 63 = .ok (.getfield 167, 3) := by decide +kernel
theorem dX12_makesChild_66 : decode cX12_makesChild 66 = .ok (.iload_n 2, 1) := by decide +kernel
theorem dX12_makesChild_67 : decode cX12_makesChild 67 = .ok (.iaload, 1) := by decide +kernel
theorem dX12_makesChild_68 : decode cX12_makesChild 68 = .ok (.invokevirtual 220, 3) := by decide +kernel
theorem dX12_makesChild_71 : decode cX12_makesChild 71 = .ok (.iastore, 1) := by decide +kernel
theorem dX12_makesChild_72 : decode cX12_makesChild 72 = .ok (.aload_n 0, 1) := by decide +kernel
theorem dX12_makesChild_73 : decode cX12_makesChild 73 = .ok (.getfield 94, 3) := by decide +kernel
theorem dX12_makesChild_76 : decode cX12_makesChild 76 = .ok (.iload_n 1, 1) := by decide +kernel
theorem dX12_makesChild_77 : decode cX12_makesChild 77 = .ok (.dup2, 1) := by decide +kernel
theorem dX12_makesChild_78 : decode cX12_makesChild 78 = .ok (.iaload, 1) := by decide +kernel
theorem dX12_makesChild_79 : decode cX12_makesChild 79 = .ok (.iconst 1, 1) := by decide +kernel
theorem dX12_makesChild_80 : decode cX12_makesChild 80 = .ok (.iadd, 1) := by decide +kernel
theorem dX12_makesChild_81 : decode cX12_makesChild 81 = .ok (.iastore, 1) := by decide +kernel
theorem dX12_makesChild_82 : decode cX12_makesChild 82 = .ok (.return_, 1) := by decide +kernel
theorem e_X12_makesChild_71 (d : Nat) {l0 l1 s0 s1 s2 : Int} {m : Mem} {v : Int} {m' : Mem} (h : X12_makesChild_71 l0 l1 s0 s1 s2 m = some (v, m')) : Ex (d + 4) fm_X12_makesChild 71 [(22, l0), (0, l1), (3, 0), (3, 0)] [(0, s0), (0, s1), (100800, s2)] m (.inl (3, 0)) m' := by
  unfold X12_makesChild_71 at h
  obtain ⟨⟨c1, c2, c3⟩, h⟩ := chk_some h
  obtain ⟨m4, hm4, h⟩ := st_some h
  refine sd_i_800 c1 c2 c3 dX12_makesChild_71 (?_ : Ex _ _ 72 _ _ _ _ _)
  rw [← hm4]
  refine x_aload_n dX12_makesChild_72 rfl rfl (Or.inr (by decide)) (?_ : Ex _ _ 73 _ _ _ _ _)
  obtain ⟨c5, h⟩ := chk_some h
  refine gt_12_32 c5 fl_RX12_94 dX12_makesChild_73 (?_ : Ex _ _ 76 _ _ _ _ _)
  refine x_iload_n dX12_makesChild_76 rfl rfl (?_ : Ex _ _ 77 _ _ _ _ _)
  refine x_dup2 (by decide : (0 : Int) ≠ 2) (by decide : (100010 : Int) ≠ 2) dX12_makesChild_77 (?_ : Ex _ _ 78 _ _ _ _ _)
  obtain ⟨⟨c6, c7, c8⟩, h⟩ := chk_some h
  refine ld_i_10 c6 c7 c8 dX12_makesChild_78 (?_ : Ex _ _ 79 _ _ _ _ _)
  refine x_iconst dX12_makesChild_79 rfl (by decide) (?_ : Ex _ _ 80 _ _ _ _ _)
  obtain ⟨c9, h⟩ := chk_some h
  refine x_iadd dX12_makesChild_80 c9 (?_ : Ex _ _ 81 _ _ _ _ _)
  obtain ⟨⟨c10, c11⟩, h⟩ := chk_some h
  obtain ⟨m12, hm12, h⟩ := st_some h
  refine sd_i_10 c6 c10 c11 dX12_makesChild_81 (?_ : Ex _ _ 82 _ _ _ _ _)
  rw [← hm12]
  cases h
  exact x_retv dX12_makesChild_82
theorem e_X12_makesChild_0 (d : Nat) {l0 l1 l2 : Int} {m : Mem} {v : Int} {m' : Mem} (h : X12_makesChild_0 l0 l1 l2 m = some (v, m')) : Ex (d + 4) fm_X12_makesChild 0 [(22, l0), (0, l1), (0, l2), (3, 0)] [] m (.inl (3, 0)) m' := by
  unfold X12_makesChild_0 at h
  refine x_bipush dX12_makesChild_0 kb_80 (by decide) (?_ : Ex _ _ 2 _ _ _ _ _)
  refine x_iload_n dX12_makesChild_2 rfl rfl (?_ : Ex _ _ 3 _ _ _ _ _)
  obtain ⟨c1, h⟩ := chk_some h
  refine x_imul dX12_makesChild_3 c1 (?_ : Ex _ _ 4 _ _ _ _ _)
  refine x_aload_n dX12_makesChild_4 rfl rfl (Or.inr (by decide)) (?_ : Ex _ _ 5 _ _ _ _ _)
  obtain ⟨c2, h⟩ := chk_some h
  refine gt_12_32 c2 fl_RX12_94 dX12_makesChild_5 (?_ : Ex _ _ 8 _ _ _ _ _)
  refine x_iload_n dX12_makesChild_8 rfl rfl (?_ : Ex _ _ 9 _ _ _ _ _)
  obtain ⟨⟨c3, c4, c5⟩, h⟩ := chk_some h
  refine ld_i_10 c3 c4 c5 dX12_makesChild_9 (?_ : Ex _ _ 10 _ _ _ _ _)
  obtain ⟨c6, h⟩ := chk_some h
  refine x_iadd dX12_makesChild_10 c6 (?_ : Ex _ _ 11 _ _ _ _ _)
  refine x_istore_n (ls2 := [(22, l0), (0, l1), (0, l2), (0, ((80 * l1) + m (m l0 32) l1))]) dX12_makesChild_11 rfl (Nat.le_of_ble_eq_true rfl) rfl (?_ : Ex _ _ 12 _ _ _ _ _)
  refine x_aload_n dX12_makesChild_12 rfl rfl (Or.inr (by decide)) (?_ : Ex _ _ 13 _ _ _ _ _)
  refine gt_12_34 c2 fl_RX12_100 dX12_makesChild_13 (?_ : Ex _ _ 16 _ _ _ _ _)
  refine x_iload_n dX12_makesChild_16 rfl rfl (?_ : Ex _ _ 17 _ _ _ _ _)
  refine x_aload_n dX12_makesChild_17 rfl rfl (Or.inr (by decide)) (?_ : Ex _ _ 18 _ _ _ _ _)
  refine gt_12_74 c2 fl_RX12_164 dX12_makesChild_18 (?_ : Ex _ _ 21 _ _ _ _ _)
  refine x_iload_n dX12_makesChild_21 rfl rfl (?_ : Ex _ _ 22 _ _ _ _ _)
  obtain ⟨⟨c7, c8, c9⟩, h⟩ := chk_some h
  refine ld_i_5200 c7 c8 c9 dX12_makesChild_22 (?_ : Ex _ _ 23 _ _ _ _ _)
  obtain ⟨⟨c10, c11, c12⟩, h⟩ := chk_some h
  obtain ⟨m13, hm13, h⟩ := st_some h
  refine sd_i_800 c10 c11 c12 dX12_makesChild_23 (?_ : Ex _ _ 24 _ _ _ _ _)
  rw [← hm13]
  refine x_aload_n dX12_makesChild_24 rfl rfl (Or.inr (by decide)) (?_ : Ex _ _ 25 _ _ _ _ _)
  refine gt_12_33 c2 fl_RX12_97 dX12_makesChild_25 (?_ : Ex _ _ 28 _ _ _ _ _)
  refine x_iload_n dX12_makesChild_28 rfl rfl (?_ : Ex _ _ 29 _ _ _ _ _)
  refine x_aload_n dX12_makesChild_29 rfl rfl (Or.inr (by decide)) (?_ : Ex _ _ 30 _ _ _ _ _)
  refine gt_12_16 c2 fl_RX12_181 dX12_makesChild_30 (?_ : Ex _ _ 33 _ _ _ _ _)
  refine x_bipush dX12_makesChild_33 kb_10 (by decide) (?_ : Ex _ _ 35 _ _ _ _ _)
  rcases ite_some h with ⟨b14, h⟩ | ⟨b14, h⟩
  · refine x_icmp_neN dX12_makesChild_35 (by decide) (fun hh => hh b14) (?_ : Ex _ _ 38 _ _ _ _ _)
    refine x_iconst dX12_makesChild_38 rfl (by decide) (?_ : Ex _ _ 39 _ _ _ _ _)
    refine x_goto (tgt := 71) dX12_makesChild_39 rfl (?_ : Ex _ _ 71 _ _ _ _ _)
    refine Ex.wk (ls2 := [(22, l0), (0, l1), (3, 0), (3, 0)]) ⟨Or.inr rfl, Or.inr rfl, Or.inl rfl, Or.inl rfl, trivial⟩ ?_
    exact e_X12_makesChild_71 d h
  · refine x_icmp_ne (tgt := 42) dX12_makesChild_35 rfl b14 (?_ : Ex _ _ 42 _ _ _ _ _)
    refine x_aload_n dX12_makesChild_42 rfl rfl (Or.inr (by decide)) (?_ : Ex _ _ 43 _ _ _ _ _)
    refine x_aload_n dX12_makesChild_43 rfl rfl (Or.inr (by decide)) (?_ : Ex _ _ 44 _ _ _ _ _)
    refine gt_12_73 c2 fl_RX12_161 dX12_makesChild_44 (?_ : Ex _ _ 47 _ _ _ _ _)
    refine x_iload_n dX12_makesChild_47 rfl rfl (?_ : Ex _ _ 48 _ _ _ _ _)
    obtain ⟨⟨c15, c16, c17⟩, h⟩ := chk_some h
    refine ld_i_5200 c15 c16 c17 dX12_makesChild_48 (?_ : Ex _ _ 49 _ _ _ _ _)
    refine x_aload_n dX12_makesChild_49 rfl rfl (Or.inr (by decide)) (?_ : Ex _ _ 50 _ _ _ _ _)
    refine gt_12_8 c2 fl_RX12_28 dX12_makesChild_50 (?_ : Ex _ _ 53 _ _ _ _ _)
    refine x_iload_n dX12_makesChild_53 rfl rfl (?_ : Ex _ _ 54 _ _ _ _ _)
    obtain ⟨⟨c18, c19, c20⟩, h⟩ := chk_some h
    refine ld_i_10 c18 c19 c20 dX12_makesChild_54 (?_ : Ex _ _ 55 _ _ _ _ _)
    refine x_iload_n dX12_makesChild_55 rfl rfl (?_ : Ex _ _ 56 _ _ _ _ _)
    refine x_aload_n dX12_makesChild_56 rfl rfl (Or.inr (by decide)) (?_ : Ex _ _ 57 _ _ _ _ _)
    refine gt_12_32 c2 fl_RX12_94 dX12_makesChild_57 (?_ : Ex _ _ 60 _ _ _ _ _)
    refine x_iload_n dX12_makesChild_60 rfl rfl (?_ : Ex _ _ 61 _ _ _ _ _)
    obtain ⟨⟨c21, c22, c23⟩, h⟩ := chk_some h
    refine ld_i_10 c21 c22 c23 dX12_makesChild_61 (?_ : Ex _ _ 62 _ _ _ _ _)
    refine x_aload_n dX12_makesChild_62 rfl rfl (Or.inr (by decide)) (?_ : Ex _ _ 63 _ _ _ _ _)
    refine gt_12_75 c2 fl_RX12_167 dX12_makesChild_63 (?_ : Ex _ _ 66 _ _ _ _ _)
    refine x_iload_n dX12_makesChild_66 rfl rfl (?_ : Ex _ _ 67 _ _ _ _ _)
    obtain ⟨⟨c24, c25, c26⟩, h⟩ := chk_some h
    refine ld_i_5200 c24 c25 c26 dX12_makesChild_67 (?_ : Ex _ _ 68 _ _ _ _ _)
    obtain ⟨v27, m28, g29, h⟩ := cal_some h
    refine cV5 (e_X12_makesFlow d g29) (contN (by decide) (?_ : Ex _ _ 71 _ _ _ _ _)) og_X12_makesFlow rfl ml_RX12_220 12 rfl rfl c2 im_X12_makesFlow se_X12_makesFlow (Nat.le_of_ble_eq_true rfl) dX12_makesChild_68
    refine Ex.wk (ls2 := [(22, l0), (0, l1), (3, 0), (3, 0)]) ⟨Or.inr rfl, Or.inr rfl, Or.inl rfl, Or.inl rfl, trivial⟩ ?_
    exact e_X12_makesChild_71 d h
theorem e_X12_makesChild (d : Nat) {a0 a1 a2 : Int} {m : Mem} {v : Int} {m' : Mem} (h : X12_makesChild a0 a1 a2 m = some (v, m')) : ExM (d + 4) fm_X12_makesChild [(22, a0), (0, a1), (0, a2)] m (.inl (3, 0)) m' := by
  exact ExM.of (by decide +kernel) (Nat.le_of_ble_eq_true rfl) (cat9 rfl) retV (e_X12_makesChild_0 d h)
theorem dX12_closesOne_0 : decode cX12_closesOne 0 = .ok (.iconst 0, 1) := by decide +kernel
theorem dX12_closesOne_1 : decode cX12_closesOne 1 = .ok (.istore_n 2, 1) := by decide +kernel
theorem dX12_closesOne_2 : decode cX12_closesOne 2 = .ok (.iload_n 2, 1) := by decide +kernel
theorem dX12_closesOne_3 : decode cX12_closesOne 3 = .ok (.aload_n 0, 1) := by decide +kernel
theorem dX12_closesOne_4 : decode cX12_closesOne 4 = .ok (.getfield 67, 3) := by decide +kernel
theorem dX12_closesOne_7 : decode cX12_closesOne 7 = .ok (.iload_n 1, 1) := by decide +kernel
theorem dX12_closesOne_8 : decode cX12_closesOne 8 = .ok (.iaload, 1) := by decide +kernel
theorem dX12_closesOne_9 : decode cX12_closesOne 9 = .ok (.if_icmp .ge 15, 3) := by decide +kernel
theorem dX12_closesOne_12 : decode cX12_closesOne 12 = .ok (.aload_n 0, 1) := by decide +kernel
theorem dX12_closesOne_13 : decode cX12_closesOne 13 = .ok (.iload_n 1, 1) := by decide +kernel
theorem dX12_closesOne_14 : decode cX12_closesOne 14 = .ok (.iload_n 2, 1) := by decide +kernel
theorem dX12_closesOne_15 : decode cX12_closesOne 15 = .ok (.invokevirtual 401, 3) := by decide +kernel
theorem dX12_closesOne_18 : decode cX12_closesOne 18 = .ok (.iinc 2 1, 3) := by decide +kernel
theorem dX12_closesOne_21 : decode cX12_closesOne 21 = .ok (.goto (-19), 3) := by decide +kernel
theorem dX12_closesOne_24 : decode cX12_closesOne 24 = .ok (.iconst 0, 1) := by decide +kernel
theorem dX12_closesOne_25 : decode cX12_closesOne 25 = .ok (.istore_n 2, 1) := by decide +kernel
theorem dX12_closesOne_26 : decode cX12_closesOne 26 = .ok (.iload_n 2, 1) := by decide +kernel
theorem dX12_closesOne_27 : decode cX12_closesOne 27 = .ok (.aload_n 0, 1) := by decide +kernel
theorem dX12_closesOne_28 : decode cX12_closesOne 28 = .ok (.getfield 88, 3) := by decide +kernel
theorem dX12_closesOne_31 : decode cX12_closesOne 31 = .ok (.iload_n 1, 1) := by decide +kernel
theorem dX12_closesOne_32 : decode cX12_closesOne 32 = .ok (.iaload, 1) := by decide +kernel
theorem dX12_closesOne_33 : decode cX12_closesOne 33 = .ok (.if_icmp .ge 21, 3) := by decide +kernel
theorem dX12_closesOne_36 : decode cX12_closesOne 36 = .ok (.aload_n 0, 1) := by decide +kernel
theorem dX12_closesOne_37 : decode cX12_closesOne 37 = .ok (.getfield 91, 3) := by decide +kernel
theorem dX12_closesOne_40 : decode cX12_closesOne 40 = .ok (.bipush 80, 2) := by decide +kernel
theorem dX12_closesOne_42 : decode cX12_closesOne 42 = .ok (.iload_n 1, 1) := by decide +kernel
theorem dX12_closesOne_43 : decode cX12_closesOne 43 = .ok (.imul, 1) := by decide +kernel
theorem dX12_closesOne_44 : decode cX12_closesOne 44 = .ok (.iload_n 2, 1) := by decide +kernel
theorem dX12_closesOne_45 : decode cX12_closesOne 45 = .ok (.iadd, 1) := by decide +kernel
theorem dX12_closesOne_46 : decode cX12_closesOne 46 = .ok (.iconst 0, 1) := by decide +kernel
theorem dX12_closesOne_47 : decode cX12_closesOne 47 = .ok (.iastore, 1) := by decide +kernel
theorem dX12_closesOne_48 : decode cX12_closesOne 48 = .ok (.iinc 2 1, 3) := by decide +kernel
theorem dX12_closesOne_51 : decode cX12_closesOne 51 = .ok (.goto (-25), 3) := by decide +kernel
theorem dX12_closesOne_54 : decode cX12_closesOne 54 = .ok (.iconst 0, 1) := by decide +kernel
theorem dX12_closesOne_55 : decode cX12_closesOne 55 = .ok (.istore_n 2, 1) := by decide +kernel
theorem dX12_closesOne_56 : decode cX12_closesOne 56 = .ok (.iload_n 2, 1) := by decide +kernel
theorem dX12_closesOne_57 : decode cX12_closesOne 57 = .ok (.aload_n 0, 1) := by decide +kernel
theorem dX12_closesOne_58 : decode cX12_closesOne 58 = .ok (.getfield 94, 3) := by decide +kernel
theorem dX12_closesOne_61 : decode cX12_closesOne 61 = .ok (.iload_n 1, 1) := by decide +kernel
theorem dX12_closesOne_62 : decode cX12_closesOne 62 = .ok (.iaload, 1) := by decide +kernel
theorem dX12_closesOne_63 : decode cX12_closesOne 63 = .ok (.if_icmp .ge 126, 3) := by decide +kernel
theorem dX12_closesOne_66 : decode cX12_closesOne 66 = .ok (.aload_n 0, 1) := by decide +kernel
theorem dX12_closesOne_67 : decode cX12_closesOne 67 = .ok (.getfield 97, 3) := by decide +kernel
theorem dX12_closesOne_70 : decode cX12_closesOne 70 = .ok (.bipush 80, 2) := by decide +kernel
theorem dX12_closesOne_72 : decode cX12_closesOne 72 = .ok (.iload_n 1, 1) := by decide +kernel
theorem dX12_closesOne_73 : decode cX12_closesOne 73 = .ok (.imul, 1) := by decide +kernel
theorem dX12_closesOne_74 : decode cX12_closesOne 74 = .ok (.iload_n 2, 1) := by decide +kernel
theorem dX12_closesOne_75 : decode cX12_closesOne 75 = .ok (.iadd, 1) := by decide +kernel
theorem dX12_closesOne_76 : decode cX12_closesOne 76 = .ok (.iaload, 1) := by decide +kernel
theorem dX12_closesOne_77 : decode cX12_closesOne 77 = .ok (.istore_n 3, 1) := by decide +kernel
theorem dX12_closesOne_78 : decode cX12_closesOne 78 = .ok (.iload_n 3, 1) := by decide +kernel
theorem dX12_closesOne_79 : decode cX12_closesOne 79 = .ok (.iconst (-1), 1) := by decide +kernel
theorem dX12_closesOne_80 : decode cX12_closesOne 80 = .ok (.if_icmp .eq 36, 3) := by decide +kernel
theorem dX12_closesOne_83 : decode cX12_closesOne 83 = .ok (.aload_n 0, 1) := by decide +kernel
theorem dX12_closesOne_84 : decode cX12_closesOne 84 = .ok (.iload_n 3, 1) := by decide +kernel
theorem dX12_closesOne_85 : decode cX12_closesOne 85 = .ok (.invokevirtual 209, 3) := by decide +kernel
theorem dX12_closesOne_88 : decode cX12_closesOne 88 = .ok (.ifCond .eq 28, 3) := by decide +kernel
theorem dX12_closesOne_91 : decode cX12_closesOne 91 = .ok (.aload_n 0, 1) := by decide +kernel
theorem dX12_closesOne_92 : decode cX12_closesOne 92 = .ok (.getfield 100, 3) := by decide +kernel
theorem dX12_closesOne_95 : decode cX12_closesOne 95 = .ok (.bipush 80, 2) := by decide +kernel
theorem dX12_closesOne_97 : decode cX12_closesOne 97 = .ok (.iload_n 1, 1) := by decide +kernel
theorem dX12_closesOne_98 : decode cX12_closesOne 98 = .ok (.imul, 1) := by decide +kernel
theorem dX12_closesOne_99 : decode cX12_closesOne 99 = .ok (.iload_n 2, 1) := by decide +kernel
theorem dX12_closesOne_100 : decode cX12_closesOne 100 = .ok (.iadd, 1) := by decide +kernel
theorem dX12_closesOne_101 : decode cX12_closesOne 101 = .ok (.iaload, 1) := by decide +kernel
theorem dX12_closesOne_102 : decode cX12_closesOne 102 = .ok (.iconst 1, 1) := by decide +kernel
theorem dX12_closesOne_103 : decode cX12_closesOne 103 = .ok (.if_icmp .ne 13, 3) := by decide +kernel
theorem dX12_closesOne_106 : decode cX12_closesOne 106 = .ok (.aload_n 0, 1) := by decide +kernel
theorem dX12_closesOne_107 : decode cX12_closesOne 107 = .ok (.iload_n 3, 1) := by decide +kernel
theorem dX12_closesOne_108 : decode cX12_closesOne 108 = .ok (.invokevirtual 231, 3) := by decide +kernel
theorem dX12_closesOne_111 : decode cX12_closesOne 111 = .ok (.istore 4, 2) := by decide +kernel
theorem dX12_closesOne_113 : decode cX12_closesOne 113 = .ok (.goto 70, 3) := by decide +kernel
theorem dX12_closesOne_116 : decode cX12_closesOne 116 = .ok (.iload_n 3, 1) := by decide +kernel
theorem dX12_closesOne_117 : decode cX12_closesOne 117 = .ok (.iconst (-1), 1) := by decide +kernel
theorem dX12_closesOne_118 : decode cX12_closesOne 118 = .ok (.if_icmp .eq 65, 3) := by decide +kernel
theorem dX12_closesOne_121 : decode cX12_closesOne 121 = .ok (.aload_n 0, 1) := by decide +kernel
theorem dX12_closesOne_122 : decode cX12_closesOne 122 = .ok (.iload_n 3, 1) := by decide +kernel
theorem dX12_closesOne_123 : decode cX12_closesOne 123 = .ok (.invokevirtual 209, 3) := by decide +kernel
theorem dX12_closesOne_126 : decode cX12_closesOne 126 = .ok (.ifCond .eq 57, 3) := by decide +kernel
theorem dX12_closesOne_129 : decode cX12_closesOne 129 = .ok (.aload_n 0, 1) := by decide +kernel
theorem dX12_closesOne_130 : decode cX12_closesOne 130 = .ok (.getfield 100, 3) := by decide +kernel
theorem dX12_closesOne_133 : decode cX12_closesOne 133 = .ok (.bipush 80, 2) := by decide +kernel
theorem dX12_closesOne_135 : decode cX12_closesOne 135 = .ok (.iload_n 1, 1) := by decide +kernel
theorem dX12_closesOne_136 : decode cX12_closesOne 136 = .ok (.imul, 1) := by decide +kernel
theorem dX12_closesOne_137 : decode cX12_closesOne 137 = .ok (.iload_n 2, 1) := by decide +kernel
theorem dX12_closesOne_138 : decode cX12_closesOne 138 = .ok (.iadd, 1) := by decide +kernel
theorem dX12_closesOne_139 : decode cX12_closesOne 139 = .ok (.iaload, 1) := by decide +kernel
theorem dX12_closesOne_140 : decode cX12_closesOne 140 = .ok (.iconst 2, 1) := by decide +kernel
theorem dX12_closesOne_141 : decode cX12_closesOne 141 = .ok (.if_icmp .ne 42, 3) := by decide +kernel
theorem dX12_closesOne_144 : decode cX12_closesOne 144 = .ok (.aload_n 0, 1) := by decide +kernel
theorem dX12_closesOne_145 : decode cX12_closesOne 145 = .ok (.getfield 52, 3) := by decide +kernel
theorem dX12_closesOne_148 : decode cX12_closesOne 148 = .ok (.aload_n 0, 1) := by decide +kernel
theorem dX12_closesOne_149 : decode cX12_closesOne 149 = .ok (.iload_n 3, 1) := by decide +kernel
theorem dX12_closesOne_150 : decode cX12_closesOne 150 = .ok (.invokevirtual 205, 3) := by decide +kernel
theorem dX12_closesOne_153 : decode cX12_closesOne 153 = .ok (.bipush 24, 2) := by decide +kernel
theorem dX12_closesOne_155 : decode cX12_closesOne 155 = .ok (.iastore, 1) := by decide +kernel
theorem dX12_closesOne_156 : decode cX12_closesOne 156 = .ok (.aload_n 0, 1) := by decide +kernel
theorem dX12_closesOne_157 : decode cX12_closesOne 157 = .ok (.getfield 49, 3) := by decide +kernel
theorem dX12_closesOne_160 : decode cX12_closesOne 160 = .ok (.iload_n 3, 1) := by decide +kernel
theorem dX12_closesOne_161 : decode cX12_closesOne 161 = .ok (.iconst (-1), 1) := by decide +kernel
theorem dX12_closesOne_162 : decode cX12_closesOne 162 = .ok (.iastore, 1) := by decide +kernel
theorem dX12_closesOne_163 : decode cX12_closesOne 163 = .ok (.aload_n 0, 1) := by decide +kernel
theorem dX12_closesOne_164 : decode cX12_closesOne 164 = .ok (.getfield 170, 3) := by decide +kernel
theorem dX12_closesOne_167 : decode cX12_closesOne 167 = .ok (.aload_n 0, 1) := by decide +kernel
theorem dX12_closesOne_168 : decode cX12_closesOne 168 = .ok (.getfield 404, 3) := by decide +kernel
theorem dX12_closesOne_171 : decode cX12_closesOne 171 = .ok (.iload_n 3, 1) := by decide +kernel
theorem dX12_closesOne_172 : decode cX12_closesOne 172 = .ok (.iastore, 1) := by decide +kernel
theorem dX12_closesOne_173 : decode cX12_closesOne 173 = .ok (.aload_n 0, 1) := by decide +kernel
theorem dX12_closesOne_174 : decode cX12_closesOne 174 = .ok (.dup, 1) := by decide +kernel
theorem dX12_closesOne_175 : decode cX12_closesOne 175 = .ok (.getfield 404, 3) := by decide +kernel
theorem dX12_closesOne_178 : decode cX12_closesOne 178 = .ok (.iconst 1, 1) := by decide +kernel
theorem dX12_closesOne_179 : decode cX12_closesOne 179 = .ok (.iadd, 1) := by decide +kernel
theorem dX12_closesOne_180 : decode cX12_closesOne 180 = .ok (.putfield 404, 3) := by decide +kernel
theorem dX12_closesOne_183 : decode cX12_closesOne 183 = .ok (.iinc 2 1, 3) := by decide +kernel
theorem dX12_closesOne_186 : decode cX12_closesOne 186 = .ok (.goto (-130), 3) := by decide +kernel
theorem dX12_closesOne_189 : decode cX12_closesOne 189 = .ok (.return_, 1) := by decide +kernel
theorem e_X12_closesOne_116 (d : Nat) {k56 : Int → Int → Int → Mem → Option R2} (hk56 : ∀ {l0 l1 l2 : Int} {m : Mem} {v : Int} {m' : Mem}, k56 l0 l1 l2 m = some (v, m') → Ex (d + 4) fm_X12_closesOne 56 [(22, l0), (0, l1), (0, l2), (3, 0), (3, 0)] [] m (.inl (3, 0)) m') {l0 l1 l2 l3 : Int} {m : Mem} {v : Int} {m' : Mem} (h : X12_closesOne_116 k56 l0 l1 l2 l3 m = some (v, m')) : Ex (d + 4) fm_X12_closesOne 116 [(22, l0), (0, l1), (0, l2), (0, l3), (3, 0)] [] m (.inl (3, 0)) m' := by
  unfold X12_closesOne_116 at h
  refine x_iload_n dX12_closesOne_116 rfl rfl (?_ : Ex _ _ 117 _ _ _ _ _)
  refine x_iconst dX12_closesOne_117 rfl (by decide) (?_ : Ex _ _ 118 _ _ _ _ _)
  rcases ite_some h with ⟨b1, h⟩ | ⟨b1, h⟩
  · refine x_icmp_eq (tgt := 183) dX12_closesOne_118 rfl b1 (?_ : Ex _ _ 183 _ _ _ _ _)
    obtain ⟨c2, h⟩ := chk_some h
    refine x_iinc (ls2 := [(22, l0), (0, l1), (0, (l2 + 1)), (0, l3), (3, 0)]) dX12_closesOne_183 rfl c2 rfl (?_ : Ex _ _ 186 _ _ _ _ _)
    refine x_goto (tgt := 56) dX12_closesOne_186 rfl (?_ : Ex _ _ 56 _ _ _ _ _)
    refine Ex.wk (ls2 := [(22, l0), (0, l1), (0, (l2 + 1)), (3, 0), (3, 0)]) ⟨Or.inr rfl, Or.inr rfl, Or.inr rfl, Or.inl rfl, Or.inl rfl, trivial⟩ ?_
    exact hk56 h
  · refine x_icmp_eqN dX12_closesOne_118 (by decide) b1 (?_ : Ex _ _ 121 _ _ _ _ _)
    refine x_aload_n dX12_closesOne_121 rfl rfl (Or.inr (by decide)) (?_ : Ex _ _ 122 _ _ _ _ _)
    refine x_iload_n dX12_closesOne_122 rfl rfl (?_ : Ex _ _ 123 _ _ _ _ _)
    obtain ⟨c3, h⟩ := chk_some h
    obtain ⟨v4, m5, g6, h⟩ := cal_some h
    refine cV1 (e_X12_isRunning (d + 2) g6) (contN (by decide) (?_ : Ex _ _ 126 _ _ _ _ _)) og_X12_isRunning rfl ml_RX12_209 12 rfl rfl c3 im_X12_isRunning se_X12_isRunning (Nat.le_of_ble_eq_true rfl) dX12_closesOne_123
    rcases ite_some h with ⟨b7, h⟩ | ⟨b7, h⟩
    · refine x_if_eq (tgt := 183) dX12_closesOne_126 rfl b7 (?_ : Ex _ _ 183 _ _ _ _ _)
      obtain ⟨c8, h⟩ := chk_some h
      refine x_iinc (ls2 := [(22, l0), (0, l1), (0, (l2 + 1)), (0, l3), (3, 0)]) dX12_closesOne_183 rfl c8 rfl (?_ : Ex _ _ 186 _ _ _ _ _)
      refine x_goto (tgt := 56) dX12_closesOne_186 rfl (?_ : Ex _ _ 56 _ _ _ _ _)
      refine Ex.wk (ls2 := [(22, l0), (0, l1), (0, (l2 + 1)), (3, 0), (3, 0)]) ⟨Or.inr rfl, Or.inr rfl, Or.inr rfl, Or.inl rfl, Or.inl rfl, trivial⟩ ?_
      exact hk56 h
    · refine x_if_eqN dX12_closesOne_126 (by decide) b7 (?_ : Ex _ _ 129 _ _ _ _ _)
      refine x_aload_n dX12_closesOne_129 rfl rfl (Or.inr (by decide)) (?_ : Ex _ _ 130 _ _ _ _ _)
      refine gt_12_34 c3 fl_RX12_100 dX12_closesOne_130 (?_ : Ex _ _ 133 _ _ _ _ _)
      refine x_bipush dX12_closesOne_133 kb_80 (by decide) (?_ : Ex _ _ 135 _ _ _ _ _)
      refine x_iload_n dX12_closesOne_135 rfl rfl (?_ : Ex _ _ 136 _ _ _ _ _)
      obtain ⟨c9, h⟩ := chk_some h
      refine x_imul dX12_closesOne_136 c9 (?_ : Ex _ _ 137 _ _ _ _ _)
      refine x_iload_n dX12_closesOne_137 rfl rfl (?_ : Ex _ _ 138 _ _ _ _ _)
      obtain ⟨c10, h⟩ := chk_some h
      refine x_iadd dX12_closesOne_138 c10 (?_ : Ex _ _ 139 _ _ _ _ _)
      obtain ⟨⟨c11, c12, c13⟩, h⟩ := chk_some h
      refine ld_i_800 c11 c12 c13 dX12_closesOne_139 (?_ : Ex _ _ 140 _ _ _ _ _)
      refine x_iconst dX12_closesOne_140 rfl (by decide) (?_ : Ex _ _ 141 _ _ _ _ _)
      rcases ite_some h with ⟨b14, h⟩ | ⟨b14, h⟩
      · refine x_icmp_neN dX12_closesOne_141 (by decide) (fun hh => hh b14) (?_ : Ex _ _ 144 _ _ _ _ _)
        refine x_aload_n dX12_closesOne_144 rfl rfl (Or.inr (by decide)) (?_ : Ex _ _ 145 _ _ _ _ _)
        refine gt_12_17 c3 fl_RX12_52 dX12_closesOne_145 (?_ : Ex _ _ 148 _ _ _ _ _)
        refine x_aload_n dX12_closesOne_148 rfl rfl (Or.inr (by decide)) (?_ : Ex _ _ 149 _ _ _ _ _)
        refine x_iload_n dX12_closesOne_149 rfl rfl (?_ : Ex _ _ 150 _ _ _ _ _)
        obtain ⟨v16, m17, g18, h⟩ := cal_some h
        refine cV1 (e_X12_rowOfRun (d + 3) g18) (contN (by decide) (?_ : Ex _ _ 153 _ _ _ _ _)) og_X12_rowOfRun rfl ml_RX12_205 12 rfl rfl c3 im_X12_rowOfRun se_X12_rowOfRun (Nat.le_of_ble_eq_true rfl) dX12_closesOne_150
        refine x_bipush dX12_closesOne_153 kb_24 (by decide) (?_ : Ex _ _ 155 _ _ _ _ _)
        obtain ⟨⟨c19, c20, c21⟩, h⟩ := chk_some h
        obtain ⟨m22, hm22, h⟩ := st_some h
        refine sd_i_90 c19 c20 c21 dX12_closesOne_155 (?_ : Ex _ _ 156 _ _ _ _ _)
        rw [← hm22]
        refine x_aload_n dX12_closesOne_156 rfl rfl (Or.inr (by decide)) (?_ : Ex _ _ 157 _ _ _ _ _)
        refine gt_12_15 c3 fl_RX12_49 dX12_closesOne_157 (?_ : Ex _ _ 160 _ _ _ _ _)
        refine x_iload_n dX12_closesOne_160 rfl rfl (?_ : Ex _ _ 161 _ _ _ _ _)
        refine x_iconst dX12_closesOne_161 rfl (by decide) (?_ : Ex _ _ 162 _ _ _ _ _)
        obtain ⟨⟨c23, c24, c25⟩, h⟩ := chk_some h
        obtain ⟨m26, hm26, h⟩ := st_some h
        refine sd_i_10 c23 c24 c25 dX12_closesOne_162 (?_ : Ex _ _ 163 _ _ _ _ _)
        rw [← hm26]
        refine x_aload_n dX12_closesOne_163 rfl rfl (Or.inr (by decide)) (?_ : Ex _ _ 164 _ _ _ _ _)
        refine gt_12_81 c3 fl_RX12_170 dX12_closesOne_164 (?_ : Ex _ _ 167 _ _ _ _ _)
        refine x_aload_n dX12_closesOne_167 rfl rfl (Or.inr (by decide)) (?_ : Ex _ _ 168 _ _ _ _ _)
        refine gt_12_82 c3 fl_RX12_404 dX12_closesOne_168 (?_ : Ex _ _ 171 _ _ _ _ _)
        refine x_iload_n dX12_closesOne_171 rfl rfl (?_ : Ex _ _ 172 _ _ _ _ _)
        obtain ⟨⟨c27, c28, c29⟩, h⟩ := chk_some h
        obtain ⟨m30, hm30, h⟩ := st_some h
        refine sd_i_16 c27 c28 c29 dX12_closesOne_172 (?_ : Ex _ _ 173 _ _ _ _ _)
        rw [← hm30]
        refine x_aload_n dX12_closesOne_173 rfl rfl (Or.inr (by decide)) (?_ : Ex _ _ 174 _ _ _ _ _)
        refine x_dup (by decide : (22 : Int) ≠ 2) dX12_closesOne_174 (?_ : Ex _ _ 175 _ _ _ _ _)
        refine gt_12_82 c3 fl_RX12_404 dX12_closesOne_175 (?_ : Ex _ _ 178 _ _ _ _ _)
        refine x_iconst dX12_closesOne_178 rfl (by decide) (?_ : Ex _ _ 179 _ _ _ _ _)
        obtain ⟨c31, h⟩ := chk_some h
        refine x_iadd dX12_closesOne_179 c31 (?_ : Ex _ _ 180 _ _ _ _ _)
        obtain ⟨m32, hm32, h⟩ := st_some h
        refine pt_12_82  c3 fl_RX12_404 dX12_closesOne_180 (?_ : Ex _ _ 183 _ _ _ _ _)
        rw [← hm32]
        obtain ⟨c33, h⟩ := chk_some h
        refine x_iinc (ls2 := [(22, l0), (0, l1), (0, (l2 + 1)), (0, l3), (3, 0)]) dX12_closesOne_183 rfl c33 rfl (?_ : Ex _ _ 186 _ _ _ _ _)
        refine x_goto (tgt := 56) dX12_closesOne_186 rfl (?_ : Ex _ _ 56 _ _ _ _ _)
        refine Ex.wk (ls2 := [(22, l0), (0, l1), (0, (l2 + 1)), (3, 0), (3, 0)]) ⟨Or.inr rfl, Or.inr rfl, Or.inr rfl, Or.inl rfl, Or.inl rfl, trivial⟩ ?_
        exact hk56 h
      · refine x_icmp_ne (tgt := 183) dX12_closesOne_141 rfl b14 (?_ : Ex _ _ 183 _ _ _ _ _)
        obtain ⟨c15, h⟩ := chk_some h
        refine x_iinc (ls2 := [(22, l0), (0, l1), (0, (l2 + 1)), (0, l3), (3, 0)]) dX12_closesOne_183 rfl c15 rfl (?_ : Ex _ _ 186 _ _ _ _ _)
        refine x_goto (tgt := 56) dX12_closesOne_186 rfl (?_ : Ex _ _ 56 _ _ _ _ _)
        refine Ex.wk (ls2 := [(22, l0), (0, l1), (0, (l2 + 1)), (3, 0), (3, 0)]) ⟨Or.inr rfl, Or.inr rfl, Or.inr rfl, Or.inl rfl, Or.inl rfl, trivial⟩ ?_
        exact hk56 h
theorem e_X12_closesOne_56 (d : Nat) : ∀ (n : Nat) {l0 l1 l2 : Int} {m : Mem} {v : Int} {m' : Mem}, X12_closesOne_56 n l0 l1 l2 m = some (v, m') → Ex (d + 4) fm_X12_closesOne 56 [(22, l0), (0, l1), (0, l2), (3, 0), (3, 0)] [] m (.inl (3, 0)) m' := by
  intro n
  induction n with
  | zero =>
    intro l0 l1 l2 m v m' h
    have h : (none : Option R2) = some _ := h
    cases h
  | succ n ih =>
    intro l0 l1 l2 m v m' h
    rw [X12_closesOne_56] at h
    refine x_iload_n dX12_closesOne_56 rfl rfl (?_ : Ex _ _ 57 _ _ _ _ _)
    refine x_aload_n dX12_closesOne_57 rfl rfl (Or.inr (by decide)) (?_ : Ex _ _ 58 _ _ _ _ _)
    obtain ⟨c1, h⟩ := chk_some h
    refine gt_12_32 c1 fl_RX12_94 dX12_closesOne_58 (?_ : Ex _ _ 61 _ _ _ _ _)
    refine x_iload_n dX12_closesOne_61 rfl rfl (?_ : Ex _ _ 62 _ _ _ _ _)
    obtain ⟨⟨c2, c3, c4⟩, h⟩ := chk_some h
    refine ld_i_10 c2 c3 c4 dX12_closesOne_62 (?_ : Ex _ _ 63 _ _ _ _ _)
    rcases ite_some h with ⟨b5, h⟩ | ⟨b5, h⟩
    · refine x_icmp_ge (tgt := 189) dX12_closesOne_63 rfl b5 (?_ : Ex _ _ 189 _ _ _ _ _)
      cases h
      exact x_retv dX12_closesOne_189
    · refine x_icmp_geN dX12_closesOne_63 (by decide) b5 (?_ : Ex _ _ 66 _ _ _ _ _)
      refine x_aload_n dX12_closesOne_66 rfl rfl (Or.inr (by decide)) (?_ : Ex _ _ 67 _ _ _ _ _)
      refine gt_12_33 c1 fl_RX12_97 dX12_closesOne_67 (?_ : Ex _ _ 70 _ _ _ _ _)
      refine x_bipush dX12_closesOne_70 kb_80 (by decide) (?_ : Ex _ _ 72 _ _ _ _ _)
      refine x_iload_n dX12_closesOne_72 rfl rfl (?_ : Ex _ _ 73 _ _ _ _ _)
      obtain ⟨c6, h⟩ := chk_some h
      refine x_imul dX12_closesOne_73 c6 (?_ : Ex _ _ 74 _ _ _ _ _)
      refine x_iload_n dX12_closesOne_74 rfl rfl (?_ : Ex _ _ 75 _ _ _ _ _)
      obtain ⟨c7, h⟩ := chk_some h
      refine x_iadd dX12_closesOne_75 c7 (?_ : Ex _ _ 76 _ _ _ _ _)
      obtain ⟨⟨c8, c9, c10⟩, h⟩ := chk_some h
      refine ld_i_800 c8 c9 c10 dX12_closesOne_76 (?_ : Ex _ _ 77 _ _ _ _ _)
      refine x_istore_n (ls2 := [(22, l0), (0, l1), (0, l2), (0, m (m l0 33) ((80 * l1) + l2)), (3, 0)]) dX12_closesOne_77 rfl (Nat.le_of_ble_eq_true rfl) rfl (?_ : Ex _ _ 78 _ _ _ _ _)
      refine x_iload_n dX12_closesOne_78 rfl rfl (?_ : Ex _ _ 79 _ _ _ _ _)
      refine x_iconst dX12_closesOne_79 rfl (by decide) (?_ : Ex _ _ 80 _ _ _ _ _)
      rcases ite_some h with ⟨b11, h⟩ | ⟨b11, h⟩
      · refine x_icmp_eq (tgt := 116) dX12_closesOne_80 rfl b11 (?_ : Ex _ _ 116 _ _ _ _ _)
        exact e_X12_closesOne_116 d ih h
      · refine x_icmp_eqN dX12_closesOne_80 (by decide) b11 (?_ : Ex _ _ 83 _ _ _ _ _)
        refine x_aload_n dX12_closesOne_83 rfl rfl (Or.inr (by decide)) (?_ : Ex _ _ 84 _ _ _ _ _)
        refine x_iload_n dX12_closesOne_84 rfl rfl (?_ : Ex _ _ 85 _ _ _ _ _)
        obtain ⟨v12, m13, g14, h⟩ := cal_some h
        refine cV1 (e_X12_isRunning (d + 2) g14) (contN (by decide) (?_ : Ex _ _ 88 _ _ _ _ _)) og_X12_isRunning rfl ml_RX12_209 12 rfl rfl c1 im_X12_isRunning se_X12_isRunning (Nat.le_of_ble_eq_true rfl) dX12_closesOne_85
        rcases ite_some h with ⟨b15, h⟩ | ⟨b15, h⟩
        · refine x_if_eq (tgt := 116) dX12_closesOne_88 rfl b15 (?_ : Ex _ _ 116 _ _ _ _ _)
          exact e_X12_closesOne_116 d ih h
        · refine x_if_eqN dX12_closesOne_88 (by decide) b15 (?_ : Ex _ _ 91 _ _ _ _ _)
          refine x_aload_n dX12_closesOne_91 rfl rfl (Or.inr (by decide)) (?_ : Ex _ _ 92 _ _ _ _ _)
          refine gt_12_34 c1 fl_RX12_100 dX12_closesOne_92 (?_ : Ex _ _ 95 _ _ _ _ _)
          refine x_bipush dX12_closesOne_95 kb_80 (by decide) (?_ : Ex _ _ 97 _ _ _ _ _)
          refine x_iload_n dX12_closesOne_97 rfl rfl (?_ : Ex _ _ 98 _ _ _ _ _)
          obtain ⟨c16, h⟩ := chk_some h
          refine x_imul dX12_closesOne_98 c16 (?_ : Ex _ _ 99 _ _ _ _ _)
          refine x_iload_n dX12_closesOne_99 rfl rfl (?_ : Ex _ _ 100 _ _ _ _ _)
          obtain ⟨c17, h⟩ := chk_some h
          refine x_iadd dX12_closesOne_100 c17 (?_ : Ex _ _ 101 _ _ _ _ _)
          obtain ⟨⟨c18, c19, c20⟩, h⟩ := chk_some h
          refine ld_i_800 c18 c19 c20 dX12_closesOne_101 (?_ : Ex _ _ 102 _ _ _ _ _)
          refine x_iconst dX12_closesOne_102 rfl (by decide) (?_ : Ex _ _ 103 _ _ _ _ _)
          rcases ite_some h with ⟨b21, h⟩ | ⟨b21, h⟩
          · refine x_icmp_neN dX12_closesOne_103 (by decide) (fun hh => hh b21) (?_ : Ex _ _ 106 _ _ _ _ _)
            refine x_aload_n dX12_closesOne_106 rfl rfl (Or.inr (by decide)) (?_ : Ex _ _ 107 _ _ _ _ _)
            refine x_iload_n dX12_closesOne_107 rfl rfl (?_ : Ex _ _ 108 _ _ _ _ _)
            obtain ⟨v22, m23, g24, h⟩ := cal_some h
            refine cV1 (e_X12_cancels d g24) (contN (by decide) (?_ : Ex _ _ 111 _ _ _ _ _)) og_X12_cancels rfl ml_RX12_231 12 rfl rfl c1 im_X12_cancels se_X12_cancels (Nat.le_of_ble_eq_true rfl) dX12_closesOne_108
            refine x_istore (ls2 := [(22, l0), (0, l1), (0, l2), (0, m (m l0 33) ((80 * l1) + l2)), (0, v22)]) dX12_closesOne_111 (Nat.le_of_ble_eq_true rfl) rfl (?_ : Ex _ _ 113 _ _ _ _ _)
            refine x_goto (tgt := 183) dX12_closesOne_113 rfl (?_ : Ex _ _ 183 _ _ _ _ _)
            obtain ⟨c25, h⟩ := chk_some h
            refine x_iinc (ls2 := [(22, l0), (0, l1), (0, (l2 + 1)), (0, m (m l0 33) ((80 * l1) + l2)), (0, v22)]) dX12_closesOne_183 rfl c25 rfl (?_ : Ex _ _ 186 _ _ _ _ _)
            refine x_goto (tgt := 56) dX12_closesOne_186 rfl (?_ : Ex _ _ 56 _ _ _ _ _)
            refine Ex.wk (ls2 := [(22, l0), (0, l1), (0, (l2 + 1)), (3, 0), (3, 0)]) ⟨Or.inr rfl, Or.inr rfl, Or.inr rfl, Or.inl rfl, Or.inl rfl, trivial⟩ ?_
            exact ih h
          · refine x_icmp_ne (tgt := 116) dX12_closesOne_103 rfl b21 (?_ : Ex _ _ 116 _ _ _ _ _)
            exact e_X12_closesOne_116 d ih h
theorem e_X12_closesOne_26 (d : Nat) {k56 : Int → Int → Int → Mem → Option R2} (hk56 : ∀ {l0 l1 l2 : Int} {m : Mem} {v : Int} {m' : Mem}, k56 l0 l1 l2 m = some (v, m') → Ex (d + 4) fm_X12_closesOne 56 [(22, l0), (0, l1), (0, l2), (3, 0), (3, 0)] [] m (.inl (3, 0)) m') : ∀ (n : Nat) {l0 l1 l2 : Int} {m : Mem} {v : Int} {m' : Mem}, X12_closesOne_26 k56 n l0 l1 l2 m = some (v, m') → Ex (d + 4) fm_X12_closesOne 26 [(22, l0), (0, l1), (0, l2), (3, 0), (3, 0)] [] m (.inl (3, 0)) m' := by
  intro n
  induction n with
  | zero =>
    intro l0 l1 l2 m v m' h
    have h : (none : Option R2) = some _ := h
    cases h
  | succ n ih =>
    intro l0 l1 l2 m v m' h
    rw [X12_closesOne_26] at h
    refine x_iload_n dX12_closesOne_26 rfl rfl (?_ : Ex _ _ 27 _ _ _ _ _)
    refine x_aload_n dX12_closesOne_27 rfl rfl (Or.inr (by decide)) (?_ : Ex _ _ 28 _ _ _ _ _)
    obtain ⟨c1, h⟩ := chk_some h
    refine gt_12_30 c1 fl_RX12_88 dX12_closesOne_28 (?_ : Ex _ _ 31 _ _ _ _ _)
    refine x_iload_n dX12_closesOne_31 rfl rfl (?_ : Ex _ _ 32 _ _ _ _ _)
    obtain ⟨⟨c2, c3, c4⟩, h⟩ := chk_some h
    refine ld_i_10 c2 c3 c4 dX12_closesOne_32 (?_ : Ex _ _ 33 _ _ _ _ _)
    rcases ite_some h with ⟨b5, h⟩ | ⟨b5, h⟩
    · refine x_icmp_ge (tgt := 54) dX12_closesOne_33 rfl b5 (?_ : Ex _ _ 54 _ _ _ _ _)
      refine x_iconst dX12_closesOne_54 rfl (by decide) (?_ : Ex _ _ 55 _ _ _ _ _)
      refine x_istore_n (ls2 := [(22, l0), (0, l1), (0, 0), (3, 0), (3, 0)]) dX12_closesOne_55 rfl (Nat.le_of_ble_eq_true rfl) rfl (?_ : Ex _ _ 56 _ _ _ _ _)
      exact hk56 h
    · refine x_icmp_geN dX12_closesOne_33 (by decide) b5 (?_ : Ex _ _ 36 _ _ _ _ _)
      refine x_aload_n dX12_closesOne_36 rfl rfl (Or.inr (by decide)) (?_ : Ex _ _ 37 _ _ _ _ _)
      refine gt_12_31 c1 fl_RX12_91 dX12_closesOne_37 (?_ : Ex _ _ 40 _ _ _ _ _)
      refine x_bipush dX12_closesOne_40 kb_80 (by decide) (?_ : Ex _ _ 42 _ _ _ _ _)
      refine x_iload_n dX12_closesOne_42 rfl rfl (?_ : Ex _ _ 43 _ _ _ _ _)
      obtain ⟨c6, h⟩ := chk_some h
      refine x_imul dX12_closesOne_43 c6 (?_ : Ex _ _ 44 _ _ _ _ _)
      refine x_iload_n dX12_closesOne_44 rfl rfl (?_ : Ex _ _ 45 _ _ _ _ _)
      obtain ⟨c7, h⟩ := chk_some h
      refine x_iadd dX12_closesOne_45 c7 (?_ : Ex _ _ 46 _ _ _ _ _)
      refine x_iconst dX12_closesOne_46 rfl (by decide) (?_ : Ex _ _ 47 _ _ _ _ _)
      obtain ⟨⟨c8, c9, c10⟩, h⟩ := chk_some h
      obtain ⟨m11, hm11, h⟩ := st_some h
      refine sd_i_800 c8 c9 c10 dX12_closesOne_47 (?_ : Ex _ _ 48 _ _ _ _ _)
      rw [← hm11]
      obtain ⟨c12, h⟩ := chk_some h
      refine x_iinc (ls2 := [(22, l0), (0, l1), (0, (l2 + 1)), (3, 0), (3, 0)]) dX12_closesOne_48 rfl c12 rfl (?_ : Ex _ _ 51 _ _ _ _ _)
      refine x_goto (tgt := 26) dX12_closesOne_51 rfl (?_ : Ex _ _ 26 _ _ _ _ _)
      exact ih h
theorem e_X12_closesOne_2 (d : Nat) {k26 : Int → Int → Int → Mem → Option R2} (hk26 : ∀ {l0 l1 l2 : Int} {m : Mem} {v : Int} {m' : Mem}, k26 l0 l1 l2 m = some (v, m') → Ex (d + 4) fm_X12_closesOne 26 [(22, l0), (0, l1), (0, l2), (3, 0), (3, 0)] [] m (.inl (3, 0)) m') : ∀ (n : Nat) {l0 l1 l2 : Int} {m : Mem} {v : Int} {m' : Mem}, X12_closesOne_2 k26 n l0 l1 l2 m = some (v, m') → Ex (d + 4) fm_X12_closesOne 2 [(22, l0), (0, l1), (0, l2), (3, 0), (3, 0)] [] m (.inl (3, 0)) m' := by
  intro n
  induction n with
  | zero =>
    intro l0 l1 l2 m v m' h
    have h : (none : Option R2) = some _ := h
    cases h
  | succ n ih =>
    intro l0 l1 l2 m v m' h
    rw [X12_closesOne_2] at h
    refine x_iload_n dX12_closesOne_2 rfl rfl (?_ : Ex _ _ 3 _ _ _ _ _)
    refine x_aload_n dX12_closesOne_3 rfl rfl (Or.inr (by decide)) (?_ : Ex _ _ 4 _ _ _ _ _)
    obtain ⟨c1, h⟩ := chk_some h
    refine gt_12_22 c1 fl_RX12_67 dX12_closesOne_4 (?_ : Ex _ _ 7 _ _ _ _ _)
    refine x_iload_n dX12_closesOne_7 rfl rfl (?_ : Ex _ _ 8 _ _ _ _ _)
    obtain ⟨⟨c2, c3, c4⟩, h⟩ := chk_some h
    refine ld_i_10 c2 c3 c4 dX12_closesOne_8 (?_ : Ex _ _ 9 _ _ _ _ _)
    rcases ite_some h with ⟨b5, h⟩ | ⟨b5, h⟩
    · refine x_icmp_ge (tgt := 24) dX12_closesOne_9 rfl b5 (?_ : Ex _ _ 24 _ _ _ _ _)
      refine x_iconst dX12_closesOne_24 rfl (by decide) (?_ : Ex _ _ 25 _ _ _ _ _)
      refine x_istore_n (ls2 := [(22, l0), (0, l1), (0, 0), (3, 0), (3, 0)]) dX12_closesOne_25 rfl (Nat.le_of_ble_eq_true rfl) rfl (?_ : Ex _ _ 26 _ _ _ _ _)
      exact hk26 h
    · refine x_icmp_geN dX12_closesOne_9 (by decide) b5 (?_ : Ex _ _ 12 _ _ _ _ _)
      refine x_aload_n dX12_closesOne_12 rfl rfl (Or.inr (by decide)) (?_ : Ex _ _ 13 _ _ _ _ _)
      refine x_iload_n dX12_closesOne_13 rfl rfl (?_ : Ex _ _ 14 _ _ _ _ _)
      refine x_iload_n dX12_closesOne_14 rfl rfl (?_ : Ex _ _ 15 _ _ _ _ _)
      obtain ⟨v6, m7, g8, h⟩ := cal_some h
      refine cV2 (e_X12_takesOff (d + 3) g8) (contV (?_ : Ex _ _ 18 _ _ _ _ _)) og_X12_takesOff rfl ml_RX12_401 12 rfl rfl c1 im_X12_takesOff se_X12_takesOff (Nat.le_of_ble_eq_true rfl) dX12_closesOne_15
      obtain ⟨c9, h⟩ := chk_some h
      refine x_iinc (ls2 := [(22, l0), (0, l1), (0, (l2 + 1)), (3, 0), (3, 0)]) dX12_closesOne_18 rfl c9 rfl (?_ : Ex _ _ 21 _ _ _ _ _)
      refine x_goto (tgt := 2) dX12_closesOne_21 rfl (?_ : Ex _ _ 2 _ _ _ _ _)
      exact ih h
theorem e_X12_closesOne_0 (d : Nat) {l0 l1 : Int} {m : Mem} {v : Int} {m' : Mem} (h : X12_closesOne_0 l0 l1 m = some (v, m')) : Ex (d + 4) fm_X12_closesOne 0 [(22, l0), (0, l1), (3, 0), (3, 0), (3, 0)] [] m (.inl (3, 0)) m' := by
  unfold X12_closesOne_0 at h
  refine x_iconst dX12_closesOne_0 rfl (by decide) (?_ : Ex _ _ 1 _ _ _ _ _)
  refine x_istore_n (ls2 := [(22, l0), (0, l1), (0, 0), (3, 0), (3, 0)]) dX12_closesOne_1 rfl (Nat.le_of_ble_eq_true rfl) rfl (?_ : Ex _ _ 2 _ _ _ _ _)
  exact e_X12_closesOne_2 d (fun h => e_X12_closesOne_26 d (fun h => e_X12_closesOne_56 d fuel9 h) fuel9 h) fuel9 h
theorem e_X12_closesOne (d : Nat) {a0 a1 : Int} {m : Mem} {v : Int} {m' : Mem} (h : X12_closesOne a0 a1 m = some (v, m')) : ExM (d + 4) fm_X12_closesOne [(22, a0), (0, a1)] m (.inl (3, 0)) m' := by
  exact ExM.of (by decide +kernel) (Nat.le_of_ble_eq_true rfl) (cat9 rfl) retV (e_X12_closesOne_0 d h)
theorem dX12_closes_0 : decode cX12_closes 0 = .ok (.aload_n 0, 1) := by decide +kernel
theorem dX12_closes_1 : decode cX12_closes 1 = .ok (.iconst 0, 1) := by decide +kernel
theorem dX12_closes_2 : decode cX12_closes 2 = .ok (.putfield 404, 3) := by decide +kernel
theorem dX12_closes_5 : decode cX12_closes 5 = .ok (.aload_n 0, 1) := by decide +kernel
theorem dX12_closes_6 : decode cX12_closes 6 = .ok (.getfield 170, 3) := by decide +kernel
theorem dX12_closes_9 : decode cX12_closes 9 = .ok (.aload_n 0, 1) := by decide +kernel
theorem dX12_closes_10 : decode cX12_closes 10 = .ok (.getfield 404, 3) := by decide +kernel
theorem dX12_closes_13 : decode cX12_closes 13 = .ok (.iload_n 1, 1) := by decide +kernel
theorem dX12_closes_14 : decode cX12_closes 14 = .ok (.iastore, 1) := by decide +kernel
theorem dX12_closes_15 : decode cX12_closes 15 = .ok (.aload_n 0, 1) := by decide +kernel
theorem dX12_closes_16 : decode cX12_closes 16 = .ok (.dup, 1) := by decide +kernel
theorem dX12_closes_17 : decode cX12_closes 17 = .ok (.getfield 404, 3) := by decide +kernel
theorem dX12_closes_20 : decode cX12_closes 20 = .ok (.iconst 1, 1) := by decide +kernel
theorem dX12_closes_21 : decode cX12_closes 21 = .ok (.iadd, 1) := by decide +kernel
theorem dX12_closes_22 : decode cX12_closes 22 = .ok (.putfield 404, 3) := by decide +kernel
theorem dX12_closes_25 : decode cX12_closes 25 = .ok (.aload_n 0, 1) := by decide +kernel
theorem dX12_closes_26 : decode cX12_closes 26 = .ok (.getfield 404, 3) := by decide +kernel
theorem dX12_closes_29 : decode cX12_closes 29 = .ok (.ifCond .le 29, 3) := by decide +kernel
theorem dX12_closes_32 : decode cX12_closes 32 = .ok (.aload_n 0, 1) := by decide +kernel
theorem dX12_closes_33 : decode cX12_closes 33 = .ok (.dup, 1) := by decide +kernel
theorem dX12_closes_34 : decode cX12_closes 34 = .ok (.getfield 404, 3) := by decide +kernel
theorem dX12_closes_37 : decode cX12_closes 37 = .ok (.iconst 1, 1) := by decide +kernel
theorem dX12_closes_38 : decode cX12_closes 38 = .ok (.isub, 1) := by decide +kernel
theorem dX12_closes_39 : decode cX12_closes 39 = .ok (.putfield 404, 3) := by decide +kernel
theorem dX12_closes_42 : decode cX12_closes 42 = .ok (.aload_n 0, 1) := by decide +kernel
theorem dX12_closes_43 : decode cX12_closes 43 = .ok (.aload_n 0, 1) := by decide +kernel
theorem dX12_closes_44 : decode cX12_closes 44 = .ok (.getfield 170, 3) := by decide +kernel
theorem dX12_closes_47 : decode cX12_closes 47 = .ok (.aload_n 0, 1) := by decide +kernel
theorem dX12_closes_48 : decode cX12_closes 48 = .ok (.getfield 404, 3) := by decide +kernel
theorem dX12_closes_51 : decode cX12_closes 51 = .ok (.iaload, 1) := by decide +kernel
theorem dX12_closes_52 : decode cX12_closes 52 = .ok (.invokevirtual 407, 3) := by decide +kernel
theorem dX12_closes_55 : decode cX12_closes 55 = .ok (.goto (-30), 3) := by decide +kernel
theorem dX12_closes_58 : decode cX12_closes 58 = .ok (.return_, 1) := by decide +kernel
theorem e_X12_closes_25 (d : Nat) : ∀ (n : Nat) {l0 : Int} {m : Mem} {v : Int} {m' : Mem}, X12_closes_25 n l0 m = some (v, m') → Ex (d + 5) fm_X12_closes 25 [(22, l0), (3, 0)] [] m (.inl (3, 0)) m' := by
  intro n
  induction n with
  | zero =>
    intro l0 m v m' h
    have h : (none : Option R2) = some _ := h
    cases h
  | succ n ih =>
    intro l0 m v m' h
    rw [X12_closes_25] at h
    refine x_aload_n dX12_closes_25 rfl rfl (Or.inr (by decide)) (?_ : Ex _ _ 26 _ _ _ _ _)
    obtain ⟨c1, h⟩ := chk_some h
    refine gt_12_82 c1 fl_RX12_404 dX12_closes_26 (?_ : Ex _ _ 29 _ _ _ _ _)
    rcases ite_some h with ⟨b2, h⟩ | ⟨b2, h⟩
    · refine x_if_le (tgt := 58) dX12_closes_29 rfl b2 (?_ : Ex _ _ 58 _ _ _ _ _)
      cases h
      exact x_retv dX12_closes_58
    · refine x_if_leN dX12_closes_29 (by decide) b2 (?_ : Ex _ _ 32 _ _ _ _ _)
      refine x_aload_n dX12_closes_32 rfl rfl (Or.inr (by decide)) (?_ : Ex _ _ 33 _ _ _ _ _)
      refine x_dup (by decide : (22 : Int) ≠ 2) dX12_closes_33 (?_ : Ex _ _ 34 _ _ _ _ _)
      refine gt_12_82 c1 fl_RX12_404 dX12_closes_34 (?_ : Ex _ _ 37 _ _ _ _ _)
      refine x_iconst dX12_closes_37 rfl (by decide) (?_ : Ex _ _ 38 _ _ _ _ _)
      obtain ⟨c3, h⟩ := chk_some h
      refine x_isub dX12_closes_38 c3 (?_ : Ex _ _ 39 _ _ _ _ _)
      obtain ⟨m4, hm4, h⟩ := st_some h
      refine pt_12_82  c1 fl_RX12_404 dX12_closes_39 (?_ : Ex _ _ 42 _ _ _ _ _)
      rw [← hm4]
      refine x_aload_n dX12_closes_42 rfl rfl (Or.inr (by decide)) (?_ : Ex _ _ 43 _ _ _ _ _)
      refine x_aload_n dX12_closes_43 rfl rfl (Or.inr (by decide)) (?_ : Ex _ _ 44 _ _ _ _ _)
      refine gt_12_81 c1 fl_RX12_170 dX12_closes_44 (?_ : Ex _ _ 47 _ _ _ _ _)
      refine x_aload_n dX12_closes_47 rfl rfl (Or.inr (by decide)) (?_ : Ex _ _ 48 _ _ _ _ _)
      refine gt_12_82 c1 fl_RX12_404 dX12_closes_48 (?_ : Ex _ _ 51 _ _ _ _ _)
      obtain ⟨⟨c5, c6, c7⟩, h⟩ := chk_some h
      refine ld_i_16 c5 c6 c7 dX12_closes_51 (?_ : Ex _ _ 52 _ _ _ _ _)
      obtain ⟨v8, m9, g10, h⟩ := cal_some h
      refine cV1 (e_X12_closesOne d g10) (contV (?_ : Ex _ _ 55 _ _ _ _ _)) og_X12_closesOne rfl ml_RX12_407 12 rfl rfl c1 im_X12_closesOne se_X12_closesOne (Nat.le_of_ble_eq_true rfl) dX12_closes_52
      refine x_goto (tgt := 25) dX12_closes_55 rfl (?_ : Ex _ _ 25 _ _ _ _ _)
      exact ih h
theorem e_X12_closes_0 (d : Nat) {l0 l1 : Int} {m : Mem} {v : Int} {m' : Mem} (h : X12_closes_0 l0 l1 m = some (v, m')) : Ex (d + 5) fm_X12_closes 0 [(22, l0), (0, l1)] [] m (.inl (3, 0)) m' := by
  unfold X12_closes_0 at h
  refine x_aload_n dX12_closes_0 rfl rfl (Or.inr (by decide)) (?_ : Ex _ _ 1 _ _ _ _ _)
  refine x_iconst dX12_closes_1 rfl (by decide) (?_ : Ex _ _ 2 _ _ _ _ _)
  obtain ⟨c1, h⟩ := chk_some h
  obtain ⟨m2, hm2, h⟩ := st_some h
  refine pt_12_82  c1 fl_RX12_404 dX12_closes_2 (?_ : Ex _ _ 5 _ _ _ _ _)
  rw [← hm2]
  refine x_aload_n dX12_closes_5 rfl rfl (Or.inr (by decide)) (?_ : Ex _ _ 6 _ _ _ _ _)
  refine gt_12_81 c1 fl_RX12_170 dX12_closes_6 (?_ : Ex _ _ 9 _ _ _ _ _)
  refine x_aload_n dX12_closes_9 rfl rfl (Or.inr (by decide)) (?_ : Ex _ _ 10 _ _ _ _ _)
  refine gt_12_82 c1 fl_RX12_404 dX12_closes_10 (?_ : Ex _ _ 13 _ _ _ _ _)
  refine x_iload_n dX12_closes_13 rfl rfl (?_ : Ex _ _ 14 _ _ _ _ _)
  obtain ⟨⟨c3, c4, c5⟩, h⟩ := chk_some h
  obtain ⟨m6, hm6, h⟩ := st_some h
  refine sd_i_16 c3 c4 c5 dX12_closes_14 (?_ : Ex _ _ 15 _ _ _ _ _)
  rw [← hm6]
  refine x_aload_n dX12_closes_15 rfl rfl (Or.inr (by decide)) (?_ : Ex _ _ 16 _ _ _ _ _)
  refine x_dup (by decide : (22 : Int) ≠ 2) dX12_closes_16 (?_ : Ex _ _ 17 _ _ _ _ _)
  refine gt_12_82 c1 fl_RX12_404 dX12_closes_17 (?_ : Ex _ _ 20 _ _ _ _ _)
  refine x_iconst dX12_closes_20 rfl (by decide) (?_ : Ex _ _ 21 _ _ _ _ _)
  obtain ⟨c7, h⟩ := chk_some h
  refine x_iadd dX12_closes_21 c7 (?_ : Ex _ _ 22 _ _ _ _ _)
  obtain ⟨m8, hm8, h⟩ := st_some h
  refine pt_12_82  c1 fl_RX12_404 dX12_closes_22 (?_ : Ex _ _ 25 _ _ _ _ _)
  rw [← hm8]
  refine Ex.wk (ls2 := [(22, l0), (3, 0)]) ⟨Or.inr rfl, Or.inl rfl, trivial⟩ ?_
  exact e_X12_closes_25 d fuel9 h
theorem e_X12_closes (d : Nat) {a0 a1 : Int} {m : Mem} {v : Int} {m' : Mem} (h : X12_closes a0 a1 m = some (v, m')) : ExM (d + 5) fm_X12_closes [(22, a0), (0, a1)] m (.inl (3, 0)) m' := by
  exact ExM.of (by decide +kernel) (Nat.le_of_ble_eq_true rfl) (cat9 rfl) retV (e_X12_closes_0 d h)
theorem dX12_over_0 : decode cX12_over 0 = .ok (.aload_n 0, 1) := by decide +kernel
theorem dX12_over_1 : decode cX12_over 1 = .ok (.getfield 52, 3) := by decide +kernel
theorem dX12_over_4 : decode cX12_over 4 = .ok (.aload_n 0, 1) := by decide +kernel
theorem dX12_over_5 : decode cX12_over 5 = .ok (.iload_n 1, 1) := by decide +kernel
theorem dX12_over_6 : decode cX12_over 6 = .ok (.invokevirtual 205, 3) := by decide +kernel
theorem dX12_over_9 : decode cX12_over 9 = .ok (.iload_n 2, 1) := by decide +kernel
theorem dX12_over_10 : decode cX12_over 10 = .ok (.iastore, 1) := by decide +kernel
theorem dX12_over_11 : decode cX12_over 11 = .ok (.aload_n 0, 1) := by decide +kernel
theorem dX12_over_12 : decode cX12_over 12 = .ok (.iload_n 1, 1) := by decide +kernel
theorem dX12_over_13 : decode cX12_over 13 = .ok (.invokevirtual 410, 3) := by decide +kernel
theorem dX12_over_16 : decode cX12_over 16 = .ok (.aload_n 0, 1) := by decide +kernel
theorem dX12_over_17 : decode cX12_over 17 = .ok (.getfield 31, 3) := by decide +kernel
theorem dX12_over_20 : decode cX12_over 20 = .ok (.iload_n 1, 1) := by decide +kernel
theorem dX12_over_21 : decode cX12_over 21 = .ok (.iaload, 1) := by decide +kernel
theorem dX12_over_22 : decode cX12_over 22 = .ok (.istore 4, 2) := by decide +kernel
theorem dX12_over_24 : decode cX12_over 24 = .ok (.iload_n 2, 1) := by decide +kernel
theorem dX12_over_25 : decode cX12_over 25 = .ok (.bipush 14, 2) := by decide +kernel
theorem dX12_over_27 : decode cX12_over 27 = .ok (.if_icmp .ne 96, 3) := by decide +kernel
theorem dX12_over_30 : decode cX12_over 30 = .ok (.aload_n 0, 1) := by decide +kernel
theorem dX12_over_31 : decode cX12_over 31 = .ok (.iload_n 1, 1) := by decide +kernel
theorem dX12_over_32 : decode cX12_over 32 = .ok (.iload_n 3, 1) := by decide +kernel
theorem dX12_over_33 : decode cX12_over 33 = .ok (.invokevirtual 216, 3) := by decide +kernel
theorem dX12_over_36 : decode cX12_over 36 = .ok (.iconst 0, 1) := by decide +kernel
theorem dX12_over_37 : decode cX12_over 37 = .ok (.istore 5, 2) := by decide +kernel
theorem dX12_over_39 : decode cX12_over 39 = .ok (.iload 5, 2) := by decide +kernel
theorem dX12_over_41 : decode cX12_over 41 = .ok (.aload_n 0, 1) := by decide +kernel
theorem dX12_over_42 : decode cX12_over 42 = .ok (.getfield 277, 3) := by decide +kernel
theorem dX12_over_45 : decode cX12_over 45 = .ok (.if_icmp .ge 49, 3) := by decide +kernel
theorem dX12_over_48 : decode cX12_over 48 = .ok (.aload_n 0, 1) := by decide +kernel
theorem dX12_over_49 : decode cX12_over 49 = .ok (.getfield 149, 3) := by decide +kernel
theorem dX12_over_52 : decode cX12_over 52 = .ok (.iload 5, 2) := by decide +kernel
theorem dX12_over_54 : decode cX12_over 54 = .ok (.baload, 1) := by decide +kernel
theorem dX12_over_55 : decode cX12_over 55 = .ok (.ifCond .ne 30, 3) := by decide +kernel
theorem dX12_over_58 : decode cX12_over 58 = .ok (.aload_n 0, 1) := by decide +kernel
theorem dX12_over_59 : decode cX12_over 59 = .ok (.iload_n 1, 1) := by decide +kernel
theorem dX12_over_60 : decode cX12_over 60 = .ok (.iconst 4, 1) := by decide +kernel
theorem dX12_over_61 : decode cX12_over 61 = .ok (.aload_n 0, 1) := by decide +kernel
theorem dX12_over_62 : decode cX12_over 62 = .ok (.getfield 143, 3) := by decide +kernel
theorem dX12_over_65 : decode cX12_over 65 = .ok (.iload 5, 2) := by decide +kernel
theorem dX12_over_67 : decode cX12_over 67 = .ok (.iaload, 1) := by decide +kernel
theorem dX12_over_68 : decode cX12_over 68 = .ok (.aload_n 0, 1) := by decide +kernel
theorem dX12_over_69 : decode cX12_over 69 = .ok (.getfield 146, 3) := by decide +kernel
theorem dX12_over_72 : decode cX12_over 72 = .ok (.iload 5, 2) := by decide +kernel
theorem dX12_over_74 : decode cX12_over 74 = .ok (.iaload, 1) := by decide +kernel
theorem dX12_over_75 : decode cX12_over 75 = .ok (.invokevirtual 227, 3) := by decide +kernel
theorem dX12_over_78 : decode cX12_over 78 = .ok (.ifCond .eq 7, 3) := by decide +kernel
theorem dX12_over_81 : decode cX12_over 81 = .ok (.iconst 1, 1) := by decide +kernel
theorem dX12_over_82 : decode cX12_over 82 = .ok (.goto 4, 3) := by decide +kernel
theorem dX12_over_85 : decode cX12_over 85 = .ok (.iconst 0, 1) := by decide +kernel
theorem dX12_over_86 : decode cX12_over 86 = .ok (.istore 6, 2) := by decide +kernel
theorem dX12_over_88 : decode cX12_over 88 = .ok (.iinc 5 1, 3) := by decide +kernel
theorem dX12_over_91 : decode cX12_over 91 = .ok (.goto (-52), 3) := by decide +kernel
theorem dX12_over_94 : decode cX12_over 94 = .ok (.aload_n 0, 1) := by decide +kernel
theorem dX12_over_95 : decode cX12_over 95 = .ok (.getfield 259, 3) := by decide +kernel
theorem dX12_over_98 : decode cX12_over 98 = .ok (.ifCond .eq 19, 3) := by decide +kernel
theorem dX12_over_101 : decode cX12_over 101 = .ok (.aload_n 0, 1) := by decide +kernel
theorem dX12_over_102 : decode cX12_over 102 = .ok (.iload_n 1, 1) := by decide +kernel
theorem dX12_over_103 : decode cX12_over 103 = .ok (.bipush 6, 2) := by decide +kernel
theorem dX12_over_105 : decode cX12_over 105 = .ok (.iconst 0, 1) := by decide +kernel
theorem dX12_over_106 : decode cX12_over 106 = .ok (.iconst 0, 1) := by decide +kernel
theorem dX12_over_107 : decode cX12_over 107 = .ok (.invokevirtual 227, 3) := by decide +kernel
theorem dX12_over_110 : decode cX12_over 110 = .ok (.ifCond .eq 7, 3) := by decide +kernel
theorem dX12_over_113 : decode cX12_over 113 = .ok (.iconst 1, 1) := by decide +kernel
theorem dX12_over_114 : decode cX12_over 114 = .ok (.goto 4, 3) := by decide +kernel
theorem dX12_over_117 : decode cX12_over 117 = .ok (.iconst 0, 1) := by decide +kernel
theorem dX12_over_118 : decode cX12_over 118 = .ok (.istore 5, 2) := by decide +kernel
theorem dX12_over_120 : decode cX12_over 120 = .ok (.goto 51, 3) := by decide +kernel
theorem dX12_over_123 : decode cX12_over 123 = .ok (.iload 4, 2) := by decide +kernel
theorem dX12_over_125 : decode cX12_over 125 = .ok (.iconst (-1), 1) := by decide +kernel
theorem dX12_over_126 : decode cX12_over 126 = .ok (.if_icmp .eq 45, 3) := by decide +kernel
theorem dX12_over_129 : decode cX12_over 129 = .ok (.aload_n 0, 1) := by decide +kernel
theorem dX12_over_130 : decode cX12_over 130 = .ok (.getfield 40, 3) := by decide +kernel
theorem dX12_over_133 : decode cX12_over 133 = .ok (.iload 4, 2) := by decide +kernel
theorem dX12_over_135 : decode cX12_over 135 = .ok (.iaload, 1) := by decide +kernel
theorem dX12_over_136 : decode cX12_over 136 = .ok (.aload_n 0, 1) := by decide +kernel
theorem dX12_over_137 : decode cX12_over 137 = .ok (.getfield 34, 3) := by decide +kernel
theorem dX12_over_140 : decode cX12_over 140 = .ok (.iload_n 1, 1) := by decide +kernel
theorem dX12_over_141 : decode cX12_over 141 = .ok (.iaload, 1) := by decide +kernel
theorem dX12_over_142 : decode cX12_over 142 = .ok (.if_icmp .ne 29, 3) := by decide +kernel
theorem dX12_over_145 : decode cX12_over 145 = .ok (.aload_n 0, 1) := by decide +kernel
theorem dX12_over_146 : decode cX12_over 146 = .ok (.iload 4, 2) := by decide +kernel
theorem dX12_over_148 : decode cX12_over 148 = .ok (.iconst 5, 1) := by decide +kernel
theorem dX12_over_149 : decode cX12_over 149 = .ok (.aload_n 0, 1) := by decide +kernel
theorem dX12_over_150 : decode cX12_over 150 = .ok (.getfield 37, 3) := by decide +kernel
theorem dX12_over_153 : decode cX12_over 153 = .ok (.iload_n 1, 1) := by decide +kernel
theorem dX12_over_154 : decode cX12_over 154 = .ok (.iaload, 1) := by decide +kernel
theorem dX12_over_155 : decode cX12_over 155 = .ok (.iload_n 2, 1) := by decide +kernel
theorem dX12_over_156 : decode cX12_over 156 = .ok (.bipush 21, 2) := by decide +kernel
theorem dX12_over_158 : decode cX12_over 158 = .ok (.if_icmp .ne 7, 3) := by decide +kernel
theorem dX12_over_161 : decode cX12_over 161 = .ok (.iload_n 3, 1) := by decide +kernel
theorem dX12_over_162 : decode cX12_over 162 = .ok (.goto 4, 3) := by decide +kernel
theorem dX12_over_165 : decode cX12_over 165 = .ok (.iconst (-1), 1) := by decide +kernel
theorem dX12_over_166 : decode cX12_over 166 = .ok (.invokevirtual 227, 3) := by decide +kernel
theorem dX12_over_169 : decode cX12_over 169 = .ok (.istore 5, 2) := by decide +kernel
theorem dX12_over_171 : decode cX12_over 171 = .ok (.return_, 1) := by decide +kernel
theorem e_X12_over_94 (d : Nat) {l0 l1 : Int} {m : Mem} {v : Int} {m' : Mem} (h : X12_over_94 l0 l1 m = some (v, m')) : Ex (d + 6) fm_X12_over 94 [(22, l0), (0, l1), (3, 0), (3, 0), (3, 0), (3, 0), (3, 0)] [] m (.inl (3, 0)) m' := by
  unfold X12_over_94 at h
  refine x_aload_n dX12_over_94 rfl rfl (Or.inr (by decide)) (?_ : Ex _ _ 95 _ _ _ _ _)
  obtain ⟨c1, h⟩ := chk_some h
  refine gt_12_47 c1 fl_RX12_259 dX12_over_95 (?_ : Ex _ _ 98 _ _ _ _ _)
  rcases ite_some h with ⟨b2, h⟩ | ⟨b2, h⟩
  · refine x_if_eq (tgt := 117) dX12_over_98 rfl b2 (?_ : Ex _ _ 117 _ _ _ _ _)
    refine x_iconst dX12_over_117 rfl (by decide) (?_ : Ex _ _ 118 _ _ _ _ _)
    refine x_istore (ls2 := [(22, l0), (0, l1), (3, 0), (3, 0), (3, 0), (0, 0), (3, 0)]) dX12_over_118 (Nat.le_of_ble_eq_true rfl) rfl (?_ : Ex _ _ 120 _ _ _ _ _)
    refine x_goto (tgt := 171) dX12_over_120 rfl (?_ : Ex _ _ 171 _ _ _ _ _)
    cases h
    exact x_retv dX12_over_171
  · refine x_if_eqN dX12_over_98 (by decide) b2 (?_ : Ex _ _ 101 _ _ _ _ _)
    refine x_aload_n dX12_over_101 rfl rfl (Or.inr (by decide)) (?_ : Ex _ _ 102 _ _ _ _ _)
    refine x_iload_n dX12_over_102 rfl rfl (?_ : Ex _ _ 103 _ _ _ _ _)
    refine x_bipush dX12_over_103 kb_6 (by decide) (?_ : Ex _ _ 105 _ _ _ _ _)
    refine x_iconst dX12_over_105 rfl (by decide) (?_ : Ex _ _ 106 _ _ _ _ _)
    refine x_iconst dX12_over_106 rfl (by decide) (?_ : Ex _ _ 107 _ _ _ _ _)
    obtain ⟨v3, m4, g5, h⟩ := cal_some h
    refine cV4 (e_X12_happens (d + 3) g5) (contN (by decide) (?_ : Ex _ _ 110 _ _ _ _ _)) og_X12_happens rfl ml_RX12_227 12 rfl rfl c1 im_X12_happens se_X12_happens (Nat.le_of_ble_eq_true rfl) dX12_over_107
    rcases ite_some h with ⟨b6, h⟩ | ⟨b6, h⟩
    · refine x_if_eq (tgt := 117) dX12_over_110 rfl b6 (?_ : Ex _ _ 117 _ _ _ _ _)
      refine x_iconst dX12_over_117 rfl (by decide) (?_ : Ex _ _ 118 _ _ _ _ _)
      refine x_istore (ls2 := [(22, l0), (0, l1), (3, 0), (3, 0), (3, 0), (0, 0), (3, 0)]) dX12_over_118 (Nat.le_of_ble_eq_true rfl) rfl (?_ : Ex _ _ 120 _ _ _ _ _)
      refine x_goto (tgt := 171) dX12_over_120 rfl (?_ : Ex _ _ 171 _ _ _ _ _)
      cases h
      exact x_retv dX12_over_171
    · refine x_if_eqN dX12_over_110 (by decide) b6 (?_ : Ex _ _ 113 _ _ _ _ _)
      refine x_iconst dX12_over_113 rfl (by decide) (?_ : Ex _ _ 114 _ _ _ _ _)
      refine x_goto (tgt := 118) dX12_over_114 rfl (?_ : Ex _ _ 118 _ _ _ _ _)
      refine x_istore (ls2 := [(22, l0), (0, l1), (3, 0), (3, 0), (3, 0), (0, 1), (3, 0)]) dX12_over_118 (Nat.le_of_ble_eq_true rfl) rfl (?_ : Ex _ _ 120 _ _ _ _ _)
      refine x_goto (tgt := 171) dX12_over_120 rfl (?_ : Ex _ _ 171 _ _ _ _ _)
      cases h
      exact x_retv dX12_over_171
theorem e_X12_over_39 (d : Nat) {k94 : Int → Int → Mem → Option R2} (hk94 : ∀ {l0 l1 : Int} {m : Mem} {v : Int} {m' : Mem}, k94 l0 l1 m = some (v, m') → Ex (d + 6) fm_X12_over 94 [(22, l0), (0, l1), (3, 0), (3, 0), (3, 0), (3, 0), (3, 0)] [] m (.inl (3, 0)) m') : ∀ (n : Nat) {l0 l1 l5 : Int} {m : Mem} {v : Int} {m' : Mem}, X12_over_39 k94 n l0 l1 l5 m = some (v, m') → Ex (d + 6) fm_X12_over 39 [(22, l0), (0, l1), (3, 0), (3, 0), (3, 0), (0, l5), (3, 0)] [] m (.inl (3, 0)) m' := by
  intro n
  induction n with
  | zero =>
    intro l0 l1 l5 m v m' h
    have h : (none : Option R2) = some _ := h
    cases h
  | succ n ih =>
    intro l0 l1 l5 m v m' h
    rw [X12_over_39] at h
    refine x_iload dX12_over_39 rfl (?_ : Ex _ _ 41 _ _ _ _ _)
    refine x_aload_n dX12_over_41 rfl rfl (Or.inr (by decide)) (?_ : Ex _ _ 42 _ _ _ _ _)
    obtain ⟨c1, h⟩ := chk_some h
    refine gt_12_68 c1 fl_RX12_277 dX12_over_42 (?_ : Ex _ _ 45 _ _ _ _ _)
    rcases ite_some h with ⟨b2, h⟩ | ⟨b2, h⟩
    · refine x_icmp_ge (tgt := 94) dX12_over_45 rfl b2 (?_ : Ex _ _ 94 _ _ _ _ _)
      refine Ex.wk (ls2 := [(22, l0), (0, l1), (3, 0), (3, 0), (3, 0), (3, 0), (3, 0)]) ⟨Or.inr rfl, Or.inr rfl, Or.inl rfl, Or.inl rfl, Or.inl rfl, Or.inl rfl, Or.inl rfl, trivial⟩ ?_
      exact hk94 h
    · refine x_icmp_geN dX12_over_45 (by decide) b2 (?_ : Ex _ _ 48 _ _ _ _ _)
      refine x_aload_n dX12_over_48 rfl rfl (Or.inr (by decide)) (?_ : Ex _ _ 49 _ _ _ _ _)
      refine gt_12_67 c1 fl_RX12_149 dX12_over_49 (?_ : Ex _ _ 52 _ _ _ _ _)
      refine x_iload dX12_over_52 rfl (?_ : Ex _ _ 54 _ _ _ _ _)
      obtain ⟨⟨c3, c4, c5⟩, h⟩ := chk_some h
      refine ld_b_80 c3 c4 c5 dX12_over_54 (?_ : Ex _ _ 55 _ _ _ _ _)
      rcases ite_some h with ⟨b6, h⟩ | ⟨b6, h⟩
      · refine x_if_neN dX12_over_55 (by decide) (fun hh => hh b6) (?_ : Ex _ _ 58 _ _ _ _ _)
        refine x_aload_n dX12_over_58 rfl rfl (Or.inr (by decide)) (?_ : Ex _ _ 59 _ _ _ _ _)
        refine x_iload_n dX12_over_59 rfl rfl (?_ : Ex _ _ 60 _ _ _ _ _)
        refine x_iconst dX12_over_60 rfl (by decide) (?_ : Ex _ _ 61 _ _ _ _ _)
        refine x_aload_n dX12_over_61 rfl rfl (Or.inr (by decide)) (?_ : Ex _ _ 62 _ _ _ _ _)
        refine gt_12_65 c1 fl_RX12_143 dX12_over_62 (?_ : Ex _ _ 65 _ _ _ _ _)
        refine x_iload dX12_over_65 rfl (?_ : Ex _ _ 67 _ _ _ _ _)
        obtain ⟨⟨c8, c9, c10⟩, h⟩ := chk_some h
        refine ld_i_80 c8 c9 c10 dX12_over_67 (?_ : Ex _ _ 68 _ _ _ _ _)
        refine x_aload_n dX12_over_68 rfl rfl (Or.inr (by decide)) (?_ : Ex _ _ 69 _ _ _ _ _)
        refine gt_12_66 c1 fl_RX12_146 dX12_over_69 (?_ : Ex _ _ 72 _ _ _ _ _)
        refine x_iload dX12_over_72 rfl (?_ : Ex _ _ 74 _ _ _ _ _)
        obtain ⟨⟨c11, c12, c13⟩, h⟩ := chk_some h
        refine ld_i_80 c11 c12 c13 dX12_over_74 (?_ : Ex _ _ 75 _ _ _ _ _)
        obtain ⟨v14, m15, g16, h⟩ := cal_some h
        refine cV4 (e_X12_happens (d + 3) g16) (contN (by decide) (?_ : Ex _ _ 78 _ _ _ _ _)) og_X12_happens rfl ml_RX12_227 12 rfl rfl c1 im_X12_happens se_X12_happens (Nat.le_of_ble_eq_true rfl) dX12_over_75
        rcases ite_some h with ⟨b17, h⟩ | ⟨b17, h⟩
        · refine x_if_eq (tgt := 85) dX12_over_78 rfl b17 (?_ : Ex _ _ 85 _ _ _ _ _)
          refine x_iconst dX12_over_85 rfl (by decide) (?_ : Ex _ _ 86 _ _ _ _ _)
          refine x_istore (ls2 := [(22, l0), (0, l1), (3, 0), (3, 0), (3, 0), (0, l5), (0, 0)]) dX12_over_86 (Nat.le_of_ble_eq_true rfl) rfl (?_ : Ex _ _ 88 _ _ _ _ _)
          obtain ⟨c18, h⟩ := chk_some h
          refine x_iinc (ls2 := [(22, l0), (0, l1), (3, 0), (3, 0), (3, 0), (0, (l5 + 1)), (0, 0)]) dX12_over_88 rfl c18 rfl (?_ : Ex _ _ 91 _ _ _ _ _)
          refine x_goto (tgt := 39) dX12_over_91 rfl (?_ : Ex _ _ 39 _ _ _ _ _)
          refine Ex.wk (ls2 := [(22, l0), (0, l1), (3, 0), (3, 0), (3, 0), (0, (l5 + 1)), (3, 0)]) ⟨Or.inr rfl, Or.inr rfl, Or.inl rfl, Or.inl rfl, Or.inl rfl, Or.inr rfl, Or.inl rfl, trivial⟩ ?_
          exact ih h
        · refine x_if_eqN dX12_over_78 (by decide) b17 (?_ : Ex _ _ 81 _ _ _ _ _)
          refine x_iconst dX12_over_81 rfl (by decide) (?_ : Ex _ _ 82 _ _ _ _ _)
          refine x_goto (tgt := 86) dX12_over_82 rfl (?_ : Ex _ _ 86 _ _ _ _ _)
          refine x_istore (ls2 := [(22, l0), (0, l1), (3, 0), (3, 0), (3, 0), (0, l5), (0, 1)]) dX12_over_86 (Nat.le_of_ble_eq_true rfl) rfl (?_ : Ex _ _ 88 _ _ _ _ _)
          obtain ⟨c19, h⟩ := chk_some h
          refine x_iinc (ls2 := [(22, l0), (0, l1), (3, 0), (3, 0), (3, 0), (0, (l5 + 1)), (0, 1)]) dX12_over_88 rfl c19 rfl (?_ : Ex _ _ 91 _ _ _ _ _)
          refine x_goto (tgt := 39) dX12_over_91 rfl (?_ : Ex _ _ 39 _ _ _ _ _)
          refine Ex.wk (ls2 := [(22, l0), (0, l1), (3, 0), (3, 0), (3, 0), (0, (l5 + 1)), (3, 0)]) ⟨Or.inr rfl, Or.inr rfl, Or.inl rfl, Or.inl rfl, Or.inl rfl, Or.inr rfl, Or.inl rfl, trivial⟩ ?_
          exact ih h
      · refine x_if_ne (tgt := 85) dX12_over_55 rfl b6 (?_ : Ex _ _ 85 _ _ _ _ _)
        refine x_iconst dX12_over_85 rfl (by decide) (?_ : Ex _ _ 86 _ _ _ _ _)
        refine x_istore (ls2 := [(22, l0), (0, l1), (3, 0), (3, 0), (3, 0), (0, l5), (0, 0)]) dX12_over_86 (Nat.le_of_ble_eq_true rfl) rfl (?_ : Ex _ _ 88 _ _ _ _ _)
        obtain ⟨c7, h⟩ := chk_some h
        refine x_iinc (ls2 := [(22, l0), (0, l1), (3, 0), (3, 0), (3, 0), (0, (l5 + 1)), (0, 0)]) dX12_over_88 rfl c7 rfl (?_ : Ex _ _ 91 _ _ _ _ _)
        refine x_goto (tgt := 39) dX12_over_91 rfl (?_ : Ex _ _ 39 _ _ _ _ _)
        refine Ex.wk (ls2 := [(22, l0), (0, l1), (3, 0), (3, 0), (3, 0), (0, (l5 + 1)), (3, 0)]) ⟨Or.inr rfl, Or.inr rfl, Or.inl rfl, Or.inl rfl, Or.inl rfl, Or.inr rfl, Or.inl rfl, trivial⟩ ?_
        exact ih h
theorem e_X12_over_166 (d : Nat) {s0 s1 s2 s3 s4 : Int} {m : Mem} {v : Int} {m' : Mem} (h : X12_over_166 s0 s1 s2 s3 s4 m = some (v, m')) : Ex (d + 6) fm_X12_over 166 [(3, 0), (3, 0), (3, 0), (3, 0), (3, 0), (3, 0), (3, 0)] [(0, s0), (0, s1), (0, s2), (0, s3), (22, s4)] m (.inl (3, 0)) m' := by
  unfold X12_over_166 at h
  obtain ⟨c1, h⟩ := chk_some h
  obtain ⟨v2, m3, g4, h⟩ := cal_some h
  refine cV4 (e_X12_happens (d + 3) g4) (contN (by decide) (?_ : Ex _ _ 169 _ _ _ _ _)) og_X12_happens rfl ml_RX12_227 12 rfl rfl c1 im_X12_happens se_X12_happens (Nat.le_of_ble_eq_true rfl) dX12_over_166
  refine x_istore (ls2 := [(3, 0), (3, 0), (3, 0), (3, 0), (3, 0), (0, v2), (3, 0)]) dX12_over_169 (Nat.le_of_ble_eq_true rfl) rfl (?_ : Ex _ _ 171 _ _ _ _ _)
  cases h
  exact x_retv dX12_over_171
theorem e_X12_over_0 (d : Nat) {l0 l1 l2 l3 : Int} {m : Mem} {v : Int} {m' : Mem} (h : X12_over_0 l0 l1 l2 l3 m = some (v, m')) : Ex (d + 6) fm_X12_over 0 [(22, l0), (0, l1), (0, l2), (0, l3), (3, 0), (3, 0), (3, 0)] [] m (.inl (3, 0)) m' := by
  unfold X12_over_0 at h
  refine x_aload_n dX12_over_0 rfl rfl (Or.inr (by decide)) (?_ : Ex _ _ 1 _ _ _ _ _)
  obtain ⟨c1, h⟩ := chk_some h
  refine gt_12_17 c1 fl_RX12_52 dX12_over_1 (?_ : Ex _ _ 4 _ _ _ _ _)
  refine x_aload_n dX12_over_4 rfl rfl (Or.inr (by decide)) (?_ : Ex _ _ 5 _ _ _ _ _)
  refine x_iload_n dX12_over_5 rfl rfl (?_ : Ex _ _ 6 _ _ _ _ _)
  obtain ⟨v2, m3, g4, h⟩ := cal_some h
  refine cV1 (e_X12_rowOfRun (d + 5) g4) (contN (by decide) (?_ : Ex _ _ 9 _ _ _ _ _)) og_X12_rowOfRun rfl ml_RX12_205 12 rfl rfl c1 im_X12_rowOfRun se_X12_rowOfRun (Nat.le_of_ble_eq_true rfl) dX12_over_6
  refine x_iload_n dX12_over_9 rfl rfl (?_ : Ex _ _ 10 _ _ _ _ _)
  obtain ⟨⟨c5, c6, c7⟩, h⟩ := chk_some h
  obtain ⟨m8, hm8, h⟩ := st_some h
  refine sd_i_90 c5 c6 c7 dX12_over_10 (?_ : Ex _ _ 11 _ _ _ _ _)
  rw [← hm8]
  refine x_aload_n dX12_over_11 rfl rfl (Or.inr (by decide)) (?_ : Ex _ _ 12 _ _ _ _ _)
  refine x_iload_n dX12_over_12 rfl rfl (?_ : Ex _ _ 13 _ _ _ _ _)
  obtain ⟨v9, m10, g11, h⟩ := cal_some h
  refine cV1 (e_X12_closes d g11) (contV (?_ : Ex _ _ 16 _ _ _ _ _)) og_X12_closes rfl ml_RX12_410 12 rfl rfl c1 im_X12_closes se_X12_closes (Nat.le_of_ble_eq_true rfl) dX12_over_13
  refine x_aload_n dX12_over_16 rfl rfl (Or.inr (by decide)) (?_ : Ex _ _ 17 _ _ _ _ _)
  refine gt_12_9 c1 fl_RX12_31 dX12_over_17 (?_ : Ex _ _ 20 _ _ _ _ _)
  refine x_iload_n dX12_over_20 rfl rfl (?_ : Ex _ _ 21 _ _ _ _ _)
  obtain ⟨⟨c12, c13, c14⟩, h⟩ := chk_some h
  refine ld_i_10 c12 c13 c14 dX12_over_21 (?_ : Ex _ _ 22 _ _ _ _ _)
  refine x_istore (ls2 := [(22, l0), (0, l1), (0, l2), (0, l3), (0, m10 (m10 l0 9) l1), (3, 0), (3, 0)]) dX12_over_22 (Nat.le_of_ble_eq_true rfl) rfl (?_ : Ex _ _ 24 _ _ _ _ _)
  refine x_iload_n dX12_over_24 rfl rfl (?_ : Ex _ _ 25 _ _ _ _ _)
  refine x_bipush dX12_over_25 kb_14 (by decide) (?_ : Ex _ _ 27 _ _ _ _ _)
  rcases ite_some h with ⟨b15, h⟩ | ⟨b15, h⟩
  · refine x_icmp_neN dX12_over_27 (by decide) (fun hh => hh b15) (?_ : Ex _ _ 30 _ _ _ _ _)
    refine x_aload_n dX12_over_30 rfl rfl (Or.inr (by decide)) (?_ : Ex _ _ 31 _ _ _ _ _)
    refine x_iload_n dX12_over_31 rfl rfl (?_ : Ex _ _ 32 _ _ _ _ _)
    refine x_iload_n dX12_over_32 rfl rfl (?_ : Ex _ _ 33 _ _ _ _ _)
    obtain ⟨v28, m29, g30, h⟩ := cal_some h
    refine cV2 (e_X12_beginsRun (d + 3) g30) (contV (?_ : Ex _ _ 36 _ _ _ _ _)) og_X12_beginsRun rfl ml_RX12_216 12 rfl rfl c1 im_X12_beginsRun se_X12_beginsRun (Nat.le_of_ble_eq_true rfl) dX12_over_33
    refine x_iconst dX12_over_36 rfl (by decide) (?_ : Ex _ _ 37 _ _ _ _ _)
    refine x_istore (ls2 := [(22, l0), (0, l1), (0, l2), (0, l3), (0, m10 (m10 l0 9) l1), (0, 0), (3, 0)]) dX12_over_37 (Nat.le_of_ble_eq_true rfl) rfl (?_ : Ex _ _ 39 _ _ _ _ _)
    refine Ex.wk (ls2 := [(22, l0), (0, l1), (3, 0), (3, 0), (3, 0), (0, 0), (3, 0)]) ⟨Or.inr rfl, Or.inr rfl, Or.inl rfl, Or.inl rfl, Or.inl rfl, Or.inr rfl, Or.inl rfl, trivial⟩ ?_
    exact e_X12_over_39 d (fun h => e_X12_over_94 d h) fuel9 h
  · refine x_icmp_ne (tgt := 123) dX12_over_27 rfl b15 (?_ : Ex _ _ 123 _ _ _ _ _)
    refine x_iload dX12_over_123 rfl (?_ : Ex _ _ 125 _ _ _ _ _)
    refine x_iconst dX12_over_125 rfl (by decide) (?_ : Ex _ _ 126 _ _ _ _ _)
    rcases ite_some h with ⟨b16, h⟩ | ⟨b16, h⟩
    · refine x_icmp_eq (tgt := 171) dX12_over_126 rfl b16 (?_ : Ex _ _ 171 _ _ _ _ _)
      cases h
      exact x_retv dX12_over_171
    · refine x_icmp_eqN dX12_over_126 (by decide) b16 (?_ : Ex _ _ 129 _ _ _ _ _)
      refine x_aload_n dX12_over_129 rfl rfl (Or.inr (by decide)) (?_ : Ex _ _ 130 _ _ _ _ _)
      refine gt_12_12 c1 fl_RX12_40 dX12_over_130 (?_ : Ex _ _ 133 _ _ _ _ _)
      refine x_iload dX12_over_133 rfl (?_ : Ex _ _ 135 _ _ _ _ _)
      obtain ⟨⟨c17, c18, c19⟩, h⟩ := chk_some h
      refine ld_i_10 c17 c18 c19 dX12_over_135 (?_ : Ex _ _ 136 _ _ _ _ _)
      refine x_aload_n dX12_over_136 rfl rfl (Or.inr (by decide)) (?_ : Ex _ _ 137 _ _ _ _ _)
      refine gt_12_10 c1 fl_RX12_34 dX12_over_137 (?_ : Ex _ _ 140 _ _ _ _ _)
      refine x_iload_n dX12_over_140 rfl rfl (?_ : Ex _ _ 141 _ _ _ _ _)
      obtain ⟨⟨c20, c21, c22⟩, h⟩ := chk_some h
      refine ld_i_10 c20 c21 c22 dX12_over_141 (?_ : Ex _ _ 142 _ _ _ _ _)
      rcases ite_some h with ⟨b23, h⟩ | ⟨b23, h⟩
      · refine x_icmp_neN dX12_over_142 (by decide) (fun hh => hh b23) (?_ : Ex _ _ 145 _ _ _ _ _)
        refine x_aload_n dX12_over_145 rfl rfl (Or.inr (by decide)) (?_ : Ex _ _ 146 _ _ _ _ _)
        refine x_iload dX12_over_146 rfl (?_ : Ex _ _ 148 _ _ _ _ _)
        refine x_iconst dX12_over_148 rfl (by decide) (?_ : Ex _ _ 149 _ _ _ _ _)
        refine x_aload_n dX12_over_149 rfl rfl (Or.inr (by decide)) (?_ : Ex _ _ 150 _ _ _ _ _)
        refine gt_12_11 c1 fl_RX12_37 dX12_over_150 (?_ : Ex _ _ 153 _ _ _ _ _)
        refine x_iload_n dX12_over_153 rfl rfl (?_ : Ex _ _ 154 _ _ _ _ _)
        obtain ⟨⟨c24, c25, c26⟩, h⟩ := chk_some h
        refine ld_i_10 c24 c25 c26 dX12_over_154 (?_ : Ex _ _ 155 _ _ _ _ _)
        refine x_iload_n dX12_over_155 rfl rfl (?_ : Ex _ _ 156 _ _ _ _ _)
        refine x_bipush dX12_over_156 kb_21 (by decide) (?_ : Ex _ _ 158 _ _ _ _ _)
        rcases ite_some h with ⟨b27, h⟩ | ⟨b27, h⟩
        · refine x_icmp_neN dX12_over_158 (by decide) (fun hh => hh b27) (?_ : Ex _ _ 161 _ _ _ _ _)
          refine x_iload_n dX12_over_161 rfl rfl (?_ : Ex _ _ 162 _ _ _ _ _)
          refine x_goto (tgt := 166) dX12_over_162 rfl (?_ : Ex _ _ 166 _ _ _ _ _)
          refine Ex.wk (ls2 := [(3, 0), (3, 0), (3, 0), (3, 0), (3, 0), (3, 0), (3, 0)]) ⟨Or.inl rfl, Or.inl rfl, Or.inl rfl, Or.inl rfl, Or.inl rfl, Or.inl rfl, Or.inl rfl, trivial⟩ ?_
          exact e_X12_over_166 d h
        · refine x_icmp_ne (tgt := 165) dX12_over_158 rfl b27 (?_ : Ex _ _ 165 _ _ _ _ _)
          refine x_iconst dX12_over_165 rfl (by decide) (?_ : Ex _ _ 166 _ _ _ _ _)
          refine Ex.wk (ls2 := [(3, 0), (3, 0), (3, 0), (3, 0), (3, 0), (3, 0), (3, 0)]) ⟨Or.inl rfl, Or.inl rfl, Or.inl rfl, Or.inl rfl, Or.inl rfl, Or.inl rfl, Or.inl rfl, trivial⟩ ?_
          exact e_X12_over_166 d h
      · refine x_icmp_ne (tgt := 171) dX12_over_142 rfl b23 (?_ : Ex _ _ 171 _ _ _ _ _)
        cases h
        exact x_retv dX12_over_171
theorem e_X12_over (d : Nat) {a0 a1 a2 a3 : Int} {m : Mem} {v : Int} {m' : Mem} (h : X12_over a0 a1 a2 a3 m = some (v, m')) : ExM (d + 6) fm_X12_over [(22, a0), (0, a1), (0, a2), (0, a3)] m (.inl (3, 0)) m' := by
  exact ExM.of (by decide +kernel) (Nat.le_of_ble_eq_true rfl) (cat9 rfl) retV (e_X12_over_0 d h)
theorem dX12_does_0 : decode cX12_does 0 = .ok (.aload_n 0, 1) := by decide +kernel
theorem dX12_does_1 : decode cX12_does 1 = .ok (.getfield 94, 3) := by decide +kernel
theorem dX12_does_4 : decode cX12_does 4 = .ok (.iload_n 1, 1) := by decide +kernel
theorem dX12_does_5 : decode cX12_does 5 = .ok (.iaload, 1) := by decide +kernel
theorem dX12_does_6 : decode cX12_does 6 = .ok (.istore_n 2, 1) := by decide +kernel
theorem dX12_does_7 : decode cX12_does 7 = .ok (.iconst 0, 1) := by decide +kernel
theorem dX12_does_8 : decode cX12_does 8 = .ok (.istore_n 3, 1) := by decide +kernel
theorem dX12_does_9 : decode cX12_does 9 = .ok (.iload_n 3, 1) := by decide +kernel
theorem dX12_does_10 : decode cX12_does 10 = .ok (.aload_n 0, 1) := by decide +kernel
theorem dX12_does_11 : decode cX12_does 11 = .ok (.getfield 283, 3) := by decide +kernel
theorem dX12_does_14 : decode cX12_does 14 = .ok (.if_icmp .ge 151, 3) := by decide +kernel
theorem dX12_does_17 : decode cX12_does 17 = .ok (.aload_n 0, 1) := by decide +kernel
theorem dX12_does_18 : decode cX12_does 18 = .ok (.getfield 158, 3) := by decide +kernel
theorem dX12_does_21 : decode cX12_does 21 = .ok (.iload_n 3, 1) := by decide +kernel
theorem dX12_does_22 : decode cX12_does 22 = .ok (.iaload, 1) := by decide +kernel
theorem dX12_does_23 : decode cX12_does 23 = .ok (.tableswitch 136 8 15 #[45, 59, 73, 88, 103, 136, 112, 45], 45) := by decide +kernel
theorem dX12_does_68 : decode cX12_does 68 = .ok (.aload_n 0, 1) := by decide +kernel
theorem dX12_does_69 : decode cX12_does 69 = .ok (.iload_n 1, 1) := by decide +kernel
theorem dX12_does_70 : decode cX12_does 70 = .ok (.aload_n 0, 1) := by decide +kernel
theorem dX12_does_71 : decode cX12_does 71 = .ok (.getfield 164, 3) := by decide +kernel
theorem dX12_does_74 : decode cX12_does 74 = .ok (.iload_n 3, 1) := by decide +kernel
theorem dX12_does_75 : decode cX12_does 75 = .ok (.iaload, 1) := by decide +kernel
theorem dX12_does_76 : decode cX12_does 76 = .ok (.invokevirtual 413, 3) := by decide +kernel
theorem dX12_does_79 : decode cX12_does 79 = .ok (.goto 80, 3) := by decide +kernel
theorem dX12_does_82 : decode cX12_does 82 = .ok (.aload_n 0, 1) := by decide +kernel
theorem dX12_does_83 : decode cX12_does 83 = .ok (.iload_n 1, 1) := by decide +kernel
theorem dX12_does_84 : decode cX12_does 84 = .ok (.aload_n 0, 1) := by decide +kernel
theorem dX12_does_85 : decode cX12_does 85 = .ok (.getfield 161, 3) := by decide +kernel
theorem dX12_does_88 : decode cX12_does 88 = .ok (.iload_n 3, 1) := by decide +kernel
theorem dX12_does_89 : decode cX12_does 89 = .ok (.iaload, 1) := by decide +kernel
theorem dX12_does_90 : decode cX12_does 90 = .ok (.invokevirtual 401, 3) := by decide +kernel
theorem dX12_does_93 : decode cX12_does 93 = .ok (.goto 66, 3) := by decide +kernel
theorem dX12_does_96 : decode cX12_does 96 = .ok (.aload_n 0, 1) := by decide +kernel
theorem dX12_does_97 : decode cX12_does 97 = .ok (.iload_n 1, 1) := by decide +kernel
theorem dX12_does_98 : decode cX12_does 98 = .ok (.aload_n 0, 1) := by decide +kernel
theorem dX12_does_99 : decode cX12_does 99 = .ok (.getfield 161, 3) := by decide +kernel
theorem dX12_does_102 : decode cX12_does 102 = .ok (.iload_n 3, 1) := by decide +kernel
theorem dX12_does_103 : decode cX12_does 103 = .ok (.iaload, 1) := by decide +kernel
theorem dX12_does_104 : decode cX12_does 104 = .ok (.iconst 1, 1) := by decide +kernel
theorem dX12_does_105 : decode cX12_does 105 = .ok (.invokevirtual 416, 3) := by decide +kernel
theorem dX12_does_108 : decode cX12_does 108 = .ok (.goto 51, 3) := by decide +kernel
theorem dX12_does_111 : decode cX12_does 111 = .ok (.aload_n 0, 1) := by decide +kernel
theorem dX12_does_112 : decode cX12_does 112 = .ok (.iload_n 1, 1) := by decide +kernel
theorem dX12_does_113 : decode cX12_does 113 = .ok (.aload_n 0, 1) := by decide +kernel
theorem dX12_does_114 : decode cX12_does 114 = .ok (.getfield 161, 3) := by decide +kernel
theorem dX12_does_117 : decode cX12_does 117 = .ok (.iload_n 3, 1) := by decide +kernel
theorem dX12_does_118 : decode cX12_does 118 = .ok (.iaload, 1) := by decide +kernel
theorem dX12_does_119 : decode cX12_does 119 = .ok (.iconst 0, 1) := by decide +kernel
theorem dX12_does_120 : decode cX12_does 120 = .ok (.invokevirtual 416, 3) := by decide +kernel
theorem dX12_does_123 : decode cX12_does 123 = .ok (.goto 36, 3) := by decide +kernel
theorem dX12_does_126 : decode cX12_does 126 = .ok (.aload_n 0, 1) := by decide +kernel
theorem dX12_does_127 : decode cX12_does 127 = .ok (.iload_n 1, 1) := by decide +kernel
theorem dX12_does_128 : decode cX12_does 128 = .ok (.iload_n 3, 1) := by decide +kernel
theorem dX12_does_129 : decode cX12_does 129 = .ok (.invokevirtual 419, 3) := by decide +kernel
theorem dX12_does_132 : decode cX12_does 132 = .ok (.goto 27, 3) := by decide +kernel
theorem dX12_does_135 : decode cX12_does 135 = .ok (.aload_n 0, 1) := by decide +kernel
theorem dX12_does_136 : decode cX12_does 136 = .ok (.getfield 43, 3) := by decide +kernel
theorem dX12_does_139 : decode cX12_does 139 = .ok (.iconst 2, 1) := by decide +kernel
theorem dX12_does_140 : decode cX12_does 140 = .ok (.iload_n 1, 1) := by decide +kernel
theorem dX12_does_141 : decode cX12_does 141 = .ok (.imul, 1) := by decide +kernel
theorem dX12_does_142 : decode cX12_does 142 = .ok (.aload_n 0, 1) := by decide +kernel
theorem dX12_does_143 : decode cX12_does 143 = .ok (.getfield 161, 3) := by decide +kernel
theorem dX12_does_146 : decode cX12_does 146 = .ok (.iload_n 3, 1) := by decide +kernel
theorem dX12_does_147 : decode cX12_does 147 = .ok (.iaload, 1) := by decide +kernel
theorem dX12_does_148 : decode cX12_does 148 = .ok (.iadd, 1) := by decide +kernel
theorem dX12_does_149 : decode cX12_does 149 = .ok (.aload_n 0, 1) := by decide +kernel
theorem dX12_does_150 : decode cX12_does 150 = .ok (.getfield 164, 3) := by decide +kernel
theorem dX12_does_153 : decode cX12_does 153 = .ok (.iload_n 3, 1) := by decide +kernel
theorem dX12_does_154 : decode cX12_does 154 = .ok (.iaload, 1) := by decide +kernel
theorem dX12_does_155 : decode cX12_does 155 = .ok (.iastore, 1) := by decide +kernel
theorem dX12_does_156 : decode cX12_does 156 = .ok (.goto 3, 3) := by decide +kernel
theorem dX12_does_159 : decode cX12_does 159 = .ok (.iinc 3 1, 3) := by decide +kernel
theorem dX12_does_162 : decode cX12_does 162 = .ok (.goto (-153), 3) := by decide +kernel
theorem dX12_does_165 : decode cX12_does 165 = .ok (.aload_n 0, 1) := by decide +kernel
theorem dX12_does_166 : decode cX12_does 166 = .ok (.getfield 243, 3) := by decide +kernel
theorem dX12_does_169 : decode cX12_does 169 = .ok (.iconst 2, 1) := by decide +kernel
theorem dX12_does_170 : decode cX12_does 170 = .ok (.if_icmp .ne 19, 3) := by decide +kernel
theorem dX12_does_173 : decode cX12_does 173 = .ok (.aload_n 0, 1) := by decide +kernel
theorem dX12_does_174 : decode cX12_does 174 = .ok (.iload_n 1, 1) := by decide +kernel
theorem dX12_does_175 : decode cX12_does 175 = .ok (.aload_n 0, 1) := by decide +kernel
theorem dX12_does_176 : decode cX12_does 176 = .ok (.getfield 286, 3) := by decide +kernel
theorem dX12_does_179 : decode cX12_does 179 = .ok (.aload_n 0, 1) := by decide +kernel
theorem dX12_does_180 : decode cX12_does 180 = .ok (.getfield 289, 3) := by decide +kernel
theorem dX12_does_183 : decode cX12_does 183 = .ok (.invokevirtual 422, 3) := by decide +kernel
theorem dX12_does_186 : decode cX12_does 186 = .ok (.goto 54, 3) := by decide +kernel
theorem dX12_does_189 : decode cX12_does 189 = .ok (.iload_n 2, 1) := by decide +kernel
theorem dX12_does_190 : decode cX12_does 190 = .ok (.istore_n 3, 1) := by decide +kernel
theorem dX12_does_191 : decode cX12_does 191 = .ok (.iload_n 3, 1) := by decide +kernel
theorem dX12_does_192 : decode cX12_does 192 = .ok (.aload_n 0, 1) := by decide +kernel
theorem dX12_does_193 : decode cX12_does 193 = .ok (.getfield 94, 3) := by decide +kernel
theorem dX12_does_196 : decode cX12_does 196 = .ok (.iload_n 1, 1) := by decide +kernel
theorem dX12_does_197 : decode cX12_does 197 = .ok (.iaload, 1) := by decide +kernel
theorem dX12_does_198 : decode cX12_does 198 = .ok (.if_icmp .ge 42, 3) := by decide +kernel
theorem dX12_does_201 : decode cX12_does 201 = .ok (.aload_n 0, 1) := by decide +kernel
theorem dX12_does_202 : decode cX12_does 202 = .ok (.getfield 97, 3) := by decide +kernel
theorem dX12_does_205 : decode cX12_does 205 = .ok (.bipush 80, 2) := by decide +kernel
theorem dX12_does_207 : decode cX12_does 207 = .ok (.iload_n 1, 1) := by decide +kernel
theorem dX12_does_208 : decode cX12_does 208 = .ok (.imul, 1) := by decide +kernel
theorem dX12_does_209 : decode cX12_does 209 = .ok (.iload_n 3, 1) := by decide +kernel
theorem dX12_does_210 : decode cX12_does 210 = .ok (.iadd, 1) := by decide +kernel
theorem dX12_does_211 : decode cX12_does 211 = .ok (.iaload, 1) := by decide +kernel
theorem dX12_does_212 : decode cX12_does 212 = .ok (.iconst (-1), 1) := by decide +kernel
theorem dX12_does_213 : decode cX12_does 213 = .ok (.if_icmp .ne 18, 3) := by decide +kernel
theorem dX12_does_216 : decode cX12_does 216 = .ok (.aload_n 0, 1) := by decide +kernel
theorem dX12_does_217 : decode cX12_does 217 = .ok (.iload_n 1, 1) := by decide +kernel
theorem dX12_does_218 : decode cX12_does 218 = .ok (.iconst 5, 1) := by decide +kernel
theorem dX12_does_219 : decode cX12_does 219 = .ok (.iload_n 3, 1) := by decide +kernel
theorem dX12_does_220 : decode cX12_does 220 = .ok (.iconst (-1), 1) := by decide +kernel
theorem dX12_does_221 : decode cX12_does 221 = .ok (.invokevirtual 227, 3) := by decide +kernel
theorem dX12_does_224 : decode cX12_does 224 = .ok (.ifCond .eq 7, 3) := by decide +kernel
theorem dX12_does_227 : decode cX12_does 227 = .ok (.iconst 1, 1) := by decide +kernel
theorem dX12_does_228 : decode cX12_does 228 = .ok (.goto 4, 3) := by decide +kernel
theorem dX12_does_231 : decode cX12_does 231 = .ok (.iconst 0, 1) := by decide +kernel
theorem dX12_does_232 : decode cX12_does 232 = .ok (.istore 4, 2) := by decide +kernel
theorem dX12_does_234 : decode cX12_does 234 = .ok (.iinc 3 1, 3) := by decide +kernel
theorem dX12_does_237 : decode cX12_does 237 = .ok (.goto (-46), 3) := by decide +kernel
theorem dX12_does_240 : decode cX12_does 240 = .ok (.return_, 1) := by decide +kernel
theorem e_X12_does_191 (d : Nat) : ∀ (n : Nat) {l0 l1 l3 : Int} {m : Mem} {v : Int} {m' : Mem}, X12_does_191 n l0 l1 l3 m = some (v, m') → Ex (d + 7) fm_X12_does 191 [(22, l0), (0, l1), (3, 0), (0, l3), (3, 0)] [] m (.inl (3, 0)) m' := by
  intro n
  induction n with
  | zero =>
    intro l0 l1 l3 m v m' h
    have h : (none : Option R2) = some _ := h
    cases h
  | succ n ih =>
    intro l0 l1 l3 m v m' h
    rw [X12_does_191] at h
    refine x_iload_n dX12_does_191 rfl rfl (?_ : Ex _ _ 192 _ _ _ _ _)
    refine x_aload_n dX12_does_192 rfl rfl (Or.inr (by decide)) (?_ : Ex _ _ 193 _ _ _ _ _)
    obtain ⟨c1, h⟩ := chk_some h
    refine gt_12_32 c1 fl_RX12_94 dX12_does_193 (?_ : Ex _ _ 196 _ _ _ _ _)
    refine x_iload_n dX12_does_196 rfl rfl (?_ : Ex _ _ 197 _ _ _ _ _)
    obtain ⟨⟨c2, c3, c4⟩, h⟩ := chk_some h
    refine ld_i_10 c2 c3 c4 dX12_does_197 (?_ : Ex _ _ 198 _ _ _ _ _)
    rcases ite_some h with ⟨b5, h⟩ | ⟨b5, h⟩
    · refine x_icmp_ge (tgt := 240) dX12_does_198 rfl b5 (?_ : Ex _ _ 240 _ _ _ _ _)
      cases h
      exact x_retv dX12_does_240
    · refine x_icmp_geN dX12_does_198 (by decide) b5 (?_ : Ex _ _ 201 _ _ _ _ _)
      refine x_aload_n dX12_does_201 rfl rfl (Or.inr (by decide)) (?_ : Ex _ _ 202 _ _ _ _ _)
      refine gt_12_33 c1 fl_RX12_97 dX12_does_202 (?_ : Ex _ _ 205 _ _ _ _ _)
      refine x_bipush dX12_does_205 kb_80 (by decide) (?_ : Ex _ _ 207 _ _ _ _ _)
      refine x_iload_n dX12_does_207 rfl rfl (?_ : Ex _ _ 208 _ _ _ _ _)
      obtain ⟨c6, h⟩ := chk_some h
      refine x_imul dX12_does_208 c6 (?_ : Ex _ _ 209 _ _ _ _ _)
      refine x_iload_n dX12_does_209 rfl rfl (?_ : Ex _ _ 210 _ _ _ _ _)
      obtain ⟨c7, h⟩ := chk_some h
      refine x_iadd dX12_does_210 c7 (?_ : Ex _ _ 211 _ _ _ _ _)
      obtain ⟨⟨c8, c9, c10⟩, h⟩ := chk_some h
      refine ld_i_800 c8 c9 c10 dX12_does_211 (?_ : Ex _ _ 212 _ _ _ _ _)
      refine x_iconst dX12_does_212 rfl (by decide) (?_ : Ex _ _ 213 _ _ _ _ _)
      rcases ite_some h with ⟨b11, h⟩ | ⟨b11, h⟩
      · refine x_icmp_neN dX12_does_213 (by decide) (fun hh => hh b11) (?_ : Ex _ _ 216 _ _ _ _ _)
        refine x_aload_n dX12_does_216 rfl rfl (Or.inr (by decide)) (?_ : Ex _ _ 217 _ _ _ _ _)
        refine x_iload_n dX12_does_217 rfl rfl (?_ : Ex _ _ 218 _ _ _ _ _)
        refine x_iconst dX12_does_218 rfl (by decide) (?_ : Ex _ _ 219 _ _ _ _ _)
        refine x_iload_n dX12_does_219 rfl rfl (?_ : Ex _ _ 220 _ _ _ _ _)
        refine x_iconst dX12_does_220 rfl (by decide) (?_ : Ex _ _ 221 _ _ _ _ _)
        obtain ⟨v13, m14, g15, h⟩ := cal_some h
        refine cV4 (e_X12_happens (d + 4) g15) (contN (by decide) (?_ : Ex _ _ 224 _ _ _ _ _)) og_X12_happens rfl ml_RX12_227 12 rfl rfl c1 im_X12_happens se_X12_happens (Nat.le_of_ble_eq_true rfl) dX12_does_221
        rcases ite_some h with ⟨b16, h⟩ | ⟨b16, h⟩
        · refine x_if_eq (tgt := 231) dX12_does_224 rfl b16 (?_ : Ex _ _ 231 _ _ _ _ _)
          refine x_iconst dX12_does_231 rfl (by decide) (?_ : Ex _ _ 232 _ _ _ _ _)
          refine x_istore (ls2 := [(22, l0), (0, l1), (3, 0), (0, l3), (0, 0)]) dX12_does_232 (Nat.le_of_ble_eq_true rfl) rfl (?_ : Ex _ _ 234 _ _ _ _ _)
          obtain ⟨c17, h⟩ := chk_some h
          refine x_iinc (ls2 := [(22, l0), (0, l1), (3, 0), (0, (l3 + 1)), (0, 0)]) dX12_does_234 rfl c17 rfl (?_ : Ex _ _ 237 _ _ _ _ _)
          refine x_goto (tgt := 191) dX12_does_237 rfl (?_ : Ex _ _ 191 _ _ _ _ _)
          refine Ex.wk (ls2 := [(22, l0), (0, l1), (3, 0), (0, (l3 + 1)), (3, 0)]) ⟨Or.inr rfl, Or.inr rfl, Or.inl rfl, Or.inr rfl, Or.inl rfl, trivial⟩ ?_
          exact ih h
        · refine x_if_eqN dX12_does_224 (by decide) b16 (?_ : Ex _ _ 227 _ _ _ _ _)
          refine x_iconst dX12_does_227 rfl (by decide) (?_ : Ex _ _ 228 _ _ _ _ _)
          refine x_goto (tgt := 232) dX12_does_228 rfl (?_ : Ex _ _ 232 _ _ _ _ _)
          refine x_istore (ls2 := [(22, l0), (0, l1), (3, 0), (0, l3), (0, 1)]) dX12_does_232 (Nat.le_of_ble_eq_true rfl) rfl (?_ : Ex _ _ 234 _ _ _ _ _)
          obtain ⟨c18, h⟩ := chk_some h
          refine x_iinc (ls2 := [(22, l0), (0, l1), (3, 0), (0, (l3 + 1)), (0, 1)]) dX12_does_234 rfl c18 rfl (?_ : Ex _ _ 237 _ _ _ _ _)
          refine x_goto (tgt := 191) dX12_does_237 rfl (?_ : Ex _ _ 191 _ _ _ _ _)
          refine Ex.wk (ls2 := [(22, l0), (0, l1), (3, 0), (0, (l3 + 1)), (3, 0)]) ⟨Or.inr rfl, Or.inr rfl, Or.inl rfl, Or.inr rfl, Or.inl rfl, trivial⟩ ?_
          exact ih h
      · refine x_icmp_ne (tgt := 231) dX12_does_213 rfl b11 (?_ : Ex _ _ 231 _ _ _ _ _)
        refine x_iconst dX12_does_231 rfl (by decide) (?_ : Ex _ _ 232 _ _ _ _ _)
        refine x_istore (ls2 := [(22, l0), (0, l1), (3, 0), (0, l3), (0, 0)]) dX12_does_232 (Nat.le_of_ble_eq_true rfl) rfl (?_ : Ex _ _ 234 _ _ _ _ _)
        obtain ⟨c12, h⟩ := chk_some h
        refine x_iinc (ls2 := [(22, l0), (0, l1), (3, 0), (0, (l3 + 1)), (0, 0)]) dX12_does_234 rfl c12 rfl (?_ : Ex _ _ 237 _ _ _ _ _)
        refine x_goto (tgt := 191) dX12_does_237 rfl (?_ : Ex _ _ 191 _ _ _ _ _)
        refine Ex.wk (ls2 := [(22, l0), (0, l1), (3, 0), (0, (l3 + 1)), (3, 0)]) ⟨Or.inr rfl, Or.inr rfl, Or.inl rfl, Or.inr rfl, Or.inl rfl, trivial⟩ ?_
        exact ih h
theorem e_X12_does_165 (d : Nat) {l0 l1 l2 : Int} {m : Mem} {v : Int} {m' : Mem} (h : X12_does_165 l0 l1 l2 m = some (v, m')) : Ex (d + 7) fm_X12_does 165 [(22, l0), (0, l1), (0, l2), (3, 0), (3, 0)] [] m (.inl (3, 0)) m' := by
  unfold X12_does_165 at h
  refine x_aload_n dX12_does_165 rfl rfl (Or.inr (by decide)) (?_ : Ex _ _ 166 _ _ _ _ _)
  obtain ⟨c1, h⟩ := chk_some h
  refine gt_12_42 c1 fl_RX12_243 dX12_does_166 (?_ : Ex _ _ 169 _ _ _ _ _)
  refine x_iconst dX12_does_169 rfl (by decide) (?_ : Ex _ _ 170 _ _ _ _ _)
  rcases ite_some h with ⟨b2, h⟩ | ⟨b2, h⟩
  · refine x_icmp_neN dX12_does_170 (by decide) (fun hh => hh b2) (?_ : Ex _ _ 173 _ _ _ _ _)
    refine x_aload_n dX12_does_173 rfl rfl (Or.inr (by decide)) (?_ : Ex _ _ 174 _ _ _ _ _)
    refine x_iload_n dX12_does_174 rfl rfl (?_ : Ex _ _ 175 _ _ _ _ _)
    refine x_aload_n dX12_does_175 rfl rfl (Or.inr (by decide)) (?_ : Ex _ _ 176 _ _ _ _ _)
    refine gt_12_49 c1 fl_RX12_286 dX12_does_176 (?_ : Ex _ _ 179 _ _ _ _ _)
    refine x_aload_n dX12_does_179 rfl rfl (Or.inr (by decide)) (?_ : Ex _ _ 180 _ _ _ _ _)
    refine gt_12_50 c1 fl_RX12_289 dX12_does_180 (?_ : Ex _ _ 183 _ _ _ _ _)
    obtain ⟨v3, m4, g5, h⟩ := cal_some h
    refine cV3 (e_X12_over d g5) (contV (?_ : Ex _ _ 186 _ _ _ _ _)) og_X12_over rfl ml_RX12_422 12 rfl rfl c1 im_X12_over se_X12_over (Nat.le_of_ble_eq_true rfl) dX12_does_183
    refine x_goto (tgt := 240) dX12_does_186 rfl (?_ : Ex _ _ 240 _ _ _ _ _)
    cases h
    exact x_retv dX12_does_240
  · refine x_icmp_ne (tgt := 189) dX12_does_170 rfl b2 (?_ : Ex _ _ 189 _ _ _ _ _)
    refine x_iload_n dX12_does_189 rfl rfl (?_ : Ex _ _ 190 _ _ _ _ _)
    refine x_istore_n (ls2 := [(22, l0), (0, l1), (0, l2), (0, l2), (3, 0)]) dX12_does_190 rfl (Nat.le_of_ble_eq_true rfl) rfl (?_ : Ex _ _ 191 _ _ _ _ _)
    refine Ex.wk (ls2 := [(22, l0), (0, l1), (3, 0), (0, l2), (3, 0)]) ⟨Or.inr rfl, Or.inr rfl, Or.inl rfl, Or.inr rfl, Or.inl rfl, trivial⟩ ?_
    exact e_X12_does_191 d fuel9 h
theorem e_X12_does_9 (d : Nat) {k165 : Int → Int → Int → Mem → Option R2} (hk165 : ∀ {l0 l1 l2 : Int} {m : Mem} {v : Int} {m' : Mem}, k165 l0 l1 l2 m = some (v, m') → Ex (d + 7) fm_X12_does 165 [(22, l0), (0, l1), (0, l2), (3, 0), (3, 0)] [] m (.inl (3, 0)) m') : ∀ (n : Nat) {l0 l1 l2 l3 : Int} {m : Mem} {v : Int} {m' : Mem}, X12_does_9 k165 n l0 l1 l2 l3 m = some (v, m') → Ex (d + 7) fm_X12_does 9 [(22, l0), (0, l1), (0, l2), (0, l3), (3, 0)] [] m (.inl (3, 0)) m' := by
  intro n
  induction n with
  | zero =>
    intro l0 l1 l2 l3 m v m' h
    have h : (none : Option R2) = some _ := h
    cases h
  | succ n ih =>
    intro l0 l1 l2 l3 m v m' h
    rw [X12_does_9] at h
    refine x_iload_n dX12_does_9 rfl rfl (?_ : Ex _ _ 10 _ _ _ _ _)
    refine x_aload_n dX12_does_10 rfl rfl (Or.inr (by decide)) (?_ : Ex _ _ 11 _ _ _ _ _)
    obtain ⟨c1, h⟩ := chk_some h
    refine gt_12_76 c1 fl_RX12_283 dX12_does_11 (?_ : Ex _ _ 14 _ _ _ _ _)
    rcases ite_some h with ⟨b2, h⟩ | ⟨b2, h⟩
    · refine x_icmp_ge (tgt := 165) dX12_does_14 rfl b2 (?_ : Ex _ _ 165 _ _ _ _ _)
      refine Ex.wk (ls2 := [(22, l0), (0, l1), (0, l2), (3, 0), (3, 0)]) ⟨Or.inr rfl, Or.inr rfl, Or.inr rfl, Or.inl rfl, Or.inl rfl, trivial⟩ ?_
      exact hk165 h
    · refine x_icmp_geN dX12_does_14 (by decide) b2 (?_ : Ex _ _ 17 _ _ _ _ _)
      refine x_aload_n dX12_does_17 rfl rfl (Or.inr (by decide)) (?_ : Ex _ _ 18 _ _ _ _ _)
      refine gt_12_72 c1 fl_RX12_158 dX12_does_18 (?_ : Ex _ _ 21 _ _ _ _ _)
      refine x_iload_n dX12_does_21 rfl rfl (?_ : Ex _ _ 22 _ _ _ _ _)
      obtain ⟨⟨c3, c4, c5⟩, h⟩ := chk_some h
      refine ld_i_5200 c3 c4 c5 dX12_does_22 (?_ : Ex _ _ 23 _ _ _ _ _)
      rcases ite_some h with ⟨b6, h⟩ | ⟨b6, h⟩
      · refine y_tableAt (j := 8) (off := 45) (tgt := 68) b6 dX12_does_23 (by decide) (by decide) rfl rfl (?_ : Ex _ _ 68 _ _ _ _ _)
        refine x_aload_n dX12_does_68 rfl rfl (Or.inr (by decide)) (?_ : Ex _ _ 69 _ _ _ _ _)
        refine x_iload_n dX12_does_69 rfl rfl (?_ : Ex _ _ 70 _ _ _ _ _)
        refine x_aload_n dX12_does_70 rfl rfl (Or.inr (by decide)) (?_ : Ex _ _ 71 _ _ _ _ _)
        refine gt_12_74 c1 fl_RX12_164 dX12_does_71 (?_ : Ex _ _ 74 _ _ _ _ _)
        refine x_iload_n dX12_does_74 rfl rfl (?_ : Ex _ _ 75 _ _ _ _ _)
        obtain ⟨⟨c7, c8, c9⟩, h⟩ := chk_some h
        refine ld_i_5200 c7 c8 c9 dX12_does_75 (?_ : Ex _ _ 76 _ _ _ _ _)
        obtain ⟨v10, m11, g12, h⟩ := cal_some h
        refine cV2 (e_X12_putsActivity (d + 6) g12) (contV (?_ : Ex _ _ 79 _ _ _ _ _)) og_X12_putsActivity rfl ml_RX12_413 12 rfl rfl c1 im_X12_putsActivity se_X12_putsActivity (Nat.le_of_ble_eq_true rfl) dX12_does_76
        refine x_goto (tgt := 159) dX12_does_79 rfl (?_ : Ex _ _ 159 _ _ _ _ _)
        obtain ⟨c13, h⟩ := chk_some h
        refine x_iinc (ls2 := [(22, l0), (0, l1), (0, l2), (0, (l3 + 1)), (3, 0)]) dX12_does_159 rfl c13 rfl (?_ : Ex _ _ 162 _ _ _ _ _)
        refine x_goto (tgt := 9) dX12_does_162 rfl (?_ : Ex _ _ 9 _ _ _ _ _)
        exact ih h
      rcases ite_some h with ⟨b14, h⟩ | ⟨b14, h⟩
      · refine y_tableAt (j := 9) (off := 59) (tgt := 82) b14 dX12_does_23 (by decide) (by decide) rfl rfl (?_ : Ex _ _ 82 _ _ _ _ _)
        refine x_aload_n dX12_does_82 rfl rfl (Or.inr (by decide)) (?_ : Ex _ _ 83 _ _ _ _ _)
        refine x_iload_n dX12_does_83 rfl rfl (?_ : Ex _ _ 84 _ _ _ _ _)
        refine x_aload_n dX12_does_84 rfl rfl (Or.inr (by decide)) (?_ : Ex _ _ 85 _ _ _ _ _)
        refine gt_12_73 c1 fl_RX12_161 dX12_does_85 (?_ : Ex _ _ 88 _ _ _ _ _)
        refine x_iload_n dX12_does_88 rfl rfl (?_ : Ex _ _ 89 _ _ _ _ _)
        obtain ⟨⟨c15, c16, c17⟩, h⟩ := chk_some h
        refine ld_i_5200 c15 c16 c17 dX12_does_89 (?_ : Ex _ _ 90 _ _ _ _ _)
        obtain ⟨v18, m19, g20, h⟩ := cal_some h
        refine cV2 (e_X12_takesOff (d + 6) g20) (contV (?_ : Ex _ _ 93 _ _ _ _ _)) og_X12_takesOff rfl ml_RX12_401 12 rfl rfl c1 im_X12_takesOff se_X12_takesOff (Nat.le_of_ble_eq_true rfl) dX12_does_90
        refine x_goto (tgt := 159) dX12_does_93 rfl (?_ : Ex _ _ 159 _ _ _ _ _)
        obtain ⟨c21, h⟩ := chk_some h
        refine x_iinc (ls2 := [(22, l0), (0, l1), (0, l2), (0, (l3 + 1)), (3, 0)]) dX12_does_159 rfl c21 rfl (?_ : Ex _ _ 162 _ _ _ _ _)
        refine x_goto (tgt := 9) dX12_does_162 rfl (?_ : Ex _ _ 9 _ _ _ _ _)
        exact ih h
      rcases ite_some h with ⟨b22, h⟩ | ⟨b22, h⟩
      · refine y_tableAt (j := 10) (off := 73) (tgt := 96) b22 dX12_does_23 (by decide) (by decide) rfl rfl (?_ : Ex _ _ 96 _ _ _ _ _)
        refine x_aload_n dX12_does_96 rfl rfl (Or.inr (by decide)) (?_ : Ex _ _ 97 _ _ _ _ _)
        refine x_iload_n dX12_does_97 rfl rfl (?_ : Ex _ _ 98 _ _ _ _ _)
        refine x_aload_n dX12_does_98 rfl rfl (Or.inr (by decide)) (?_ : Ex _ _ 99 _ _ _ _ _)
        refine gt_12_73 c1 fl_RX12_161 dX12_does_99 (?_ : Ex _ _ 102 _ _ _ _ _)
        refine x_iload_n dX12_does_102 rfl rfl (?_ : Ex _ _ 103 _ _ _ _ _)
        obtain ⟨⟨c23, c24, c25⟩, h⟩ := chk_some h
        refine ld_i_5200 c23 c24 c25 dX12_does_103 (?_ : Ex _ _ 104 _ _ _ _ _)
        refine x_iconst dX12_does_104 rfl (by decide) (?_ : Ex _ _ 105 _ _ _ _ _)
        obtain ⟨v26, m27, g28, h⟩ := cal_some h
        refine cV3 (e_X12_setsTimer_ (d + 6) g28) (contV (?_ : Ex _ _ 108 _ _ _ _ _)) og_X12_setsTimer_ rfl ml_RX12_416 12 rfl rfl c1 im_X12_setsTimer_ se_X12_setsTimer_ (Nat.le_of_ble_eq_true rfl) dX12_does_105
        refine x_goto (tgt := 159) dX12_does_108 rfl (?_ : Ex _ _ 159 _ _ _ _ _)
        obtain ⟨c29, h⟩ := chk_some h
        refine x_iinc (ls2 := [(22, l0), (0, l1), (0, l2), (0, (l3 + 1)), (3, 0)]) dX12_does_159 rfl c29 rfl (?_ : Ex _ _ 162 _ _ _ _ _)
        refine x_goto (tgt := 9) dX12_does_162 rfl (?_ : Ex _ _ 9 _ _ _ _ _)
        exact ih h
      rcases ite_some h with ⟨b30, h⟩ | ⟨b30, h⟩
      · refine y_tableAt (j := 11) (off := 88) (tgt := 111) b30 dX12_does_23 (by decide) (by decide) rfl rfl (?_ : Ex _ _ 111 _ _ _ _ _)
        refine x_aload_n dX12_does_111 rfl rfl (Or.inr (by decide)) (?_ : Ex _ _ 112 _ _ _ _ _)
        refine x_iload_n dX12_does_112 rfl rfl (?_ : Ex _ _ 113 _ _ _ _ _)
        refine x_aload_n dX12_does_113 rfl rfl (Or.inr (by decide)) (?_ : Ex _ _ 114 _ _ _ _ _)
        refine gt_12_73 c1 fl_RX12_161 dX12_does_114 (?_ : Ex _ _ 117 _ _ _ _ _)
        refine x_iload_n dX12_does_117 rfl rfl (?_ : Ex _ _ 118 _ _ _ _ _)
        obtain ⟨⟨c31, c32, c33⟩, h⟩ := chk_some h
        refine ld_i_5200 c31 c32 c33 dX12_does_118 (?_ : Ex _ _ 119 _ _ _ _ _)
        refine x_iconst dX12_does_119 rfl (by decide) (?_ : Ex _ _ 120 _ _ _ _ _)
        obtain ⟨v34, m35, g36, h⟩ := cal_some h
        refine cV3 (e_X12_setsTimer_ (d + 6) g36) (contV (?_ : Ex _ _ 123 _ _ _ _ _)) og_X12_setsTimer_ rfl ml_RX12_416 12 rfl rfl c1 im_X12_setsTimer_ se_X12_setsTimer_ (Nat.le_of_ble_eq_true rfl) dX12_does_120
        refine x_goto (tgt := 159) dX12_does_123 rfl (?_ : Ex _ _ 159 _ _ _ _ _)
        obtain ⟨c37, h⟩ := chk_some h
        refine x_iinc (ls2 := [(22, l0), (0, l1), (0, l2), (0, (l3 + 1)), (3, 0)]) dX12_does_159 rfl c37 rfl (?_ : Ex _ _ 162 _ _ _ _ _)
        refine x_goto (tgt := 9) dX12_does_162 rfl (?_ : Ex _ _ 9 _ _ _ _ _)
        exact ih h
      rcases ite_some h with ⟨b38, h⟩ | ⟨b38, h⟩
      · refine y_tableAt (j := 12) (off := 103) (tgt := 126) b38 dX12_does_23 (by decide) (by decide) rfl rfl (?_ : Ex _ _ 126 _ _ _ _ _)
        refine x_aload_n dX12_does_126 rfl rfl (Or.inr (by decide)) (?_ : Ex _ _ 127 _ _ _ _ _)
        refine x_iload_n dX12_does_127 rfl rfl (?_ : Ex _ _ 128 _ _ _ _ _)
        refine x_iload_n dX12_does_128 rfl rfl (?_ : Ex _ _ 129 _ _ _ _ _)
        obtain ⟨v39, m40, g41, h⟩ := cal_some h
        refine cV2 (e_X12_makesChild (d + 2) g41) (contV (?_ : Ex _ _ 132 _ _ _ _ _)) og_X12_makesChild rfl ml_RX12_419 12 rfl rfl c1 im_X12_makesChild se_X12_makesChild (Nat.le_of_ble_eq_true rfl) dX12_does_129
        refine x_goto (tgt := 159) dX12_does_132 rfl (?_ : Ex _ _ 159 _ _ _ _ _)
        obtain ⟨c42, h⟩ := chk_some h
        refine x_iinc (ls2 := [(22, l0), (0, l1), (0, l2), (0, (l3 + 1)), (3, 0)]) dX12_does_159 rfl c42 rfl (?_ : Ex _ _ 162 _ _ _ _ _)
        refine x_goto (tgt := 9) dX12_does_162 rfl (?_ : Ex _ _ 9 _ _ _ _ _)
        exact ih h
      rcases ite_some h with ⟨b43, h⟩ | ⟨b43, h⟩
      · refine y_tableAt (j := 13) (off := 136) (tgt := 159) b43 dX12_does_23 (by decide) (by decide) rfl rfl (?_ : Ex _ _ 159 _ _ _ _ _)
        obtain ⟨c44, h⟩ := chk_some h
        refine x_iinc (ls2 := [(22, l0), (0, l1), (0, l2), (0, (l3 + 1)), (3, 0)]) dX12_does_159 rfl c44 rfl (?_ : Ex _ _ 162 _ _ _ _ _)
        refine x_goto (tgt := 9) dX12_does_162 rfl (?_ : Ex _ _ 9 _ _ _ _ _)
        exact ih h
      rcases ite_some h with ⟨b45, h⟩ | ⟨b45, h⟩
      · refine y_tableAt (j := 14) (off := 112) (tgt := 135) b45 dX12_does_23 (by decide) (by decide) rfl rfl (?_ : Ex _ _ 135 _ _ _ _ _)
        refine x_aload_n dX12_does_135 rfl rfl (Or.inr (by decide)) (?_ : Ex _ _ 136 _ _ _ _ _)
        refine gt_12_13 c1 fl_RX12_43 dX12_does_136 (?_ : Ex _ _ 139 _ _ _ _ _)
        refine x_iconst dX12_does_139 rfl (by decide) (?_ : Ex _ _ 140 _ _ _ _ _)
        refine x_iload_n dX12_does_140 rfl rfl (?_ : Ex _ _ 141 _ _ _ _ _)
        obtain ⟨c46, h⟩ := chk_some h
        refine x_imul dX12_does_141 c46 (?_ : Ex _ _ 142 _ _ _ _ _)
        refine x_aload_n dX12_does_142 rfl rfl (Or.inr (by decide)) (?_ : Ex _ _ 143 _ _ _ _ _)
        refine gt_12_73 c1 fl_RX12_161 dX12_does_143 (?_ : Ex _ _ 146 _ _ _ _ _)
        refine x_iload_n dX12_does_146 rfl rfl (?_ : Ex _ _ 147 _ _ _ _ _)
        obtain ⟨⟨c47, c48, c49⟩, h⟩ := chk_some h
        refine ld_i_5200 c47 c48 c49 dX12_does_147 (?_ : Ex _ _ 148 _ _ _ _ _)
        obtain ⟨c50, h⟩ := chk_some h
        refine x_iadd dX12_does_148 c50 (?_ : Ex _ _ 149 _ _ _ _ _)
        refine x_aload_n dX12_does_149 rfl rfl (Or.inr (by decide)) (?_ : Ex _ _ 150 _ _ _ _ _)
        refine gt_12_74 c1 fl_RX12_164 dX12_does_150 (?_ : Ex _ _ 153 _ _ _ _ _)
        refine x_iload_n dX12_does_153 rfl rfl (?_ : Ex _ _ 154 _ _ _ _ _)
        obtain ⟨⟨c51, c52, c53⟩, h⟩ := chk_some h
        refine ld_i_5200 c51 c52 c53 dX12_does_154 (?_ : Ex _ _ 155 _ _ _ _ _)
        obtain ⟨⟨c54, c55, c56⟩, h⟩ := chk_some h
        obtain ⟨m57, hm57, h⟩ := st_some h
        refine sd_i_20 c54 c55 c56 dX12_does_155 (?_ : Ex _ _ 156 _ _ _ _ _)
        rw [← hm57]
        refine x_goto (tgt := 159) dX12_does_156 rfl (?_ : Ex _ _ 159 _ _ _ _ _)
        obtain ⟨c58, h⟩ := chk_some h
        refine x_iinc (ls2 := [(22, l0), (0, l1), (0, l2), (0, (l3 + 1)), (3, 0)]) dX12_does_159 rfl c58 rfl (?_ : Ex _ _ 162 _ _ _ _ _)
        refine x_goto (tgt := 9) dX12_does_162 rfl (?_ : Ex _ _ 9 _ _ _ _ _)
        exact ih h
      rcases ite_some h with ⟨b59, h⟩ | ⟨b59, h⟩
      · refine y_tableAt (j := 15) (off := 45) (tgt := 68) b59 dX12_does_23 (by decide) (by decide) rfl rfl (?_ : Ex _ _ 68 _ _ _ _ _)
        refine x_aload_n dX12_does_68 rfl rfl (Or.inr (by decide)) (?_ : Ex _ _ 69 _ _ _ _ _)
        refine x_iload_n dX12_does_69 rfl rfl (?_ : Ex _ _ 70 _ _ _ _ _)
        refine x_aload_n dX12_does_70 rfl rfl (Or.inr (by decide)) (?_ : Ex _ _ 71 _ _ _ _ _)
        refine gt_12_74 c1 fl_RX12_164 dX12_does_71 (?_ : Ex _ _ 74 _ _ _ _ _)
        refine x_iload_n dX12_does_74 rfl rfl (?_ : Ex _ _ 75 _ _ _ _ _)
        obtain ⟨⟨c60, c61, c62⟩, h⟩ := chk_some h
        refine ld_i_5200 c60 c61 c62 dX12_does_75 (?_ : Ex _ _ 76 _ _ _ _ _)
        obtain ⟨v63, m64, g65, h⟩ := cal_some h
        refine cV2 (e_X12_putsActivity (d + 6) g65) (contV (?_ : Ex _ _ 79 _ _ _ _ _)) og_X12_putsActivity rfl ml_RX12_413 12 rfl rfl c1 im_X12_putsActivity se_X12_putsActivity (Nat.le_of_ble_eq_true rfl) dX12_does_76
        refine x_goto (tgt := 159) dX12_does_79 rfl (?_ : Ex _ _ 159 _ _ _ _ _)
        obtain ⟨c66, h⟩ := chk_some h
        refine x_iinc (ls2 := [(22, l0), (0, l1), (0, l2), (0, (l3 + 1)), (3, 0)]) dX12_does_159 rfl c66 rfl (?_ : Ex _ _ 162 _ _ _ _ _)
        refine x_goto (tgt := 9) dX12_does_162 rfl (?_ : Ex _ _ 9 _ _ _ _ _)
        exact ih h
      refine x_tableOut (tgt := 159) dX12_does_23 (by omega) rfl (?_ : Ex _ _ 159 _ _ _ _ _)
      obtain ⟨c67, h⟩ := chk_some h
      refine x_iinc (ls2 := [(22, l0), (0, l1), (0, l2), (0, (l3 + 1)), (3, 0)]) dX12_does_159 rfl c67 rfl (?_ : Ex _ _ 162 _ _ _ _ _)
      refine x_goto (tgt := 9) dX12_does_162 rfl (?_ : Ex _ _ 9 _ _ _ _ _)
      exact ih h
theorem e_X12_does_0 (d : Nat) {l0 l1 : Int} {m : Mem} {v : Int} {m' : Mem} (h : X12_does_0 l0 l1 m = some (v, m')) : Ex (d + 7) fm_X12_does 0 [(22, l0), (0, l1), (3, 0), (3, 0), (3, 0)] [] m (.inl (3, 0)) m' := by
  unfold X12_does_0 at h
  refine x_aload_n dX12_does_0 rfl rfl (Or.inr (by decide)) (?_ : Ex _ _ 1 _ _ _ _ _)
  obtain ⟨c1, h⟩ := chk_some h
  refine gt_12_32 c1 fl_RX12_94 dX12_does_1 (?_ : Ex _ _ 4 _ _ _ _ _)
  refine x_iload_n dX12_does_4 rfl rfl (?_ : Ex _ _ 5 _ _ _ _ _)
  obtain ⟨⟨c2, c3, c4⟩, h⟩ := chk_some h
  refine ld_i_10 c2 c3 c4 dX12_does_5 (?_ : Ex _ _ 6 _ _ _ _ _)
  refine x_istore_n (ls2 := [(22, l0), (0, l1), (0, m (m l0 32) l1), (3, 0), (3, 0)]) dX12_does_6 rfl (Nat.le_of_ble_eq_true rfl) rfl (?_ : Ex _ _ 7 _ _ _ _ _)
  refine x_iconst dX12_does_7 rfl (by decide) (?_ : Ex _ _ 8 _ _ _ _ _)
  refine x_istore_n (ls2 := [(22, l0), (0, l1), (0, m (m l0 32) l1), (0, 0), (3, 0)]) dX12_does_8 rfl (Nat.le_of_ble_eq_true rfl) rfl (?_ : Ex _ _ 9 _ _ _ _ _)
  exact e_X12_does_9 d (fun h => e_X12_does_165 d h) fuel9 h
theorem e_X12_does (d : Nat) {a0 a1 : Int} {m : Mem} {v : Int} {m' : Mem} (h : X12_does a0 a1 m = some (v, m')) : ExM (d + 7) fm_X12_does [(22, a0), (0, a1)] m (.inl (3, 0)) m' := by
  exact ExM.of (by decide +kernel) (Nat.le_of_ble_eq_true rfl) (cat9 rfl) retV (e_X12_does_0 d h)
