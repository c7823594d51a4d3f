/-! the machine does what the functions say, printed -/
theorem dX4_beginSteps_0 : decode cX4_beginSteps 0 = .ok (.aload_n 0, 1) := by decide +kernel
theorem dX4_beginSteps_1 : decode cX4_beginSteps 1 = .ok (.getfield 38, 3) := by decide +kernel
theorem dX4_beginSteps_4 : decode cX4_beginSteps 4 = .ok (.getfield 193, 3) := by decide +kernel
theorem dX4_beginSteps_7 : decode cX4_beginSteps 7 = .ok (.aload_n 0, 1) := by decide +kernel
theorem dX4_beginSteps_8 : decode cX4_beginSteps 8 = .ok (.getfield 47, 3) := by decide +kernel
theorem dX4_beginSteps_11 : decode cX4_beginSteps 11 = .ok (.iaload, 1) := by decide +kernel
theorem dX4_beginSteps_12 : decode cX4_beginSteps 12 = .ok (.iconst 4, 1) := by decide +kernel
theorem dX4_beginSteps_13 : decode cX4_beginSteps 13 = .ok (.if_icmp .ne 7, 3) := by decide +kernel
theorem dX4_beginSteps_16 : decode cX4_beginSteps 16 = .ok (.iconst 1, 1) := by decide +kernel
theorem dX4_beginSteps_17 : decode cX4_beginSteps 17 = .ok (.goto 4, 3) := by decide +kernel
theorem dX4_beginSteps_20 : decode cX4_beginSteps 20 = .ok (.iconst 0, 1) := by decide +kernel
theorem dX4_beginSteps_21 : decode cX4_beginSteps 21 = .ok (.istore_n 1, 1) := by decide +kernel
theorem dX4_beginSteps_22 : decode cX4_beginSteps 22 = .ok (.iload_n 1, 1) := by decide +kernel
theorem dX4_beginSteps_23 : decode cX4_beginSteps 23 = .ok (.ifCond .eq 12, 3) := by decide +kernel
theorem dX4_beginSteps_26 : decode cX4_beginSteps 26 = .ok (.aload_n 0, 1) := by decide +kernel
theorem dX4_beginSteps_27 : decode cX4_beginSteps 27 = .ok (.getfield 47, 3) := by decide +kernel
theorem dX4_beginSteps_30 : decode cX4_beginSteps 30 = .ok (.iconst 1, 1) := by decide +kernel
theorem dX4_beginSteps_31 : decode cX4_beginSteps 31 = .ok (.iadd, 1) := by decide +kernel
theorem dX4_beginSteps_32 : decode cX4_beginSteps 32 = .ok (.goto 7, 3) := by decide +kernel
theorem dX4_beginSteps_35 : decode cX4_beginSteps 35 = .ok (.aload_n 0, 1) := by decide +kernel
theorem dX4_beginSteps_36 : decode cX4_beginSteps 36 = .ok (.getfield 47, 3) := by decide +kernel
theorem dX4_beginSteps_39 : decode cX4_beginSteps 39 = .ok (.istore_n 2, 1) := by decide +kernel
theorem dX4_beginSteps_40 : decode cX4_beginSteps 40 = .ok (.aload_n 0, 1) := by decide +kernel
theorem dX4_beginSteps_41 : decode cX4_beginSteps 41 = .ok (.iload_n 1, 1) := by decide +kernel
theorem dX4_beginSteps_42 : decode cX4_beginSteps 42 = .ok (.ifCond .eq 22, 3) := by decide +kernel
theorem dX4_beginSteps_45 : decode cX4_beginSteps 45 = .ok (.aload_n 0, 1) := by decide +kernel
theorem dX4_beginSteps_46 : decode cX4_beginSteps 46 = .ok (.getfield 38, 3) := by decide +kernel
theorem dX4_beginSteps_49 : decode cX4_beginSteps 49 = .ok (.getfield 194, 3) := by decide +kernel
theorem dX4_beginSteps_52 : decode cX4_beginSteps 52 = .ok (.aload_n 0, 1) := by decide +kernel
theorem dX4_beginSteps_53 : decode cX4_beginSteps 53 = .ok (.getfield 47, 3) := by decide +kernel
theorem dX4_beginSteps_56 : decode cX4_beginSteps 56 = .ok (.iaload, 1) := by decide +kernel
theorem dX4_beginSteps_57 : decode cX4_beginSteps 57 = .ok (.iconst 3, 1) := by decide +kernel
theorem dX4_beginSteps_58 : decode cX4_beginSteps 58 = .ok (.invokestatic 224, 3) := by decide +kernel
theorem dX4_beginSteps_61 : decode cX4_beginSteps 61 = .ok (.goto 4, 3) := by decide +kernel
theorem dX4_beginSteps_64 : decode cX4_beginSteps 64 = .ok (.iconst 1, 1) := by decide +kernel
theorem dX4_beginSteps_65 : decode cX4_beginSteps 65 = .ok (.aload_n 0, 1) := by decide +kernel
theorem dX4_beginSteps_66 : decode cX4_beginSteps 66 = .ok (.getfield 38, 3) := by decide +kernel
theorem dX4_beginSteps_69 : decode cX4_beginSteps 69 = .ok (.getfield 183, 3) := by decide +kernel
theorem dX4_beginSteps_72 : decode cX4_beginSteps 72 = .ok (.iload_n 2, 1) := by decide +kernel
theorem dX4_beginSteps_73 : decode cX4_beginSteps 73 = .ok (.isub, 1) := by decide +kernel
theorem dX4_beginSteps_74 : decode cX4_beginSteps 74 = .ok (.invokestatic 224, 3) := by decide +kernel
theorem dX4_beginSteps_77 : decode cX4_beginSteps 77 = .ok (.putfield 103, 3) := by decide +kernel
theorem dX4_beginSteps_80 : decode cX4_beginSteps 80 = .ok (.aload_n 0, 1) := by decide +kernel
theorem dX4_beginSteps_81 : decode cX4_beginSteps 81 = .ok (.iload_n 2, 1) := by decide +kernel
theorem dX4_beginSteps_82 : decode cX4_beginSteps 82 = .ok (.aload_n 0, 1) := by decide +kernel
theorem dX4_beginSteps_83 : decode cX4_beginSteps 83 = .ok (.getfield 103, 3) := by decide +kernel
theorem dX4_beginSteps_86 : decode cX4_beginSteps 86 = .ok (.iadd, 1) := by decide +kernel
theorem dX4_beginSteps_87 : decode cX4_beginSteps 87 = .ok (.putfield 100, 3) := by decide +kernel
theorem dX4_beginSteps_90 : decode cX4_beginSteps 90 = .ok (.aload_n 0, 1) := by decide +kernel
theorem dX4_beginSteps_91 : decode cX4_beginSteps 91 = .ok (.iconst 1, 1) := by decide +kernel
theorem dX4_beginSteps_92 : decode cX4_beginSteps 92 = .ok (.putfield 43, 3) := by decide +kernel
theorem dX4_beginSteps_95 : decode cX4_beginSteps 95 = .ok (.iconst 0, 1) := by decide +kernel
theorem dX4_beginSteps_96 : decode cX4_beginSteps 96 = .ok (.istore_n 3, 1) := by decide +kernel
theorem dX4_beginSteps_97 : decode cX4_beginSteps 97 = .ok (.iload_n 3, 1) := by decide +kernel
theorem dX4_beginSteps_98 : decode cX4_beginSteps 98 = .ok (.aload_n 0, 1) := by decide +kernel
theorem dX4_beginSteps_99 : decode cX4_beginSteps 99 = .ok (.getfield 103, 3) := by decide +kernel
theorem dX4_beginSteps_102 : decode cX4_beginSteps 102 = .ok (.if_icmp .ge 22, 3) := by decide +kernel
theorem dX4_beginSteps_105 : decode cX4_beginSteps 105 = .ok (.aload_n 0, 1) := by decide +kernel
theorem dX4_beginSteps_106 : decode cX4_beginSteps 106 = .ok (.aload_n 0, 1) := by decide +kernel
theorem dX4_beginSteps_107 : decode cX4_beginSteps 107 = .ok (.getfield 24, 3) := by decide +kernel
theorem dX4_beginSteps_110 : decode cX4_beginSteps 110 = .ok (.iload_n 3, 1) := by decide +kernel
theorem dX4_beginSteps_111 : decode cX4_beginSteps 111 = .ok (.aaload, 1) := by decide +kernel
theorem dX4_beginSteps_112 : decode cX4_beginSteps 112 = .ok (.iload_n 2, 1) := by decide +kernel
theorem dX4_beginSteps_113 : decode cX4_beginSteps 113 = .ok (.iload_n 3, 1) := by decide +kernel
theorem dX4_beginSteps_114 : decode cX4_beginSteps 114 = .ok (.iadd, 1) := by decide +kernel
theorem dX4_beginSteps_115 : decode cX4_beginSteps 115 = .ok (.invokevirtual 231, 3) := by decide +kernel
theorem dX4_beginSteps_118 : decode cX4_beginSteps 118 = .ok (.iinc 3 1, 3) := by decide +kernel
theorem dX4_beginSteps_121 : decode cX4_beginSteps 121 = .ok (.goto (-24), 3) := by decide +kernel
theorem dX4_beginSteps_124 : decode cX4_beginSteps 124 = .ok (.return_, 1) := by decide +kernel
theorem e_X4_beginSteps_97 (d : Nat) : ∀ (n : Nat) {l0 l2 l3 : Int} {m : Mem} {v : Int} {m' : Mem}, X4_beginSteps_97 n l0 l2 l3 m = some (v, m') → Ex (d + 3) fm_X4_beginSteps 97 [(14, l0), (3, 0), (0, l2), (0, l3)] [] m (.inl (3, 0)) m' := by
  intro n
  induction n with
  | zero =>
    intro l0 l2 l3 m v m' h
    have h : (none : Option R2) = some _ := h
    cases h
  | succ n ih =>
    intro l0 l2 l3 m v m' h
    rw [X4_beginSteps_97] at h
    refine x_iload_n dX4_beginSteps_97 rfl rfl (?_ : Ex _ _ 98 _ _ _ _ _)
    refine x_aload_n dX4_beginSteps_98 rfl rfl (Or.inr (by decide)) (?_ : Ex _ _ 99 _ _ _ _ _)
    obtain ⟨c1, h⟩ := chk_some h
    refine gt_4_12 c1 fl_RX4_103 dX4_beginSteps_99 (?_ : Ex _ _ 102 _ _ _ _ _)
    rcases ite_some h with ⟨b2, h⟩ | ⟨b2, h⟩
    · refine x_icmp_ge (tgt := 124) dX4_beginSteps_102 rfl b2 (?_ : Ex _ _ 124 _ _ _ _ _)
      cases h
      exact x_retv dX4_beginSteps_124
    · refine x_icmp_geN dX4_beginSteps_102 (by decide) b2 (?_ : Ex _ _ 105 _ _ _ _ _)
      refine x_aload_n dX4_beginSteps_105 rfl rfl (Or.inr (by decide)) (?_ : Ex _ _ 106 _ _ _ _ _)
      refine x_aload_n dX4_beginSteps_106 rfl rfl (Or.inr (by decide)) (?_ : Ex _ _ 107 _ _ _ _ _)
      refine gt_4_3 c1 fl_RX4_24 dX4_beginSteps_107 (?_ : Ex _ _ 110 _ _ _ _ _)
      refine x_iload_n dX4_beginSteps_110 rfl rfl (?_ : Ex _ _ 111 _ _ _ _ _)
      obtain ⟨⟨c3, c4, c5⟩, h⟩ := chk_some h
      refine ad_8_3 c3 c4 c5 dX4_beginSteps_111 (?_ : Ex _ _ 112 _ _ _ _ _)
      refine x_iload_n dX4_beginSteps_112 rfl rfl (?_ : Ex _ _ 113 _ _ _ _ _)
      refine x_iload_n dX4_beginSteps_113 rfl rfl (?_ : Ex _ _ 114 _ _ _ _ _)
      obtain ⟨c6, h⟩ := chk_some h
      refine x_iadd dX4_beginSteps_114 c6 (?_ : Ex _ _ 115 _ _ _ _ _)
      obtain ⟨v7, m8, g9, h⟩ := cal_some h
      refine cV2 (e_X4_beginStep d g9) (contV (?_ : Ex _ _ 118 _ _ _ _ _)) og_X4_beginStep rfl ml_RX4_231 4 rfl rfl c1 im_X4_beginStep se_X4_beginStep (Nat.le_of_ble_eq_true rfl) dX4_beginSteps_115
      obtain ⟨c10, h⟩ := chk_some h
      refine x_iinc (ls2 := [(14, l0), (3, 0), (0, l2), (0, (l3 + 1))]) dX4_beginSteps_118 rfl c10 rfl (?_ : Ex _ _ 121 _ _ _ _ _)
      refine x_goto (tgt := 97) dX4_beginSteps_121 rfl (?_ : Ex _ _ 97 _ _ _ _ _)
      exact ih h
theorem e_X4_beginSteps_65 (d : Nat) {l0 l2 s0 s1 : Int} {m : Mem} {v : Int} {m' : Mem} (h : X4_beginSteps_65 l0 l2 s0 s1 m = some (v, m')) : Ex (d + 3) fm_X4_beginSteps 65 [(14, l0), (3, 0), (0, l2), (3, 0)] [(0, s0), (14, s1)] m (.inl (3, 0)) m' := by
  unfold X4_beginSteps_65 at h
  refine x_aload_n dX4_beginSteps_65 rfl rfl (Or.inr (by decide)) (?_ : Ex _ _ 66 _ _ _ _ _)
  obtain ⟨c1, h⟩ := chk_some h
  refine gt_4_7 c1 fl_RX4_38 dX4_beginSteps_66 (?_ : Ex _ _ 69 _ _ _ _ _)
  obtain ⟨c2, h⟩ := chk_some h
  refine gt_5_3 c2 fl_RX4_183 dX4_beginSteps_69 (?_ : Ex _ _ 72 _ _ _ _ _)
  refine x_iload_n dX4_beginSteps_72 rfl rfl (?_ : Ex _ _ 73 _ _ _ _ _)
  obtain ⟨c3, h⟩ := chk_some h
  refine x_isub dX4_beginSteps_73 c3 (?_ : Ex _ _ 74 _ _ _ _ _)
  refine x_mmin mm_RX4_224 mmin_a mm_b mmin_c (Nat.le_of_ble_eq_true rfl) dX4_beginSteps_74 (?_ : Ex _ _ 77 _ _ _ _ _)
  obtain ⟨c4, h⟩ := chk_some h
  obtain ⟨m5, hm5, h⟩ := st_some h
  refine pt_4_12  c4 fl_RX4_103 dX4_beginSteps_77 (?_ : Ex _ _ 80 _ _ _ _ _)
  rw [← hm5]
  refine x_aload_n dX4_beginSteps_80 rfl rfl (Or.inr (by decide)) (?_ : Ex _ _ 81 _ _ _ _ _)
  refine x_iload_n dX4_beginSteps_81 rfl rfl (?_ : Ex _ _ 82 _ _ _ _ _)
  refine x_aload_n dX4_beginSteps_82 rfl rfl (Or.inr (by decide)) (?_ : Ex _ _ 83 _ _ _ _ _)
  refine gt_4_12 c1 fl_RX4_103 dX4_beginSteps_83 (?_ : Ex _ _ 86 _ _ _ _ _)
  obtain ⟨c6, h⟩ := chk_some h
  refine x_iadd dX4_beginSteps_86 c6 (?_ : Ex _ _ 87 _ _ _ _ _)
  obtain ⟨m7, hm7, h⟩ := st_some h
  refine pt_4_11  c1 fl_RX4_100 dX4_beginSteps_87 (?_ : Ex _ _ 90 _ _ _ _ _)
  rw [← hm7]
  refine x_aload_n dX4_beginSteps_90 rfl rfl (Or.inr (by decide)) (?_ : Ex _ _ 91 _ _ _ _ _)
  refine x_iconst dX4_beginSteps_91 rfl (by decide) (?_ : Ex _ _ 92 _ _ _ _ _)
  obtain ⟨m8, hm8, h⟩ := st_some h
  refine pt_4_9  c1 fl_RX4_43 dX4_beginSteps_92 (?_ : Ex _ _ 95 _ _ _ _ _)
  rw [← hm8]
  refine x_iconst dX4_beginSteps_95 rfl (by decide) (?_ : Ex _ _ 96 _ _ _ _ _)
  refine x_istore_n (ls2 := [(14, l0), (3, 0), (0, l2), (0, 0)]) dX4_beginSteps_96 rfl (Nat.le_of_ble_eq_true rfl) rfl (?_ : Ex _ _ 97 _ _ _ _ _)
  exact e_X4_beginSteps_97 d fuel9 h
theorem e_X4_beginSteps_39 (d : Nat) {l0 l1 s0 : Int} {m : Mem} {v : Int} {m' : Mem} (h : X4_beginSteps_39 l0 l1 s0 m = some (v, m')) : Ex (d + 3) fm_X4_beginSteps 39 [(14, l0), (0, l1), (3, 0), (3, 0)] [(0, s0)] m (.inl (3, 0)) m' := by
  unfold X4_beginSteps_39 at h
  refine x_istore_n (ls2 := [(14, l0), (0, l1), (0, s0), (3, 0)]) dX4_beginSteps_39 rfl (Nat.le_of_ble_eq_true rfl) rfl (?_ : Ex _ _ 40 _ _ _ _ _)
  refine x_aload_n dX4_beginSteps_40 rfl rfl (Or.inr (by decide)) (?_ : Ex _ _ 41 _ _ _ _ _)
  refine x_iload_n dX4_beginSteps_41 rfl rfl (?_ : Ex _ _ 42 _ _ _ _ _)
  rcases ite_some h with ⟨b1, h⟩ | ⟨b1, h⟩
  · refine x_if_eq (tgt := 64) dX4_beginSteps_42 rfl b1 (?_ : Ex _ _ 64 _ _ _ _ _)
    refine x_iconst dX4_beginSteps_64 rfl (by decide) (?_ : Ex _ _ 65 _ _ _ _ _)
    refine Ex.wk (ls2 := [(14, l0), (3, 0), (0, s0), (3, 0)]) ⟨Or.inr rfl, Or.inl rfl, Or.inr rfl, Or.inl rfl, trivial⟩ ?_
    exact e_X4_beginSteps_65 d h
  · refine x_if_eqN dX4_beginSteps_42 (by decide) b1 (?_ : Ex _ _ 45 _ _ _ _ _)
    refine x_aload_n dX4_beginSteps_45 rfl rfl (Or.inr (by decide)) (?_ : Ex _ _ 46 _ _ _ _ _)
    obtain ⟨c2, h⟩ := chk_some h
    refine gt_4_7 c2 fl_RX4_38 dX4_beginSteps_46 (?_ : Ex _ _ 49 _ _ _ _ _)
    obtain ⟨c3, h⟩ := chk_some h
    refine gt_5_1 c3 fl_RX4_194 dX4_beginSteps_49 (?_ : Ex _ _ 52 _ _ _ _ _)
    refine x_aload_n dX4_beginSteps_52 rfl rfl (Or.inr (by decide)) (?_ : Ex _ _ 53 _ _ _ _ _)
    refine gt_4_10 c2 fl_RX4_47 dX4_beginSteps_53 (?_ : Ex _ _ 56 _ _ _ _ _)
    obtain ⟨⟨c4, c5, c6⟩, h⟩ := chk_some h
    refine ld_i_12 c4 c5 c6 dX4_beginSteps_56 (?_ : Ex _ _ 57 _ _ _ _ _)
    refine x_iconst dX4_beginSteps_57 rfl (by decide) (?_ : Ex _ _ 58 _ _ _ _ _)
    refine x_mmin mm_RX4_224 mmin_a mm_b mmin_c (Nat.le_of_ble_eq_true rfl) dX4_beginSteps_58 (?_ : Ex _ _ 61 _ _ _ _ _)
    refine x_goto (tgt := 65) dX4_beginSteps_61 rfl (?_ : Ex _ _ 65 _ _ _ _ _)
    refine Ex.wk (ls2 := [(14, l0), (3, 0), (0, s0), (3, 0)]) ⟨Or.inr rfl, Or.inl rfl, Or.inr rfl, Or.inl rfl, trivial⟩ ?_
    exact e_X4_beginSteps_65 d h
theorem e_X4_beginSteps_21 (d : Nat) {l0 s0 : Int} {m : Mem} {v : Int} {m' : Mem} (h : X4_beginSteps_21 l0 s0 m = some (v, m')) : Ex (d + 3) fm_X4_beginSteps 21 [(14, l0), (3, 0), (3, 0), (3, 0)] [(0, s0)] m (.inl (3, 0)) m' := by
  unfold X4_beginSteps_21 at h
  refine x_istore_n (ls2 := [(14, l0), (0, s0), (3, 0), (3, 0)]) dX4_beginSteps_21 rfl (Nat.le_of_ble_eq_true rfl) rfl (?_ : Ex _ _ 22 _ _ _ _ _)
  refine x_iload_n dX4_beginSteps_22 rfl rfl (?_ : Ex _ _ 23 _ _ _ _ _)
  rcases ite_some h with ⟨b1, h⟩ | ⟨b1, h⟩
  · refine x_if_eq (tgt := 35) dX4_beginSteps_23 rfl b1 (?_ : Ex _ _ 35 _ _ _ _ _)
    refine x_aload_n dX4_beginSteps_35 rfl rfl (Or.inr (by decide)) (?_ : Ex _ _ 36 _ _ _ _ _)
    obtain ⟨c2, h⟩ := chk_some h
    refine gt_4_10 c2 fl_RX4_47 dX4_beginSteps_36 (?_ : Ex _ _ 39 _ _ _ _ _)
    exact e_X4_beginSteps_39 d h
  · refine x_if_eqN dX4_beginSteps_23 (by decide) b1 (?_ : Ex _ _ 26 _ _ _ _ _)
    refine x_aload_n dX4_beginSteps_26 rfl rfl (Or.inr (by decide)) (?_ : Ex _ _ 27 _ _ _ _ _)
    obtain ⟨c3, h⟩ := chk_some h
    refine gt_4_10 c3 fl_RX4_47 dX4_beginSteps_27 (?_ : Ex _ _ 30 _ _ _ _ _)
    refine x_iconst dX4_beginSteps_30 rfl (by decide) (?_ : Ex _ _ 31 _ _ _ _ _)
    obtain ⟨c4, h⟩ := chk_some h
    refine x_iadd dX4_beginSteps_31 c4 (?_ : Ex _ _ 32 _ _ _ _ _)
    refine x_goto (tgt := 39) dX4_beginSteps_32 rfl (?_ : Ex _ _ 39 _ _ _ _ _)
    exact e_X4_beginSteps_39 d h
theorem e_X4_beginSteps_0 (d : Nat) {l0 : Int} {m : Mem} {v : Int} {m' : Mem} (h : X4_beginSteps_0 l0 m = some (v, m')) : Ex (d + 3) fm_X4_beginSteps 0 [(14, l0), (3, 0), (3, 0), (3, 0)] [] m (.inl (3, 0)) m' := by
  unfold X4_beginSteps_0 at h
  refine x_aload_n dX4_beginSteps_0 rfl rfl (Or.inr (by decide)) (?_ : Ex _ _ 1 _ _ _ _ _)
  obtain ⟨c1, h⟩ := chk_some h
  refine gt_4_7 c1 fl_RX4_38 dX4_beginSteps_1 (?_ : Ex _ _ 4 _ _ _ _ _)
  obtain ⟨c2, h⟩ := chk_some h
  refine gt_5_0 c2 fl_RX4_193 dX4_beginSteps_4 (?_ : Ex _ _ 7 _ _ _ _ _)
  refine x_aload_n dX4_beginSteps_7 rfl rfl (Or.inr (by decide)) (?_ : Ex _ _ 8 _ _ _ _ _)
  refine gt_4_10 c1 fl_RX4_47 dX4_beginSteps_8 (?_ : Ex _ _ 11 _ _ _ _ _)
  obtain ⟨⟨c3, c4, c5⟩, h⟩ := chk_some h
  refine ld_i_12 c3 c4 c5 dX4_beginSteps_11 (?_ : Ex _ _ 12 _ _ _ _ _)
  refine x_iconst dX4_beginSteps_12 rfl (by decide) (?_ : Ex _ _ 13 _ _ _ _ _)
  rcases ite_some h with ⟨b6, h⟩ | ⟨b6, h⟩
  · refine x_icmp_neN dX4_beginSteps_13 (by decide) (fun hh => hh b6) (?_ : Ex _ _ 16 _ _ _ _ _)
    refine x_iconst dX4_beginSteps_16 rfl (by decide) (?_ : Ex _ _ 17 _ _ _ _ _)
    refine x_goto (tgt := 21) dX4_beginSteps_17 rfl (?_ : Ex _ _ 21 _ _ _ _ _)
    exact e_X4_beginSteps_21 d h
  · refine x_icmp_ne (tgt := 20) dX4_beginSteps_13 rfl b6 (?_ : Ex _ _ 20 _ _ _ _ _)
    refine x_iconst dX4_beginSteps_20 rfl (by decide) (?_ : Ex _ _ 21 _ _ _ _ _)
    exact e_X4_beginSteps_21 d h
theorem e_X4_beginSteps (d : Nat) {a0 : Int} {m : Mem} {v : Int} {m' : Mem} (h : X4_beginSteps a0 m = some (v, m')) : ExM (d + 3) fm_X4_beginSteps [(14, a0)] m (.inl (3, 0)) m' := by
  exact ExM.of (by decide +kernel) (Nat.le_of_ble_eq_true rfl) (cat9 rfl) retV (e_X4_beginSteps_0 d h)
theorem dX4_goOn_0 : decode cX4_goOn 0 = .ok (.aload_n 0, 1) := by decide +kernel
theorem dX4_goOn_1 : decode cX4_goOn 1 = .ok (.invokevirtual 173, 3) := by decide +kernel
theorem dX4_goOn_4 : decode cX4_goOn 4 = .ok (.iconst 0, 1) := by decide +kernel
theorem dX4_goOn_5 : decode cX4_goOn 5 = .ok (.istore_n 1, 1) := by decide +kernel
theorem dX4_goOn_6 : decode cX4_goOn 6 = .ok (.iload_n 1, 1) := by decide +kernel
theorem dX4_goOn_7 : decode cX4_goOn 7 = .ok (.bipush 61, 2) := by decide +kernel
theorem dX4_goOn_9 : decode cX4_goOn 9 = .ok (.if_icmp .gt 198, 3) := by decide +kernel
theorem dX4_goOn_12 : decode cX4_goOn 12 = .ok (.aload_n 0, 1) := by decide +kernel
theorem dX4_goOn_13 : decode cX4_goOn 13 = .ok (.invokevirtual 176, 3) := by decide +kernel
theorem dX4_goOn_16 : decode cX4_goOn 16 = .ok (.ifCond .eq 191, 3) := by decide +kernel
theorem dX4_goOn_19 : decode cX4_goOn 19 = .ok (.aload_n 0, 1) := by decide +kernel
theorem dX4_goOn_20 : decode cX4_goOn 20 = .ok (.aload_n 0, 1) := by decide +kernel
theorem dX4_goOn_21 : decode cX4_goOn 21 = .ok (.getfield 106, 3) := by decide +kernel
theorem dX4_goOn_24 : decode cX4_goOn 24 = .ok (.ifCond .le 7, 3) := by decide +kernel
theorem dX4_goOn_27 : decode cX4_goOn 27 = .ok (.iconst 1, 1) := by decide +kernel
theorem dX4_goOn_28 : decode cX4_goOn 28 = .ok (.goto 4, 3) := by decide +kernel
theorem dX4_goOn_31 : decode cX4_goOn 31 = .ok (.iconst 0, 1) := by decide +kernel
theorem dX4_goOn_32 : decode cX4_goOn 32 = .ok (.putfield 109, 3) := by decide +kernel
theorem dX4_goOn_35 : decode cX4_goOn 35 = .ok (.aload_n 0, 1) := by decide +kernel
theorem dX4_goOn_36 : decode cX4_goOn 36 = .ok (.getfield 43, 3) := by decide +kernel
theorem dX4_goOn_39 : decode cX4_goOn 39 = .ok (.iconst 2, 1) := by decide +kernel
theorem dX4_goOn_40 : decode cX4_goOn 40 = .ok (.if_icmp .ne 10, 3) := by decide +kernel
theorem dX4_goOn_43 : decode cX4_goOn 43 = .ok (.aload_n 0, 1) := by decide +kernel
theorem dX4_goOn_44 : decode cX4_goOn 44 = .ok (.invokevirtual 180, 3) := by decide +kernel
theorem dX4_goOn_47 : decode cX4_goOn 47 = .ok (.goto 150, 3) := by decide +kernel
theorem dX4_goOn_50 : decode cX4_goOn 50 = .ok (.aload_n 0, 1) := by decide +kernel
theorem dX4_goOn_51 : decode cX4_goOn 51 = .ok (.getfield 112, 3) := by decide +kernel
theorem dX4_goOn_54 : decode cX4_goOn 54 = .ok (.ifCond .eq 17, 3) := by decide +kernel
theorem dX4_goOn_57 : decode cX4_goOn 57 = .ok (.aload_n 0, 1) := by decide +kernel
theorem dX4_goOn_58 : decode cX4_goOn 58 = .ok (.getfield 109, 3) := by decide +kernel
theorem dX4_goOn_61 : decode cX4_goOn 61 = .ok (.ifCond .ne 10, 3) := by decide +kernel
theorem dX4_goOn_64 : decode cX4_goOn 64 = .ok (.aload_n 0, 1) := by decide +kernel
theorem dX4_goOn_65 : decode cX4_goOn 65 = .ok (.invokevirtual 167, 3) := by decide +kernel
theorem dX4_goOn_68 : decode cX4_goOn 68 = .ok (.goto 129, 3) := by decide +kernel
theorem dX4_goOn_71 : decode cX4_goOn 71 = .ok (.aload_n 0, 1) := by decide +kernel
theorem dX4_goOn_72 : decode cX4_goOn 72 = .ok (.getfield 47, 3) := by decide +kernel
theorem dX4_goOn_75 : decode cX4_goOn 75 = .ok (.ifCond .lt 17, 3) := by decide +kernel
theorem dX4_goOn_78 : decode cX4_goOn 78 = .ok (.aload_n 0, 1) := by decide +kernel
theorem dX4_goOn_79 : decode cX4_goOn 79 = .ok (.getfield 47, 3) := by decide +kernel
theorem dX4_goOn_82 : decode cX4_goOn 82 = .ok (.aload_n 0, 1) := by decide +kernel
theorem dX4_goOn_83 : decode cX4_goOn 83 = .ok (.getfield 38, 3) := by decide +kernel
theorem dX4_goOn_86 : decode cX4_goOn 86 = .ok (.getfield 183, 3) := by decide +kernel
theorem dX4_goOn_89 : decode cX4_goOn 89 = .ok (.if_icmp .lt 16, 3) := by decide +kernel
theorem dX4_goOn_92 : decode cX4_goOn 92 = .ok (.aload_n 0, 1) := by decide +kernel
theorem dX4_goOn_93 : decode cX4_goOn 93 = .ok (.bipush 21, 2) := by decide +kernel
theorem dX4_goOn_95 : decode cX4_goOn 95 = .ok (.aload_n 0, 1) := by decide +kernel
theorem dX4_goOn_96 : decode cX4_goOn 96 = .ok (.getfield 94, 3) := by decide +kernel
theorem dX4_goOn_99 : decode cX4_goOn 99 = .ok (.invokevirtual 184, 3) := by decide +kernel
theorem dX4_goOn_102 : decode cX4_goOn 102 = .ok (.goto 95, 3) := by decide +kernel
theorem dX4_goOn_105 : decode cX4_goOn 105 = .ok (.iload_n 1, 1) := by decide +kernel
theorem dX4_goOn_106 : decode cX4_goOn 106 = .ok (.bipush 60, 2) := by decide +kernel
theorem dX4_goOn_108 : decode cX4_goOn 108 = .ok (.if_icmp .lt 12, 3) := by decide +kernel
theorem dX4_goOn_111 : decode cX4_goOn 111 = .ok (.aload_n 0, 1) := by decide +kernel
theorem dX4_goOn_112 : decode cX4_goOn 112 = .ok (.bipush 9, 2) := by decide +kernel
theorem dX4_goOn_114 : decode cX4_goOn 114 = .ok (.invokevirtual 170, 3) := by decide +kernel
theorem dX4_goOn_117 : decode cX4_goOn 117 = .ok (.goto 80, 3) := by decide +kernel
theorem dX4_goOn_120 : decode cX4_goOn 120 = .ok (.aload_n 0, 1) := by decide +kernel
theorem dX4_goOn_121 : decode cX4_goOn 121 = .ok (.iconst 0, 1) := by decide +kernel
theorem dX4_goOn_122 : decode cX4_goOn 122 = .ok (.aload_n 0, 1) := by decide +kernel
theorem dX4_goOn_123 : decode cX4_goOn 123 = .ok (.getfield 106, 3) := by decide +kernel
theorem dX4_goOn_126 : decode cX4_goOn 126 = .ok (.iconst 1, 1) := by decide +kernel
theorem dX4_goOn_127 : decode cX4_goOn 127 = .ok (.isub, 1) := by decide +kernel
theorem dX4_goOn_128 : decode cX4_goOn 128 = .ok (.invokestatic 187, 3) := by decide +kernel
theorem dX4_goOn_131 : decode cX4_goOn 131 = .ok (.putfield 106, 3) := by decide +kernel
theorem dX4_goOn_134 : decode cX4_goOn 134 = .ok (.aload_n 0, 1) := by decide +kernel
theorem dX4_goOn_135 : decode cX4_goOn 135 = .ok (.getfield 38, 3) := by decide +kernel
theorem dX4_goOn_138 : decode cX4_goOn 138 = .ok (.getfield 193, 3) := by decide +kernel
theorem dX4_goOn_141 : decode cX4_goOn 141 = .ok (.aload_n 0, 1) := by decide +kernel
theorem dX4_goOn_142 : decode cX4_goOn 142 = .ok (.getfield 47, 3) := by decide +kernel
theorem dX4_goOn_145 : decode cX4_goOn 145 = .ok (.iaload, 1) := by decide +kernel
theorem dX4_goOn_146 : decode cX4_goOn 146 = .ok (.iconst 4, 1) := by decide +kernel
theorem dX4_goOn_147 : decode cX4_goOn 147 = .ok (.if_icmp .le 46, 3) := by decide +kernel
theorem dX4_goOn_150 : decode cX4_goOn 150 = .ok (.aload_n 0, 1) := by decide +kernel
theorem dX4_goOn_151 : decode cX4_goOn 151 = .ok (.aload_n 0, 1) := by decide +kernel
theorem dX4_goOn_152 : decode cX4_goOn 152 = .ok (.getfield 38, 3) := by decide +kernel
theorem dX4_goOn_155 : decode cX4_goOn 155 = .ok (.getfield 193, 3) := by decide +kernel
theorem dX4_goOn_158 : decode cX4_goOn 158 = .ok (.aload_n 0, 1) := by decide +kernel
theorem dX4_goOn_159 : decode cX4_goOn 159 = .ok (.getfield 47, 3) := by decide +kernel
theorem dX4_goOn_162 : decode cX4_goOn 162 = .ok (.iaload, 1) := by decide +kernel
theorem dX4_goOn_163 : decode cX4_goOn 163 = .ok (.aload_n 0, 1) := by decide +kernel
theorem dX4_goOn_164 : decode cX4_goOn 164 = .ok (.getfield 38, 3) := by decide +kernel
theorem dX4_goOn_167 : decode cX4_goOn 167 = .ok (.getfield 194, 3) := by decide +kernel
theorem dX4_goOn_170 : decode cX4_goOn 170 = .ok (.aload_n 0, 1) := by decide +kernel
theorem dX4_goOn_171 : decode cX4_goOn 171 = .ok (.getfield 47, 3) := by decide +kernel
theorem dX4_goOn_174 : decode cX4_goOn 174 = .ok (.iaload, 1) := by decide +kernel
theorem dX4_goOn_175 : decode cX4_goOn 175 = .ok (.aload_n 0, 1) := by decide +kernel
theorem dX4_goOn_176 : decode cX4_goOn 176 = .ok (.getfield 38, 3) := by decide +kernel
theorem dX4_goOn_179 : decode cX4_goOn 179 = .ok (.getfield 195, 3) := by decide +kernel
theorem dX4_goOn_182 : decode cX4_goOn 182 = .ok (.aload_n 0, 1) := by decide +kernel
theorem dX4_goOn_183 : decode cX4_goOn 183 = .ok (.getfield 47, 3) := by decide +kernel
theorem dX4_goOn_186 : decode cX4_goOn 186 = .ok (.iaload, 1) := by decide +kernel
theorem dX4_goOn_187 : decode cX4_goOn 187 = .ok (.invokevirtual 196, 3) := by decide +kernel
theorem dX4_goOn_190 : decode cX4_goOn 190 = .ok (.goto 7, 3) := by decide +kernel
theorem dX4_goOn_193 : decode cX4_goOn 193 = .ok (.aload_n 0, 1) := by decide +kernel
theorem dX4_goOn_194 : decode cX4_goOn 194 = .ok (.invokevirtual 199, 3) := by decide +kernel
theorem dX4_goOn_197 : decode cX4_goOn 197 = .ok (.aload_n 0, 1) := by decide +kernel
theorem dX4_goOn_198 : decode cX4_goOn 198 = .ok (.invokevirtual 173, 3) := by decide +kernel
theorem dX4_goOn_201 : decode cX4_goOn 201 = .ok (.iinc 1 1, 3) := by decide +kernel
theorem dX4_goOn_204 : decode cX4_goOn 204 = .ok (.goto (-198), 3) := by decide +kernel
theorem dX4_goOn_207 : decode cX4_goOn 207 = .ok (.return_, 1) := by decide +kernel
theorem e_X4_goOn_197 (d : Nat) {k6 : Int → Int → Mem → Option R2} (hk6 : ∀ {l0 l1 : Int} {m : Mem} {v : Int} {m' : Mem}, k6 l0 l1 m = some (v, m') → Ex (d + 4) fm_X4_goOn 6 [(14, l0), (0, l1)] [] m (.inl (3, 0)) m') {l0 l1 : Int} {m : Mem} {v : Int} {m' : Mem} (h : X4_goOn_197 k6 l0 l1 m = some (v, m')) : Ex (d + 4) fm_X4_goOn 197 [(14, l0), (0, l1)] [] m (.inl (3, 0)) m' := by
  unfold X4_goOn_197 at h
  refine x_aload_n dX4_goOn_197 rfl rfl (Or.inr (by decide)) (?_ : Ex _ _ 198 _ _ _ _ _)
  obtain ⟨c1, h⟩ := chk_some h
  obtain ⟨v2, m3, g4, h⟩ := cal_some h
  refine cV0 (e_X4_settle (d + 2) g4) (contV (?_ : Ex _ _ 201 _ _ _ _ _)) og_X4_settle rfl ml_RX4_173 4 rfl rfl c1 im_X4_settle se_X4_settle (Nat.le_of_ble_eq_true rfl) dX4_goOn_198
  obtain ⟨c5, h⟩ := chk_some h
  refine x_iinc (ls2 := [(14, l0), (0, (l1 + 1))]) dX4_goOn_201 rfl c5 rfl (?_ : Ex _ _ 204 _ _ _ _ _)
  refine x_goto (tgt := 6) dX4_goOn_204 rfl (?_ : Ex _ _ 6 _ _ _ _ _)
  exact hk6 h
theorem e_X4_goOn_92 (d : Nat) {k6 : Int → Int → Mem → Option R2} (hk6 : ∀ {l0 l1 : Int} {m : Mem} {v : Int} {m' : Mem}, k6 l0 l1 m = some (v, m') → Ex (d + 4) fm_X4_goOn 6 [(14, l0), (0, l1)] [] m (.inl (3, 0)) m') {l0 l1 : Int} {m : Mem} {v : Int} {m' : Mem} (h : X4_goOn_92 k6 l0 l1 m = some (v, m')) : Ex (d + 4) fm_X4_goOn 92 [(14, l0), (0, l1)] [] m (.inl (3, 0)) m' := by
  unfold X4_goOn_92 at h
  refine x_aload_n dX4_goOn_92 rfl rfl (Or.inr (by decide)) (?_ : Ex _ _ 93 _ _ _ _ _)
  refine x_bipush dX4_goOn_93 kb_21 (by decide) (?_ : Ex _ _ 95 _ _ _ _ _)
  refine x_aload_n dX4_goOn_95 rfl rfl (Or.inr (by decide)) (?_ : Ex _ _ 96 _ _ _ _ _)
  obtain ⟨c1, h⟩ := chk_some h
  refine gt_4_2 c1 fl_RX4_94 dX4_goOn_96 (?_ : Ex _ _ 99 _ _ _ _ _)
  obtain ⟨v2, m3, g4, h⟩ := cal_some h
  refine cV2 (e_X4_finish (d + 2) g4) (contV (?_ : Ex _ _ 102 _ _ _ _ _)) og_X4_finish rfl ml_RX4_184 4 rfl rfl c1 im_X4_finish se_X4_finish (Nat.le_of_ble_eq_true rfl) dX4_goOn_99
  refine x_goto (tgt := 197) dX4_goOn_102 rfl (?_ : Ex _ _ 197 _ _ _ _ _)
  exact e_X4_goOn_197 d hk6 h
theorem e_X4_goOn_71 (d : Nat) {k6 : Int → Int → Mem → Option R2} (hk6 : ∀ {l0 l1 : Int} {m : Mem} {v : Int} {m' : Mem}, k6 l0 l1 m = some (v, m') → Ex (d + 4) fm_X4_goOn 6 [(14, l0), (0, l1)] [] m (.inl (3, 0)) m') {l0 l1 : Int} {m : Mem} {v : Int} {m' : Mem} (h : X4_goOn_71 k6 l0 l1 m = some (v, m')) : Ex (d + 4) fm_X4_goOn 71 [(14, l0), (0, l1)] [] m (.inl (3, 0)) m' := by
  unfold X4_goOn_71 at h
  refine x_aload_n dX4_goOn_71 rfl rfl (Or.inr (by decide)) (?_ : Ex _ _ 72 _ _ _ _ _)
  obtain ⟨c1, h⟩ := chk_some h
  refine gt_4_10 c1 fl_RX4_47 dX4_goOn_72 (?_ : Ex _ _ 75 _ _ _ _ _)
  rcases ite_some h with ⟨b2, h⟩ | ⟨b2, h⟩
  · refine x_if_lt (tgt := 92) dX4_goOn_75 rfl b2 (?_ : Ex _ _ 92 _ _ _ _ _)
    exact e_X4_goOn_92 d hk6 h
  · refine x_if_ltN dX4_goOn_75 (by decide) b2 (?_ : Ex _ _ 78 _ _ _ _ _)
    refine x_aload_n dX4_goOn_78 rfl rfl (Or.inr (by decide)) (?_ : Ex _ _ 79 _ _ _ _ _)
    refine gt_4_10 c1 fl_RX4_47 dX4_goOn_79 (?_ : Ex _ _ 82 _ _ _ _ _)
    refine x_aload_n dX4_goOn_82 rfl rfl (Or.inr (by decide)) (?_ : Ex _ _ 83 _ _ _ _ _)
    refine gt_4_7 c1 fl_RX4_38 dX4_goOn_83 (?_ : Ex _ _ 86 _ _ _ _ _)
    obtain ⟨c3, h⟩ := chk_some h
    refine gt_5_3 c3 fl_RX4_183 dX4_goOn_86 (?_ : Ex _ _ 89 _ _ _ _ _)
    rcases ite_some h with ⟨b4, h⟩ | ⟨b4, h⟩
    · refine x_icmp_lt (tgt := 105) dX4_goOn_89 rfl b4 (?_ : Ex _ _ 105 _ _ _ _ _)
      refine x_iload_n dX4_goOn_105 rfl rfl (?_ : Ex _ _ 106 _ _ _ _ _)
      refine x_bipush dX4_goOn_106 kb_60 (by decide) (?_ : Ex _ _ 108 _ _ _ _ _)
      rcases ite_some h with ⟨b5, h⟩ | ⟨b5, h⟩
      · refine x_icmp_lt (tgt := 120) dX4_goOn_108 rfl b5 (?_ : Ex _ _ 120 _ _ _ _ _)
        refine x_aload_n dX4_goOn_120 rfl rfl (Or.inr (by decide)) (?_ : Ex _ _ 121 _ _ _ _ _)
        refine x_iconst dX4_goOn_121 rfl (by decide) (?_ : Ex _ _ 122 _ _ _ _ _)
        refine x_aload_n dX4_goOn_122 rfl rfl (Or.inr (by decide)) (?_ : Ex _ _ 123 _ _ _ _ _)
        refine gt_4_13 c1 fl_RX4_106 dX4_goOn_123 (?_ : Ex _ _ 126 _ _ _ _ _)
        refine x_iconst dX4_goOn_126 rfl (by decide) (?_ : Ex _ _ 127 _ _ _ _ _)
        obtain ⟨c6, h⟩ := chk_some h
        refine x_isub dX4_goOn_127 c6 (?_ : Ex _ _ 128 _ _ _ _ _)
        refine x_mmax mm_RX4_187 mmax_a mm_b mmax_c (Nat.le_of_ble_eq_true rfl) dX4_goOn_128 (?_ : Ex _ _ 131 _ _ _ _ _)
        obtain ⟨m7, hm7, h⟩ := st_some h
        refine pt_4_13  c1 fl_RX4_106 dX4_goOn_131 (?_ : Ex _ _ 134 _ _ _ _ _)
        rw [← hm7]
        refine x_aload_n dX4_goOn_134 rfl rfl (Or.inr (by decide)) (?_ : Ex _ _ 135 _ _ _ _ _)
        refine gt_4_7 c1 fl_RX4_38 dX4_goOn_135 (?_ : Ex _ _ 138 _ _ _ _ _)
        obtain ⟨c8, h⟩ := chk_some h
        refine gt_5_0 c8 fl_RX4_193 dX4_goOn_138 (?_ : Ex _ _ 141 _ _ _ _ _)
        refine x_aload_n dX4_goOn_141 rfl rfl (Or.inr (by decide)) (?_ : Ex _ _ 142 _ _ _ _ _)
        refine gt_4_10 c1 fl_RX4_47 dX4_goOn_142 (?_ : Ex _ _ 145 _ _ _ _ _)
        obtain ⟨⟨c9, c10, c11⟩, h⟩ := chk_some h
        refine ld_i_12 c9 c10 c11 dX4_goOn_145 (?_ : Ex _ _ 146 _ _ _ _ _)
        refine x_iconst dX4_goOn_146 rfl (by decide) (?_ : Ex _ _ 147 _ _ _ _ _)
        rcases ite_some h with ⟨b12, h⟩ | ⟨b12, h⟩
        · refine x_icmp_le (tgt := 193) dX4_goOn_147 rfl b12 (?_ : Ex _ _ 193 _ _ _ _ _)
          refine x_aload_n dX4_goOn_193 rfl rfl (Or.inr (by decide)) (?_ : Ex _ _ 194 _ _ _ _ _)
          obtain ⟨v13, m14, g15, h⟩ := cal_some h
          refine cV0 (e_X4_beginSteps d g15) (contV (?_ : Ex _ _ 197 _ _ _ _ _)) og_X4_beginSteps rfl ml_RX4_199 4 rfl rfl c1 im_X4_beginSteps se_X4_beginSteps (Nat.le_of_ble_eq_true rfl) dX4_goOn_194
          exact e_X4_goOn_197 d hk6 h
        · refine x_icmp_leN dX4_goOn_147 (by decide) b12 (?_ : Ex _ _ 150 _ _ _ _ _)
          refine x_aload_n dX4_goOn_150 rfl rfl (Or.inr (by decide)) (?_ : Ex _ _ 151 _ _ _ _ _)
          refine x_aload_n dX4_goOn_151 rfl rfl (Or.inr (by decide)) (?_ : Ex _ _ 152 _ _ _ _ _)
          refine gt_4_7 c1 fl_RX4_38 dX4_goOn_152 (?_ : Ex _ _ 155 _ _ _ _ _)
          refine gt_5_0 c8 fl_RX4_193 dX4_goOn_155 (?_ : Ex _ _ 158 _ _ _ _ _)
          refine x_aload_n dX4_goOn_158 rfl rfl (Or.inr (by decide)) (?_ : Ex _ _ 159 _ _ _ _ _)
          refine gt_4_10 c1 fl_RX4_47 dX4_goOn_159 (?_ : Ex _ _ 162 _ _ _ _ _)
          obtain ⟨⟨c16, c17⟩, h⟩ := chk_some h
          refine ld_i_12 c9 c16 c17 dX4_goOn_162 (?_ : Ex _ _ 163 _ _ _ _ _)
          refine x_aload_n dX4_goOn_163 rfl rfl (Or.inr (by decide)) (?_ : Ex _ _ 164 _ _ _ _ _)
          refine gt_4_7 c1 fl_RX4_38 dX4_goOn_164 (?_ : Ex _ _ 167 _ _ _ _ _)
          refine gt_5_1 c8 fl_RX4_194 dX4_goOn_167 (?_ : Ex _ _ 170 _ _ _ _ _)
          refine x_aload_n dX4_goOn_170 rfl rfl (Or.inr (by decide)) (?_ : Ex _ _ 171 _ _ _ _ _)
          refine gt_4_10 c1 fl_RX4_47 dX4_goOn_171 (?_ : Ex _ _ 174 _ _ _ _ _)
          obtain ⟨⟨c18, c19, c20⟩, h⟩ := chk_some h
          refine ld_i_12 c18 c19 c20 dX4_goOn_174 (?_ : Ex _ _ 175 _ _ _ _ _)
          refine x_aload_n dX4_goOn_175 rfl rfl (Or.inr (by decide)) (?_ : Ex _ _ 176 _ _ _ _ _)
          refine gt_4_7 c1 fl_RX4_38 dX4_goOn_176 (?_ : Ex _ _ 179 _ _ _ _ _)
          refine gt_5_2 c8 fl_RX4_195 dX4_goOn_179 (?_ : Ex _ _ 182 _ _ _ _ _)
          refine x_aload_n dX4_goOn_182 rfl rfl (Or.inr (by decide)) (?_ : Ex _ _ 183 _ _ _ _ _)
          refine gt_4_10 c1 fl_RX4_47 dX4_goOn_183 (?_ : Ex _ _ 186 _ _ _ _ _)
          obtain ⟨⟨c21, c22, c23⟩, h⟩ := chk_some h
          refine ld_i_12 c21 c22 c23 dX4_goOn_186 (?_ : Ex _ _ 187 _ _ _ _ _)
          obtain ⟨v24, m25, g26, h⟩ := cal_some h
          refine cV3 (e_X4_goThrough d g26) (contV (?_ : Ex _ _ 190 _ _ _ _ _)) og_X4_goThrough rfl ml_RX4_196 4 rfl rfl c1 im_X4_goThrough se_X4_goThrough (Nat.le_of_ble_eq_true rfl) dX4_goOn_187
          refine x_goto (tgt := 197) dX4_goOn_190 rfl (?_ : Ex _ _ 197 _ _ _ _ _)
          exact e_X4_goOn_197 d hk6 h
      · refine x_icmp_ltN dX4_goOn_108 (by decide) b5 (?_ : Ex _ _ 111 _ _ _ _ _)
        refine x_aload_n dX4_goOn_111 rfl rfl (Or.inr (by decide)) (?_ : Ex _ _ 112 _ _ _ _ _)
        refine x_bipush dX4_goOn_112 kb_9 (by decide) (?_ : Ex _ _ 114 _ _ _ _ _)
        obtain ⟨v27, m28, g29, h⟩ := cal_some h
        refine cV1 (e_X4_backOut (d + 3) g29) (contV (?_ : Ex _ _ 117 _ _ _ _ _)) og_X4_backOut rfl ml_RX4_170 4 rfl rfl c1 im_X4_backOut se_X4_backOut (Nat.le_of_ble_eq_true rfl) dX4_goOn_114
        refine x_goto (tgt := 197) dX4_goOn_117 rfl (?_ : Ex _ _ 197 _ _ _ _ _)
        exact e_X4_goOn_197 d hk6 h
    · refine x_icmp_ltN dX4_goOn_89 (by decide) b4 (?_ : Ex _ _ 92 _ _ _ _ _)
      exact e_X4_goOn_92 d hk6 h
theorem e_X4_goOn_32 (d : Nat) {k6 : Int → Int → Mem → Option R2} (hk6 : ∀ {l0 l1 : Int} {m : Mem} {v : Int} {m' : Mem}, k6 l0 l1 m = some (v, m') → Ex (d + 4) fm_X4_goOn 6 [(14, l0), (0, l1)] [] m (.inl (3, 0)) m') {l0 l1 s0 s1 : Int} {m : Mem} {v : Int} {m' : Mem} (h : X4_goOn_32 k6 l0 l1 s0 s1 m = some (v, m')) : Ex (d + 4) fm_X4_goOn 32 [(14, l0), (0, l1)] [(0, s0), (14, s1)] m (.inl (3, 0)) m' := by
  unfold X4_goOn_32 at h
  obtain ⟨⟨c1, c2⟩, h⟩ := chk_some h
  obtain ⟨m3, hm3, h⟩ := st_some h
  refine pt_4_14  c1 c2 fl_RX4_109 dX4_goOn_32 (?_ : Ex _ _ 35 _ _ _ _ _)
  rw [← hm3]
  refine x_aload_n dX4_goOn_35 rfl rfl (Or.inr (by decide)) (?_ : Ex _ _ 36 _ _ _ _ _)
  obtain ⟨c4, h⟩ := chk_some h
  refine gt_4_9 c4 fl_RX4_43 dX4_goOn_36 (?_ : Ex _ _ 39 _ _ _ _ _)
  refine x_iconst dX4_goOn_39 rfl (by decide) (?_ : Ex _ _ 40 _ _ _ _ _)
  rcases ite_some h with ⟨b5, h⟩ | ⟨b5, h⟩
  · refine x_icmp_neN dX4_goOn_40 (by decide) (fun hh => hh b5) (?_ : Ex _ _ 43 _ _ _ _ _)
    refine x_aload_n dX4_goOn_43 rfl rfl (Or.inr (by decide)) (?_ : Ex _ _ 44 _ _ _ _ _)
    obtain ⟨v11, m12, g13, h⟩ := cal_some h
    refine cV0 (e_X4_undoNext (d + 1) g13) (contV (?_ : Ex _ _ 47 _ _ _ _ _)) og_X4_undoNext rfl ml_RX4_180 4 rfl rfl c4 im_X4_undoNext se_X4_undoNext (Nat.le_of_ble_eq_true rfl) dX4_goOn_44
    refine x_goto (tgt := 197) dX4_goOn_47 rfl (?_ : Ex _ _ 197 _ _ _ _ _)
    exact e_X4_goOn_197 d hk6 h
  · refine x_icmp_ne (tgt := 50) dX4_goOn_40 rfl b5 (?_ : Ex _ _ 50 _ _ _ _ _)
    refine x_aload_n dX4_goOn_50 rfl rfl (Or.inr (by decide)) (?_ : Ex _ _ 51 _ _ _ _ _)
    refine gt_4_15 c4 fl_RX4_112 dX4_goOn_51 (?_ : Ex _ _ 54 _ _ _ _ _)
    rcases ite_some h with ⟨b6, h⟩ | ⟨b6, h⟩
    · refine x_if_eq (tgt := 71) dX4_goOn_54 rfl b6 (?_ : Ex _ _ 71 _ _ _ _ _)
      exact e_X4_goOn_71 d hk6 h
    · refine x_if_eqN dX4_goOn_54 (by decide) b6 (?_ : Ex _ _ 57 _ _ _ _ _)
      refine x_aload_n dX4_goOn_57 rfl rfl (Or.inr (by decide)) (?_ : Ex _ _ 58 _ _ _ _ _)
      refine gt_4_14 c4 fl_RX4_109 dX4_goOn_58 (?_ : Ex _ _ 61 _ _ _ _ _)
      rcases ite_some h with ⟨b7, h⟩ | ⟨b7, h⟩
      · refine x_if_neN dX4_goOn_61 (by decide) (fun hh => hh b7) (?_ : Ex _ _ 64 _ _ _ _ _)
        refine x_aload_n dX4_goOn_64 rfl rfl (Or.inr (by decide)) (?_ : Ex _ _ 65 _ _ _ _ _)
        obtain ⟨v8, m9, g10, h⟩ := cal_some h
        refine cV0 (e_X4_cut (d + 2) g10) (contV (?_ : Ex _ _ 68 _ _ _ _ _)) og_X4_cut rfl ml_RX4_167 4 rfl rfl c4 im_X4_cut se_X4_cut (Nat.le_of_ble_eq_true rfl) dX4_goOn_65
        refine x_goto (tgt := 197) dX4_goOn_68 rfl (?_ : Ex _ _ 197 _ _ _ _ _)
        exact e_X4_goOn_197 d hk6 h
      · refine x_if_ne (tgt := 71) dX4_goOn_61 rfl b7 (?_ : Ex _ _ 71 _ _ _ _ _)
        exact e_X4_goOn_71 d hk6 h
theorem e_X4_goOn_6 (d : Nat) : ∀ (n : Nat) {l0 l1 : Int} {m : Mem} {v : Int} {m' : Mem}, X4_goOn_6 n l0 l1 m = some (v, m') → Ex (d + 4) fm_X4_goOn 6 [(14, l0), (0, l1)] [] m (.inl (3, 0)) m' := by
  intro n
  induction n with
  | zero =>
    intro l0 l1 m v m' h
    have h : (none : Option R2) = some _ := h
    cases h
  | succ n ih =>
    intro l0 l1 m v m' h
    rw [X4_goOn_6] at h
    refine x_iload_n dX4_goOn_6 rfl rfl (?_ : Ex _ _ 7 _ _ _ _ _)
    refine x_bipush dX4_goOn_7 kb_61 (by decide) (?_ : Ex _ _ 9 _ _ _ _ _)
    rcases ite_some h with ⟨b1, h⟩ | ⟨b1, h⟩
    · refine x_icmp_gt (tgt := 207) dX4_goOn_9 rfl b1 (?_ : Ex _ _ 207 _ _ _ _ _)
      cases h
      exact x_retv dX4_goOn_207
    · refine x_icmp_gtN dX4_goOn_9 (by decide) b1 (?_ : Ex _ _ 12 _ _ _ _ _)
      refine x_aload_n dX4_goOn_12 rfl rfl (Or.inr (by decide)) (?_ : Ex _ _ 13 _ _ _ _ _)
      obtain ⟨c2, h⟩ := chk_some h
      obtain ⟨v3, m4, g5, h⟩ := cal_some h
      refine cV0 (e_X4_isMoving (d + 3) g5) (contN (by decide) (?_ : Ex _ _ 16 _ _ _ _ _)) og_X4_isMoving rfl ml_RX4_176 4 rfl rfl c2 im_X4_isMoving se_X4_isMoving (Nat.le_of_ble_eq_true rfl) dX4_goOn_13
      rcases ite_some h with ⟨b6, h⟩ | ⟨b6, h⟩
      · refine x_if_eq (tgt := 207) dX4_goOn_16 rfl b6 (?_ : Ex _ _ 207 _ _ _ _ _)
        cases h
        exact x_retv dX4_goOn_207
      · refine x_if_eqN dX4_goOn_16 (by decide) b6 (?_ : Ex _ _ 19 _ _ _ _ _)
        refine x_aload_n dX4_goOn_19 rfl rfl (Or.inr (by decide)) (?_ : Ex _ _ 20 _ _ _ _ _)
        refine x_aload_n dX4_goOn_20 rfl rfl (Or.inr (by decide)) (?_ : Ex _ _ 21 _ _ _ _ _)
        refine gt_4_13 c2 fl_RX4_106 dX4_goOn_21 (?_ : Ex _ _ 24 _ _ _ _ _)
        rcases ite_some h with ⟨b7, h⟩ | ⟨b7, h⟩
        · refine x_if_le (tgt := 31) dX4_goOn_24 rfl b7 (?_ : Ex _ _ 31 _ _ _ _ _)
          refine x_iconst dX4_goOn_31 rfl (by decide) (?_ : Ex _ _ 32 _ _ _ _ _)
          exact e_X4_goOn_32 d ih h
        · refine x_if_leN dX4_goOn_24 (by decide) b7 (?_ : Ex _ _ 27 _ _ _ _ _)
          refine x_iconst dX4_goOn_27 rfl (by decide) (?_ : Ex _ _ 28 _ _ _ _ _)
          refine x_goto (tgt := 32) dX4_goOn_28 rfl (?_ : Ex _ _ 32 _ _ _ _ _)
          exact e_X4_goOn_32 d ih h
theorem e_X4_goOn_0 (d : Nat) {l0 : Int} {m : Mem} {v : Int} {m' : Mem} (h : X4_goOn_0 l0 m = some (v, m')) : Ex (d + 4) fm_X4_goOn 0 [(14, l0), (3, 0)] [] m (.inl (3, 0)) m' := by
  unfold X4_goOn_0 at h
  refine x_aload_n dX4_goOn_0 rfl rfl (Or.inr (by decide)) (?_ : Ex _ _ 1 _ _ _ _ _)
  obtain ⟨c1, h⟩ := chk_some h
  obtain ⟨v2, m3, g4, h⟩ := cal_some h
  refine cV0 (e_X4_settle (d + 2) g4) (contV (?_ : Ex _ _ 4 _ _ _ _ _)) og_X4_settle rfl ml_RX4_173 4 rfl rfl c1 im_X4_settle se_X4_settle (Nat.le_of_ble_eq_true rfl) dX4_goOn_1
  refine x_iconst dX4_goOn_4 rfl (by decide) (?_ : Ex _ _ 5 _ _ _ _ _)
  refine x_istore_n (ls2 := [(14, l0), (0, 0)]) dX4_goOn_5 rfl (Nat.le_of_ble_eq_true rfl) rfl (?_ : Ex _ _ 6 _ _ _ _ _)
  exact e_X4_goOn_6 d fuel9 h
theorem e_X4_goOn (d : Nat) {a0 : Int} {m : Mem} {v : Int} {m' : Mem} (h : X4_goOn a0 m = some (v, m')) : ExM (d + 4) fm_X4_goOn [(14, a0)] m (.inl (3, 0)) m' := by
  exact ExM.of (by decide +kernel) (Nat.le_of_ble_eq_true rfl) (cat9 rfl) retV (e_X4_goOn_0 d h)
theorem dX4_play_0 : decode cX4_play 0 = .ok (.aload_n 0, 1) := by decide +kernel
theorem dX4_play_1 : decode cX4_play 1 = .ok (.aload_n 1, 1) := by decide +kernel
theorem dX4_play_2 : decode cX4_play 2 = .ok (.aload_n 2, 1) := by decide +kernel
theorem dX4_play_3 : decode cX4_play 3 = .ok (.iload_n 3, 1) := by decide +kernel
theorem dX4_play_4 : decode cX4_play 4 = .ok (.invokevirtual 50, 3) := by decide +kernel
theorem dX4_play_7 : decode cX4_play 7 = .ok (.iconst 0, 1) := by decide +kernel
theorem dX4_play_8 : decode cX4_play 8 = .ok (.istore 5, 2) := by decide +kernel
theorem dX4_play_10 : decode cX4_play 10 = .ok (.iload 5, 2) := by decide +kernel
theorem dX4_play_12 : decode cX4_play 12 = .ok (.aload_n 2, 1) := by decide +kernel
theorem dX4_play_13 : decode cX4_play 13 = .ok (.getfield 54, 3) := by decide +kernel
theorem dX4_play_16 : decode cX4_play 16 = .ok (.if_icmp .ge 106, 3) := by decide +kernel
theorem dX4_play_19 : decode cX4_play 19 = .ok (.iload 5, 2) := by decide +kernel
theorem dX4_play_21 : decode cX4_play 21 = .ok (.bipush 80, 2) := by decide +kernel
theorem dX4_play_23 : decode cX4_play 23 = .ok (.if_icmp .ge 99, 3) := by decide +kernel
theorem dX4_play_26 : decode cX4_play 26 = .ok (.aload_n 0, 1) := by decide +kernel
theorem dX4_play_27 : decode cX4_play 27 = .ok (.getfield 12, 3) := by decide +kernel
theorem dX4_play_30 : decode cX4_play 30 = .ok (.getfield 59, 3) := by decide +kernel
theorem dX4_play_33 : decode cX4_play 33 = .ok (.ifCond .ne 89, 3) := by decide +kernel
theorem dX4_play_36 : decode cX4_play 36 = .ok (.aload_n 2, 1) := by decide +kernel
theorem dX4_play_37 : decode cX4_play 37 = .ok (.getfield 63, 3) := by decide +kernel
theorem dX4_play_40 : decode cX4_play 40 = .ok (.iload 5, 2) := by decide +kernel
theorem dX4_play_42 : decode cX4_play 42 = .ok (.iaload, 1) := by decide +kernel
theorem dX4_play_43 : decode cX4_play 43 = .ok (.istore 6, 2) := by decide +kernel
theorem dX4_play_45 : decode cX4_play 45 = .ok (.iload 6, 2) := by decide +kernel
theorem dX4_play_47 : decode cX4_play 47 = .ok (.bipush 7, 2) := by decide +kernel
theorem dX4_play_49 : decode cX4_play 49 = .ok (.if_icmp .ne 13, 3) := by decide +kernel
theorem dX4_play_52 : decode cX4_play 52 = .ok (.aload_n 0, 1) := by decide +kernel
theorem dX4_play_53 : decode cX4_play 53 = .ok (.getfield 12, 3) := by decide +kernel
theorem dX4_play_56 : decode cX4_play 56 = .ok (.invokevirtual 66, 3) := by decide +kernel
theorem dX4_play_59 : decode cX4_play 59 = .ok (.goto 57, 3) := by decide +kernel
theorem dX4_play_62 : decode cX4_play 62 = .ok (.iload 6, 2) := by decide +kernel
theorem dX4_play_64 : decode cX4_play 64 = .ok (.bipush 7, 2) := by decide +kernel
theorem dX4_play_66 : decode cX4_play 66 = .ok (.if_icmp .ge 50, 3) := by decide +kernel
theorem dX4_play_69 : decode cX4_play 69 = .ok (.aload_n 0, 1) := by decide +kernel
theorem dX4_play_70 : decode cX4_play 70 = .ok (.getfield 12, 3) := by decide +kernel
theorem dX4_play_73 : decode cX4_play 73 = .ok (.getfield 69, 3) := by decide +kernel
theorem dX4_play_76 : decode cX4_play 76 = .ok (.ifCond .ne 8, 3) := by decide +kernel
theorem dX4_play_79 : decode cX4_play 79 = .ok (.iload 4, 2) := by decide +kernel
theorem dX4_play_81 : decode cX4_play 81 = .ok (.ifCond .eq 35, 3) := by decide +kernel
theorem dX4_play_84 : decode cX4_play 84 = .ok (.aload_n 0, 1) := by decide +kernel
theorem dX4_play_85 : decode cX4_play 85 = .ok (.iload 5, 2) := by decide +kernel
theorem dX4_play_87 : decode cX4_play 87 = .ok (.iconst 1, 1) := by decide +kernel
theorem dX4_play_88 : decode cX4_play 88 = .ok (.iadd, 1) := by decide +kernel
theorem dX4_play_89 : decode cX4_play 89 = .ok (.putfield 72, 3) := by decide +kernel
theorem dX4_play_92 : decode cX4_play 92 = .ok (.aload_n 0, 1) := by decide +kernel
theorem dX4_play_93 : decode cX4_play 93 = .ok (.iload 6, 2) := by decide +kernel
theorem dX4_play_95 : decode cX4_play 95 = .ok (.aload_n 2, 1) := by decide +kernel
theorem dX4_play_96 : decode cX4_play 96 = .ok (.getfield 75, 3) := by decide +kernel
theorem dX4_play_99 : decode cX4_play 99 = .ok (.iload 5, 2) := by decide +kernel
theorem dX4_play_101 : decode cX4_play 101 = .ok (.iaload, 1) := by decide +kernel
theorem dX4_play_102 : decode cX4_play 102 = .ok (.aload_n 2, 1) := by decide +kernel
theorem dX4_play_103 : decode cX4_play 103 = .ok (.getfield 78, 3) := by decide +kernel
theorem dX4_play_106 : decode cX4_play 106 = .ok (.iload 5, 2) := by decide +kernel
theorem dX4_play_108 : decode cX4_play 108 = .ok (.iaload, 1) := by decide +kernel
theorem dX4_play_109 : decode cX4_play 109 = .ok (.invokevirtual 81, 3) := by decide +kernel
theorem dX4_play_112 : decode cX4_play 112 = .ok (.aload_n 0, 1) := by decide +kernel
theorem dX4_play_113 : decode cX4_play 113 = .ok (.invokevirtual 85, 3) := by decide +kernel
theorem dX4_play_116 : decode cX4_play 116 = .ok (.iinc 5 1, 3) := by decide +kernel
theorem dX4_play_119 : decode cX4_play 119 = .ok (.goto (-109), 3) := by decide +kernel
theorem dX4_play_122 : decode cX4_play 122 = .ok (.aload_n 0, 1) := by decide +kernel
theorem dX4_play_123 : decode cX4_play 123 = .ok (.getfield 12, 3) := by decide +kernel
theorem dX4_play_126 : decode cX4_play 126 = .ok (.getfield 59, 3) := by decide +kernel
theorem dX4_play_129 : decode cX4_play 129 = .ok (.ifCond .ne 7, 3) := by decide +kernel
theorem dX4_play_132 : decode cX4_play 132 = .ok (.iconst 1, 1) := by decide +kernel
theorem dX4_play_133 : decode cX4_play 133 = .ok (.goto 4, 3) := by decide +kernel
theorem dX4_play_136 : decode cX4_play 136 = .ok (.iconst 0, 1) := by decide +kernel
theorem dX4_play_137 : decode cX4_play 137 = .ok (.ireturn, 1) := by decide +kernel
theorem e_X4_play_122 (d : Nat) {l0 : Int} {m : Mem} {v : Int} {m' : Mem} (h : X4_play_122 l0 m = some (v, m')) : Ex (d + 5) fm_X4_play 122 [(14, l0), (3, 0), (3, 0), (3, 0), (3, 0), (3, 0), (3, 0)] [] m (.inl (0, v)) m' := by
  unfold X4_play_122 at h
  refine x_aload_n dX4_play_122 rfl rfl (Or.inr (by decide)) (?_ : Ex _ _ 123 _ _ _ _ _)
  obtain ⟨c1, h⟩ := chk_some h
  refine gt_4_0 c1 fl_RX4_12 dX4_play_123 (?_ : Ex _ _ 126 _ _ _ _ _)
  obtain ⟨c2, h⟩ := chk_some h
  refine gt_1_8 c2 fl_RX4_59 dX4_play_126 (?_ : Ex _ _ 129 _ _ _ _ _)
  rcases ite_some h with ⟨b3, h⟩ | ⟨b3, h⟩
  · refine x_if_neN dX4_play_129 (by decide) (fun hh => hh b3) (?_ : Ex _ _ 132 _ _ _ _ _)
    refine x_iconst dX4_play_132 rfl (by decide) (?_ : Ex _ _ 133 _ _ _ _ _)
    refine x_goto (tgt := 137) dX4_play_133 rfl (?_ : Ex _ _ 137 _ _ _ _ _)
    cases h
    exact x_ret dX4_play_137 (by decide : (0 : Int) ≠ 3)
  · refine x_if_ne (tgt := 136) dX4_play_129 rfl b3 (?_ : Ex _ _ 136 _ _ _ _ _)
    refine x_iconst dX4_play_136 rfl (by decide) (?_ : Ex _ _ 137 _ _ _ _ _)
    cases h
    exact x_ret dX4_play_137 (by decide : (0 : Int) ≠ 3)
theorem e_X4_play_84 (d : Nat) {k10 : Int → Int → Int → Int → Mem → Option R2} (hk10 : ∀ {l0 l2 l4 l5 : Int} {m : Mem} {v : Int} {m' : Mem}, k10 l0 l2 l4 l5 m = some (v, m') → Ex (d + 5) fm_X4_play 10 [(14, l0), (3, 0), (13, l2), (3, 0), (0, l4), (0, l5), (3, 0)] [] m (.inl (0, v)) m') {l0 l2 l4 l5 l6 : Int} {m : Mem} {v : Int} {m' : Mem} (h : X4_play_84 k10 l0 l2 l4 l5 l6 m = some (v, m')) : Ex (d + 5) fm_X4_play 84 [(14, l0), (3, 0), (13, l2), (3, 0), (0, l4), (0, l5), (0, l6)] [] m (.inl (0, v)) m' := by
  unfold X4_play_84 at h
  refine x_aload_n dX4_play_84 rfl rfl (Or.inr (by decide)) (?_ : Ex _ _ 85 _ _ _ _ _)
  refine x_iload dX4_play_85 rfl (?_ : Ex _ _ 87 _ _ _ _ _)
  refine x_iconst dX4_play_87 rfl (by decide) (?_ : Ex _ _ 88 _ _ _ _ _)
  obtain ⟨c1, h⟩ := chk_some h
  refine x_iadd dX4_play_88 c1 (?_ : Ex _ _ 89 _ _ _ _ _)
  obtain ⟨c2, h⟩ := chk_some h
  obtain ⟨m3, hm3, h⟩ := st_some h
  refine pt_4_19  c2 fl_RX4_72 dX4_play_89 (?_ : Ex _ _ 92 _ _ _ _ _)
  rw [← hm3]
  refine x_aload_n dX4_play_92 rfl rfl (Or.inr (by decide)) (?_ : Ex _ _ 93 _ _ _ _ _)
  refine x_iload dX4_play_93 rfl (?_ : Ex _ _ 95 _ _ _ _ _)
  refine x_aload_n dX4_play_95 rfl rfl (Or.inr (by decide)) (?_ : Ex _ _ 96 _ _ _ _ _)
  obtain ⟨c4, h⟩ := chk_some h
  refine gt_3_1 c4 fl_RX4_75 dX4_play_96 (?_ : Ex _ _ 99 _ _ _ _ _)
  refine x_iload dX4_play_99 rfl (?_ : Ex _ _ 101 _ _ _ _ _)
  obtain ⟨⟨c5, c6, c7⟩, h⟩ := chk_some h
  refine ld_i_80 c5 c6 c7 dX4_play_101 (?_ : Ex _ _ 102 _ _ _ _ _)
  refine x_aload_n dX4_play_102 rfl rfl (Or.inr (by decide)) (?_ : Ex _ _ 103 _ _ _ _ _)
  refine gt_3_2 c4 fl_RX4_78 dX4_play_103 (?_ : Ex _ _ 106 _ _ _ _ _)
  refine x_iload dX4_play_106 rfl (?_ : Ex _ _ 108 _ _ _ _ _)
  obtain ⟨⟨c8, c9, c10⟩, h⟩ := chk_some h
  refine ld_i_80 c8 c9 c10 dX4_play_108 (?_ : Ex _ _ 109 _ _ _ _ _)
  obtain ⟨v11, m12, g13, h⟩ := cal_some h
  refine cV3 (e_X4_hear (d + 1) g13) (contV (?_ : Ex _ _ 112 _ _ _ _ _)) og_X4_hear rfl ml_RX4_81 4 rfl rfl c2 im_X4_hear se_X4_hear (Nat.le_of_ble_eq_true rfl) dX4_play_109
  refine x_aload_n dX4_play_112 rfl rfl (Or.inr (by decide)) (?_ : Ex _ _ 113 _ _ _ _ _)
  obtain ⟨v14, m15, g16, h⟩ := cal_some h
  refine cV0 (e_X4_goOn d g16) (contV (?_ : Ex _ _ 116 _ _ _ _ _)) og_X4_goOn rfl ml_RX4_85 4 rfl rfl c2 im_X4_goOn se_X4_goOn (Nat.le_of_ble_eq_true rfl) dX4_play_113
  obtain ⟨c17, h⟩ := chk_some h
  refine x_iinc (ls2 := [(14, l0), (3, 0), (13, l2), (3, 0), (0, l4), (0, (l5 + 1)), (0, l6)]) dX4_play_116 rfl c17 rfl (?_ : Ex _ _ 119 _ _ _ _ _)
  refine x_goto (tgt := 10) dX4_play_119 rfl (?_ : Ex _ _ 10 _ _ _ _ _)
  refine Ex.wk (ls2 := [(14, l0), (3, 0), (13, l2), (3, 0), (0, l4), (0, (l5 + 1)), (3, 0)]) ⟨Or.inr rfl, Or.inl rfl, Or.inr rfl, Or.inl rfl, Or.inr rfl, Or.inr rfl, Or.inl rfl, trivial⟩ ?_
  exact hk10 h
theorem e_X4_play_10 (d : Nat) {k122 : Int → Mem → Option R2} (hk122 : ∀ {l0 : Int} {m : Mem} {v : Int} {m' : Mem}, k122 l0 m = some (v, m') → Ex (d + 5) fm_X4_play 122 [(14, l0), (3, 0), (3, 0), (3, 0), (3, 0), (3, 0), (3, 0)] [] m (.inl (0, v)) m') : ∀ (n : Nat) {l0 l2 l4 l5 : Int} {m : Mem} {v : Int} {m' : Mem}, X4_play_10 k122 n l0 l2 l4 l5 m = some (v, m') → Ex (d + 5) fm_X4_play 10 [(14, l0), (3, 0), (13, l2), (3, 0), (0, l4), (0, l5), (3, 0)] [] m (.inl (0, v)) m' := by
  intro n
  induction n with
  | zero =>
    intro l0 l2 l4 l5 m v m' h
    have h : (none : Option R2) = some _ := h
    cases h
  | succ n ih =>
    intro l0 l2 l4 l5 m v m' h
    rw [X4_play_10] at h
    refine x_iload dX4_play_10 rfl (?_ : Ex _ _ 12 _ _ _ _ _)
    refine x_aload_n dX4_play_12 rfl rfl (Or.inr (by decide)) (?_ : Ex _ _ 13 _ _ _ _ _)
    obtain ⟨c1, h⟩ := chk_some h
    refine gt_3_3 c1 fl_RX4_54 dX4_play_13 (?_ : Ex _ _ 16 _ _ _ _ _)
    rcases ite_some h with ⟨b2, h⟩ | ⟨b2, h⟩
    · refine x_icmp_ge (tgt := 122) dX4_play_16 rfl b2 (?_ : Ex _ _ 122 _ _ _ _ _)
      refine Ex.wk (ls2 := [(14, l0), (3, 0), (3, 0), (3, 0), (3, 0), (3, 0), (3, 0)]) ⟨Or.inr rfl, Or.inl rfl, Or.inl rfl, Or.inl rfl, Or.inl rfl, Or.inl rfl, Or.inl rfl, trivial⟩ ?_
      exact hk122 h
    · refine x_icmp_geN dX4_play_16 (by decide) b2 (?_ : Ex _ _ 19 _ _ _ _ _)
      refine x_iload dX4_play_19 rfl (?_ : Ex _ _ 21 _ _ _ _ _)
      refine x_bipush dX4_play_21 kb_80 (by decide) (?_ : Ex _ _ 23 _ _ _ _ _)
      rcases ite_some h with ⟨b3, h⟩ | ⟨b3, h⟩
      · refine x_icmp_ge (tgt := 122) dX4_play_23 rfl b3 (?_ : Ex _ _ 122 _ _ _ _ _)
        refine Ex.wk (ls2 := [(14, l0), (3, 0), (3, 0), (3, 0), (3, 0), (3, 0), (3, 0)]) ⟨Or.inr rfl, Or.inl rfl, Or.inl rfl, Or.inl rfl, Or.inl rfl, Or.inl rfl, Or.inl rfl, trivial⟩ ?_
        exact hk122 h
      · refine x_icmp_geN dX4_play_23 (by decide) b3 (?_ : Ex _ _ 26 _ _ _ _ _)
        refine x_aload_n dX4_play_26 rfl rfl (Or.inr (by decide)) (?_ : Ex _ _ 27 _ _ _ _ _)
        obtain ⟨c4, h⟩ := chk_some h
        refine gt_4_0 c4 fl_RX4_12 dX4_play_27 (?_ : Ex _ _ 30 _ _ _ _ _)
        obtain ⟨c5, h⟩ := chk_some h
        refine gt_1_8 c5 fl_RX4_59 dX4_play_30 (?_ : Ex _ _ 33 _ _ _ _ _)
        rcases ite_some h with ⟨b6, h⟩ | ⟨b6, h⟩
        · refine x_if_neN dX4_play_33 (by decide) (fun hh => hh b6) (?_ : Ex _ _ 36 _ _ _ _ _)
          refine x_aload_n dX4_play_36 rfl rfl (Or.inr (by decide)) (?_ : Ex _ _ 37 _ _ _ _ _)
          refine gt_3_0 c1 fl_RX4_63 dX4_play_37 (?_ : Ex _ _ 40 _ _ _ _ _)
          refine x_iload dX4_play_40 rfl (?_ : Ex _ _ 42 _ _ _ _ _)
          obtain ⟨⟨c7, c8, c9⟩, h⟩ := chk_some h
          refine ld_i_80 c7 c8 c9 dX4_play_42 (?_ : Ex _ _ 43 _ _ _ _ _)
          refine x_istore (ls2 := [(14, l0), (3, 0), (13, l2), (3, 0), (0, l4), (0, l5), (0, m (m l2 0) l5)]) dX4_play_43 (Nat.le_of_ble_eq_true rfl) rfl (?_ : Ex _ _ 45 _ _ _ _ _)
          refine x_iload dX4_play_45 rfl (?_ : Ex _ _ 47 _ _ _ _ _)
          refine x_bipush dX4_play_47 kb_7 (by decide) (?_ : Ex _ _ 49 _ _ _ _ _)
          rcases ite_some h with ⟨b10, h⟩ | ⟨b10, h⟩
          · refine x_icmp_neN dX4_play_49 (by decide) (fun hh => hh b10) (?_ : Ex _ _ 52 _ _ _ _ _)
            refine x_aload_n dX4_play_52 rfl rfl (Or.inr (by decide)) (?_ : Ex _ _ 53 _ _ _ _ _)
            refine gt_4_0 c4 fl_RX4_12 dX4_play_53 (?_ : Ex _ _ 56 _ _ _ _ _)
            obtain ⟨v16, m17, g18, h⟩ := cal_some h
            refine cV0 (e_X1_closePart (d + 3) g18) (contV (?_ : Ex _ _ 59 _ _ _ _ _)) og_X1_closePart rfl ml_RX4_66 1 rfl rfl c5 im_X1_closePart se_X1_closePart (Nat.le_of_ble_eq_true rfl) dX4_play_56
            refine x_goto (tgt := 116) dX4_play_59 rfl (?_ : Ex _ _ 116 _ _ _ _ _)
            obtain ⟨c19, h⟩ := chk_some h
            refine x_iinc (ls2 := [(14, l0), (3, 0), (13, l2), (3, 0), (0, l4), (0, (l5 + 1)), (0, m (m l2 0) l5)]) dX4_play_116 rfl c19 rfl (?_ : Ex _ _ 119 _ _ _ _ _)
            refine x_goto (tgt := 10) dX4_play_119 rfl (?_ : Ex _ _ 10 _ _ _ _ _)
            refine Ex.wk (ls2 := [(14, l0), (3, 0), (13, l2), (3, 0), (0, l4), (0, (l5 + 1)), (3, 0)]) ⟨Or.inr rfl, Or.inl rfl, Or.inr rfl, Or.inl rfl, Or.inr rfl, Or.inr rfl, Or.inl rfl, trivial⟩ ?_
            exact ih h
          · refine x_icmp_ne (tgt := 62) dX4_play_49 rfl b10 (?_ : Ex _ _ 62 _ _ _ _ _)
            refine x_iload dX4_play_62 rfl (?_ : Ex _ _ 64 _ _ _ _ _)
            refine x_bipush dX4_play_64 kb_7 (by decide) (?_ : Ex _ _ 66 _ _ _ _ _)
            rcases ite_some h with ⟨b11, h⟩ | ⟨b11, h⟩
            · refine x_icmp_ge (tgt := 116) dX4_play_66 rfl b11 (?_ : Ex _ _ 116 _ _ _ _ _)
              obtain ⟨c12, h⟩ := chk_some h
              refine x_iinc (ls2 := [(14, l0), (3, 0), (13, l2), (3, 0), (0, l4), (0, (l5 + 1)), (0, m (m l2 0) l5)]) dX4_play_116 rfl c12 rfl (?_ : Ex _ _ 119 _ _ _ _ _)
              refine x_goto (tgt := 10) dX4_play_119 rfl (?_ : Ex _ _ 10 _ _ _ _ _)
              refine Ex.wk (ls2 := [(14, l0), (3, 0), (13, l2), (3, 0), (0, l4), (0, (l5 + 1)), (3, 0)]) ⟨Or.inr rfl, Or.inl rfl, Or.inr rfl, Or.inl rfl, Or.inr rfl, Or.inr rfl, Or.inl rfl, trivial⟩ ?_
              exact ih h
            · refine x_icmp_geN dX4_play_66 (by decide) b11 (?_ : Ex _ _ 69 _ _ _ _ _)
              refine x_aload_n dX4_play_69 rfl rfl (Or.inr (by decide)) (?_ : Ex _ _ 70 _ _ _ _ _)
              refine gt_4_0 c4 fl_RX4_12 dX4_play_70 (?_ : Ex _ _ 73 _ _ _ _ _)
              refine gt_1_7 c5 fl_RX4_69 dX4_play_73 (?_ : Ex _ _ 76 _ _ _ _ _)
              rcases ite_some h with ⟨b13, h⟩ | ⟨b13, h⟩
              · refine x_if_neN dX4_play_76 (by decide) (fun hh => hh b13) (?_ : Ex _ _ 79 _ _ _ _ _)
                refine x_iload dX4_play_79 rfl (?_ : Ex _ _ 81 _ _ _ _ _)
                rcases ite_some h with ⟨b14, h⟩ | ⟨b14, h⟩
                · refine x_if_eq (tgt := 116) dX4_play_81 rfl b14 (?_ : Ex _ _ 116 _ _ _ _ _)
                  obtain ⟨c15, h⟩ := chk_some h
                  refine x_iinc (ls2 := [(14, l0), (3, 0), (13, l2), (3, 0), (0, l4), (0, (l5 + 1)), (0, m (m l2 0) l5)]) dX4_play_116 rfl c15 rfl (?_ : Ex _ _ 119 _ _ _ _ _)
                  refine x_goto (tgt := 10) dX4_play_119 rfl (?_ : Ex _ _ 10 _ _ _ _ _)
                  refine Ex.wk (ls2 := [(14, l0), (3, 0), (13, l2), (3, 0), (0, l4), (0, (l5 + 1)), (3, 0)]) ⟨Or.inr rfl, Or.inl rfl, Or.inr rfl, Or.inl rfl, Or.inr rfl, Or.inr rfl, Or.inl rfl, trivial⟩ ?_
                  exact ih h
                · refine x_if_eqN dX4_play_81 (by decide) b14 (?_ : Ex _ _ 84 _ _ _ _ _)
                  exact e_X4_play_84 d ih h
              · refine x_if_ne (tgt := 84) dX4_play_76 rfl b13 (?_ : Ex _ _ 84 _ _ _ _ _)
                exact e_X4_play_84 d ih h
        · refine x_if_ne (tgt := 122) dX4_play_33 rfl b6 (?_ : Ex _ _ 122 _ _ _ _ _)
          refine Ex.wk (ls2 := [(14, l0), (3, 0), (3, 0), (3, 0), (3, 0), (3, 0), (3, 0)]) ⟨Or.inr rfl, Or.inl rfl, Or.inl rfl, Or.inl rfl, Or.inl rfl, Or.inl rfl, Or.inl rfl, trivial⟩ ?_
          exact hk122 h
theorem e_X4_play_0 (d : Nat) {l0 l1 l2 l3 l4 : Int} {m : Mem} {v : Int} {m' : Mem} (h : X4_play_0 l0 l1 l2 l3 l4 m = some (v, m')) : Ex (d + 5) fm_X4_play 0 [(14, l0), (15, l1), (13, l2), (0, l3), (0, l4), (3, 0), (3, 0)] [] m (.inl (0, v)) m' := by
  unfold X4_play_0 at h
  refine x_aload_n dX4_play_0 rfl rfl (Or.inr (by decide)) (?_ : Ex _ _ 1 _ _ _ _ _)
  refine x_aload_n dX4_play_1 rfl rfl (Or.inr (by decide)) (?_ : Ex _ _ 2 _ _ _ _ _)
  refine x_aload_n dX4_play_2 rfl rfl (Or.inr (by decide)) (?_ : Ex _ _ 3 _ _ _ _ _)
  refine x_iload_n dX4_play_3 rfl rfl (?_ : Ex _ _ 4 _ _ _ _ _)
  obtain ⟨c1, h⟩ := chk_some h
  obtain ⟨v2, m3, g4, h⟩ := cal_some h
  refine cV3 (e_X4_begin (d + 2) g4) (contV (?_ : Ex _ _ 7 _ _ _ _ _)) og_X4_begin rfl ml_RX4_50 4 rfl rfl c1 im_X4_begin se_X4_begin (Nat.le_of_ble_eq_true rfl) dX4_play_4
  refine x_iconst dX4_play_7 rfl (by decide) (?_ : Ex _ _ 8 _ _ _ _ _)
  refine x_istore (ls2 := [(14, l0), (15, l1), (13, l2), (0, l3), (0, l4), (0, 0), (3, 0)]) dX4_play_8 (Nat.le_of_ble_eq_true rfl) rfl (?_ : Ex _ _ 10 _ _ _ _ _)
  refine Ex.wk (ls2 := [(14, l0), (3, 0), (13, l2), (3, 0), (0, l4), (0, 0), (3, 0)]) ⟨Or.inr rfl, Or.inl rfl, Or.inr rfl, Or.inl rfl, Or.inr rfl, Or.inr rfl, Or.inl rfl, trivial⟩ ?_
  exact e_X4_play_10 d (fun h => e_X4_play_122 d h) fuel9 h
theorem e_X4_play (d : Nat) {a0 a1 a2 a3 a4 : Int} {m : Mem} {v : Int} {m' : Mem} (h : X4_play a0 a1 a2 a3 a4 m = some (v, m')) : ExM (d + 5) fm_X4_play [(14, a0), (15, a1), (13, a2), (0, a3), (0, a4)] m (.inl (0, v)) m' := by
  obtain ⟨hb, h⟩ := boolR_some h
  exact ExM.of (by decide +kernel) (Nat.le_of_ble_eq_true rfl) (cat9 rfl) (retZ hb) (e_X4_play_0 d h)
theorem dX5_add_0 : decode cX5_add 0 = .ok (.aload_n 0, 1) := by decide +kernel
theorem dX5_add_1 : decode cX5_add 1 = .ok (.getfield 21, 3) := by decide +kernel
theorem dX5_add_4 : decode cX5_add 4 = .ok (.bipush 12, 2) := by decide +kernel
theorem dX5_add_6 : decode cX5_add 6 = .ok (.if_icmp .ge 43, 3) := by decide +kernel
theorem dX5_add_9 : decode cX5_add 9 = .ok (.aload_n 0, 1) := by decide +kernel
theorem dX5_add_10 : decode cX5_add 10 = .ok (.getfield 9, 3) := by decide +kernel
theorem dX5_add_13 : decode cX5_add 13 = .ok (.aload_n 0, 1) := by decide +kernel
theorem dX5_add_14 : decode cX5_add 14 = .ok (.getfield 21, 3) := by decide +kernel
theorem dX5_add_17 : decode cX5_add 17 = .ok (.iload_n 1, 1) := by decide +kernel
theorem dX5_add_18 : decode cX5_add 18 = .ok (.iastore, 1) := by decide +kernel
theorem dX5_add_19 : decode cX5_add 19 = .ok (.aload_n 0, 1) := by decide +kernel
theorem dX5_add_20 : decode cX5_add 20 = .ok (.getfield 15, 3) := by decide +kernel
theorem dX5_add_23 : decode cX5_add 23 = .ok (.aload_n 0, 1) := by decide +kernel
theorem dX5_add_24 : decode cX5_add 24 = .ok (.getfield 21, 3) := by decide +kernel
theorem dX5_add_27 : decode cX5_add 27 = .ok (.iload_n 2, 1) := by decide +kernel
theorem dX5_add_28 : decode cX5_add 28 = .ok (.iastore, 1) := by decide +kernel
theorem dX5_add_29 : decode cX5_add 29 = .ok (.aload_n 0, 1) := by decide +kernel
theorem dX5_add_30 : decode cX5_add 30 = .ok (.getfield 18, 3) := by decide +kernel
theorem dX5_add_33 : decode cX5_add 33 = .ok (.aload_n 0, 1) := by decide +kernel
theorem dX5_add_34 : decode cX5_add 34 = .ok (.getfield 21, 3) := by decide +kernel
theorem dX5_add_37 : decode cX5_add 37 = .ok (.iload_n 3, 1) := by decide +kernel
theorem dX5_add_38 : decode cX5_add 38 = .ok (.iastore, 1) := by decide +kernel
theorem dX5_add_39 : decode cX5_add 39 = .ok (.aload_n 0, 1) := by decide +kernel
theorem dX5_add_40 : decode cX5_add 40 = .ok (.dup, 1) := by decide +kernel
theorem dX5_add_41 : decode cX5_add 41 = .ok (.getfield 21, 3) := by decide +kernel
theorem dX5_add_44 : decode cX5_add 44 = .ok (.iconst 1, 1) := by decide +kernel
theorem dX5_add_45 : decode cX5_add 45 = .ok (.iadd, 1) := by decide +kernel
theorem dX5_add_46 : decode cX5_add 46 = .ok (.putfield 21, 3) := by decide +kernel
theorem dX5_add_49 : decode cX5_add 49 = .ok (.return_, 1) := by decide +kernel
theorem e_X5_add_0 (d : Nat) {l0 l1 l2 l3 : Int} {m : Mem} {v : Int} {m' : Mem} (h : X5_add_0 l0 l1 l2 l3 m = some (v, m')) : Ex d fm_X5_add 0 [(15, l0), (0, l1), (0, l2), (0, l3)] [] m (.inl (3, 0)) m' := by
  unfold X5_add_0 at h
  refine x_aload_n dX5_add_0 rfl rfl (Or.inr (by decide)) (?_ : Ex _ _ 1 _ _ _ _ _)
  obtain ⟨c1, h⟩ := chk_some h
  refine gt_5_3 c1 fl_RX5_21 dX5_add_1 (?_ : Ex _ _ 4 _ _ _ _ _)
  refine x_bipush dX5_add_4 kb_12 (by decide) (?_ : Ex _ _ 6 _ _ _ _ _)
  rcases ite_some h with ⟨b2, h⟩ | ⟨b2, h⟩
  · refine x_icmp_ge (tgt := 49) dX5_add_6 rfl b2 (?_ : Ex _ _ 49 _ _ _ _ _)
    cases h
    exact x_retv dX5_add_49
  · refine x_icmp_geN dX5_add_6 (by decide) b2 (?_ : Ex _ _ 9 _ _ _ _ _)
    refine x_aload_n dX5_add_9 rfl rfl (Or.inr (by decide)) (?_ : Ex _ _ 10 _ _ _ _ _)
    refine gt_5_0 c1 fl_RX5_9 dX5_add_10 (?_ : Ex _ _ 13 _ _ _ _ _)
    refine x_aload_n dX5_add_13 rfl rfl (Or.inr (by decide)) (?_ : Ex _ _ 14 _ _ _ _ _)
    refine gt_5_3 c1 fl_RX5_21 dX5_add_14 (?_ : Ex _ _ 17 _ _ _ _ _)
    refine x_iload_n dX5_add_17 rfl rfl (?_ : Ex _ _ 18 _ _ _ _ _)
    obtain ⟨⟨c3, c4, c5⟩, h⟩ := chk_some h
    obtain ⟨m6, hm6, h⟩ := st_some h
    refine sd_i_12 c3 c4 c5 dX5_add_18 (?_ : Ex _ _ 19 _ _ _ _ _)
    rw [← hm6]
    refine x_aload_n dX5_add_19 rfl rfl (Or.inr (by decide)) (?_ : Ex _ _ 20 _ _ _ _ _)
    refine gt_5_1 c1 fl_RX5_15 dX5_add_20 (?_ : Ex _ _ 23 _ _ _ _ _)
    refine x_aload_n dX5_add_23 rfl rfl (Or.inr (by decide)) (?_ : Ex _ _ 24 _ _ _ _ _)
    refine gt_5_3 c1 fl_RX5_21 dX5_add_24 (?_ : Ex _ _ 27 _ _ _ _ _)
    refine x_iload_n dX5_add_27 rfl rfl (?_ : Ex _ _ 28 _ _ _ _ _)
    obtain ⟨⟨c7, c8, c9⟩, h⟩ := chk_some h
    obtain ⟨m10, hm10, h⟩ := st_some h
    refine sd_i_12 c7 c8 c9 dX5_add_28 (?_ : Ex _ _ 29 _ _ _ _ _)
    rw [← hm10]
    refine x_aload_n dX5_add_29 rfl rfl (Or.inr (by decide)) (?_ : Ex _ _ 30 _ _ _ _ _)
    refine gt_5_2 c1 fl_RX5_18 dX5_add_30 (?_ : Ex _ _ 33 _ _ _ _ _)
    refine x_aload_n dX5_add_33 rfl rfl (Or.inr (by decide)) (?_ : Ex _ _ 34 _ _ _ _ _)
    refine gt_5_3 c1 fl_RX5_21 dX5_add_34 (?_ : Ex _ _ 37 _ _ _ _ _)
    refine x_iload_n dX5_add_37 rfl rfl (?_ : Ex _ _ 38 _ _ _ _ _)
    obtain ⟨⟨c11, c12, c13⟩, h⟩ := chk_some h
    obtain ⟨m14, hm14, h⟩ := st_some h
    refine sd_i_12 c11 c12 c13 dX5_add_38 (?_ : Ex _ _ 39 _ _ _ _ _)
    rw [← hm14]
    refine x_aload_n dX5_add_39 rfl rfl (Or.inr (by decide)) (?_ : Ex _ _ 40 _ _ _ _ _)
    refine x_dup (by decide : (15 : Int) ≠ 2) dX5_add_40 (?_ : Ex _ _ 41 _ _ _ _ _)
    refine gt_5_3 c1 fl_RX5_21 dX5_add_41 (?_ : Ex _ _ 44 _ _ _ _ _)
    refine x_iconst dX5_add_44 rfl (by decide) (?_ : Ex _ _ 45 _ _ _ _ _)
    obtain ⟨c15, h⟩ := chk_some h
    refine x_iadd dX5_add_45 c15 (?_ : Ex _ _ 46 _ _ _ _ _)
    obtain ⟨m16, hm16, h⟩ := st_some h
    refine pt_5_3  c1 fl_RX5_21 dX5_add_46 (?_ : Ex _ _ 49 _ _ _ _ _)
    rw [← hm16]
    cases h
    exact x_retv dX5_add_49
theorem e_X5_add (d : Nat) {a0 a1 a2 a3 : Int} {m : Mem} {v : Int} {m' : Mem} (h : X5_add a0 a1 a2 a3 m = some (v, m')) : ExM d fm_X5_add [(15, a0), (0, a1), (0, a2), (0, a3)] m (.inl (3, 0)) m' := by
  exact ExM.of (by decide +kernel) (Nat.le_of_ble_eq_true rfl) (cat9 rfl) retV (e_X5_add_0 d h)
theorem dX5_canBeginTogether_0 : decode cX5_canBeginTogether 0 = .ok (.iload_n 1, 1) := by decide +kernel
theorem dX5_canBeginTogether_1 : decode cX5_canBeginTogether 1 = .ok (.istore_n 3, 1) := by decide +kernel
theorem dX5_canBeginTogether_2 : decode cX5_canBeginTogether 2 = .ok (.iload_n 3, 1) := by decide +kernel
theorem dX5_canBeginTogether_3 : decode cX5_canBeginTogether 3 = .ok (.iload_n 1, 1) := by decide +kernel
theorem dX5_canBeginTogether_4 : decode cX5_canBeginTogether 4 = .ok (.iload_n 2, 1) := by decide +kernel
theorem dX5_canBeginTogether_5 : decode cX5_canBeginTogether 5 = .ok (.iadd, 1) := by decide +kernel
theorem dX5_canBeginTogether_6 : decode cX5_canBeginTogether 6 = .ok (.if_icmp .ge 35, 3) := by decide +kernel
theorem dX5_canBeginTogether_9 : decode cX5_canBeginTogether 9 = .ok (.iload_n 3, 1) := by decide +kernel
theorem dX5_canBeginTogether_10 : decode cX5_canBeginTogether 10 = .ok (.aload_n 0, 1) := by decide +kernel
theorem dX5_canBeginTogether_11 : decode cX5_canBeginTogether 11 = .ok (.getfield 21, 3) := by decide +kernel
theorem dX5_canBeginTogether_14 : decode cX5_canBeginTogether 14 = .ok (.if_icmp .ge 19, 3) := by decide +kernel
theorem dX5_canBeginTogether_17 : decode cX5_canBeginTogether 17 = .ok (.iload_n 3, 1) := by decide +kernel
theorem dX5_canBeginTogether_18 : decode cX5_canBeginTogether 18 = .ok (.bipush 12, 2) := by decide +kernel
theorem dX5_canBeginTogether_20 : decode cX5_canBeginTogether 20 = .ok (.if_icmp .ge 13, 3) := by decide +kernel
theorem dX5_canBeginTogether_23 : decode cX5_canBeginTogether 23 = .ok (.aload_n 0, 1) := by decide +kernel
theorem dX5_canBeginTogether_24 : decode cX5_canBeginTogether 24 = .ok (.getfield 9, 3) := by decide +kernel
theorem dX5_canBeginTogether_27 : decode cX5_canBeginTogether 27 = .ok (.iload_n 3, 1) := by decide +kernel
theorem dX5_canBeginTogether_28 : decode cX5_canBeginTogether 28 = .ok (.iaload, 1) := by decide +kernel
theorem dX5_canBeginTogether_29 : decode cX5_canBeginTogether 29 = .ok (.iconst 3, 1) := by decide +kernel
theorem dX5_canBeginTogether_30 : decode cX5_canBeginTogether 30 = .ok (.if_icmp .le 5, 3) := by decide +kernel
theorem dX5_canBeginTogether_33 : decode cX5_canBeginTogether 33 = .ok (.iconst 0, 1) := by decide +kernel
theorem dX5_canBeginTogether_34 : decode cX5_canBeginTogether 34 = .ok (.ireturn, 1) := by decide +kernel
theorem dX5_canBeginTogether_35 : decode cX5_canBeginTogether 35 = .ok (.iinc 3 1, 3) := by decide +kernel
theorem dX5_canBeginTogether_38 : decode cX5_canBeginTogether 38 = .ok (.goto (-36), 3) := by decide +kernel
theorem dX5_canBeginTogether_41 : decode cX5_canBeginTogether 41 = .ok (.iconst 1, 1) := by decide +kernel
theorem dX5_canBeginTogether_42 : decode cX5_canBeginTogether 42 = .ok (.ireturn, 1) := by decide +kernel
theorem e_X5_canBeginTogether_2 (d : Nat) : ∀ (n : Nat) {l0 l1 l2 l3 : Int} {m : Mem} {v : Int} {m' : Mem}, X5_canBeginTogether_2 n l0 l1 l2 l3 m = some (v, m') → Ex d fm_X5_canBeginTogether 2 [(15, l0), (0, l1), (0, l2), (0, l3)] [] m (.inl (0, v)) m' := by
  intro n
  induction n with
  | zero =>
    intro l0 l1 l2 l3 m v m' h
    have h : (none : Option R2) = some _ := h
    cases h
  | succ n ih =>
    intro l0 l1 l2 l3 m v m' h
    rw [X5_canBeginTogether_2] at h
    refine x_iload_n dX5_canBeginTogether_2 rfl rfl (?_ : Ex _ _ 3 _ _ _ _ _)
    refine x_iload_n dX5_canBeginTogether_3 rfl rfl (?_ : Ex _ _ 4 _ _ _ _ _)
    refine x_iload_n dX5_canBeginTogether_4 rfl rfl (?_ : Ex _ _ 5 _ _ _ _ _)
    obtain ⟨c1, h⟩ := chk_some h
    refine x_iadd dX5_canBeginTogether_5 c1 (?_ : Ex _ _ 6 _ _ _ _ _)
    rcases ite_some h with ⟨b2, h⟩ | ⟨b2, h⟩
    · refine x_icmp_ge (tgt := 41) dX5_canBeginTogether_6 rfl b2 (?_ : Ex _ _ 41 _ _ _ _ _)
      refine x_iconst dX5_canBeginTogether_41 rfl (by decide) (?_ : Ex _ _ 42 _ _ _ _ _)
      cases h
      exact x_ret dX5_canBeginTogether_42 (by decide : (0 : Int) ≠ 3)
    · refine x_icmp_geN dX5_canBeginTogether_6 (by decide) b2 (?_ : Ex _ _ 9 _ _ _ _ _)
      refine x_iload_n dX5_canBeginTogether_9 rfl rfl (?_ : Ex _ _ 10 _ _ _ _ _)
      refine x_aload_n dX5_canBeginTogether_10 rfl rfl (Or.inr (by decide)) (?_ : Ex _ _ 11 _ _ _ _ _)
      obtain ⟨c3, h⟩ := chk_some h
      refine gt_5_3 c3 fl_RX5_21 dX5_canBeginTogether_11 (?_ : Ex _ _ 14 _ _ _ _ _)
      rcases ite_some h with ⟨b4, h⟩ | ⟨b4, h⟩
      · refine x_icmp_ge (tgt := 33) dX5_canBeginTogether_14 rfl b4 (?_ : Ex _ _ 33 _ _ _ _ _)
        refine x_iconst dX5_canBeginTogether_33 rfl (by decide) (?_ : Ex _ _ 34 _ _ _ _ _)
        cases h
        exact x_ret dX5_canBeginTogether_34 (by decide : (0 : Int) ≠ 3)
      · refine x_icmp_geN dX5_canBeginTogether_14 (by decide) b4 (?_ : Ex _ _ 17 _ _ _ _ _)
        refine x_iload_n dX5_canBeginTogether_17 rfl rfl (?_ : Ex _ _ 18 _ _ _ _ _)
        refine x_bipush dX5_canBeginTogether_18 kb_12 (by decide) (?_ : Ex _ _ 20 _ _ _ _ _)
        rcases ite_some h with ⟨b5, h⟩ | ⟨b5, h⟩
        · refine x_icmp_ge (tgt := 33) dX5_canBeginTogether_20 rfl b5 (?_ : Ex _ _ 33 _ _ _ _ _)
          refine x_iconst dX5_canBeginTogether_33 rfl (by decide) (?_ : Ex _ _ 34 _ _ _ _ _)
          cases h
          exact x_ret dX5_canBeginTogether_34 (by decide : (0 : Int) ≠ 3)
        · refine x_icmp_geN dX5_canBeginTogether_20 (by decide) b5 (?_ : Ex _ _ 23 _ _ _ _ _)
          refine x_aload_n dX5_canBeginTogether_23 rfl rfl (Or.inr (by decide)) (?_ : Ex _ _ 24 _ _ _ _ _)
          refine gt_5_0 c3 fl_RX5_9 dX5_canBeginTogether_24 (?_ : Ex _ _ 27 _ _ _ _ _)
          refine x_iload_n dX5_canBeginTogether_27 rfl rfl (?_ : Ex _ _ 28 _ _ _ _ _)
          obtain ⟨⟨c6, c7, c8⟩, h⟩ := chk_some h
          refine ld_i_12 c6 c7 c8 dX5_canBeginTogether_28 (?_ : Ex _ _ 29 _ _ _ _ _)
          refine x_iconst dX5_canBeginTogether_29 rfl (by decide) (?_ : Ex _ _ 30 _ _ _ _ _)
          rcases ite_some h with ⟨b9, h⟩ | ⟨b9, h⟩
          · refine x_icmp_le (tgt := 35) dX5_canBeginTogether_30 rfl b9 (?_ : Ex _ _ 35 _ _ _ _ _)
            obtain ⟨c10, h⟩ := chk_some h
            refine x_iinc (ls2 := [(15, l0), (0, l1), (0, l2), (0, (l3 + 1))]) dX5_canBeginTogether_35 rfl c10 rfl (?_ : Ex _ _ 38 _ _ _ _ _)
            refine x_goto (tgt := 2) dX5_canBeginTogether_38 rfl (?_ : Ex _ _ 2 _ _ _ _ _)
            exact ih h
          · refine x_icmp_leN dX5_canBeginTogether_30 (by decide) b9 (?_ : Ex _ _ 33 _ _ _ _ _)
            refine x_iconst dX5_canBeginTogether_33 rfl (by decide) (?_ : Ex _ _ 34 _ _ _ _ _)
            cases h
            exact x_ret dX5_canBeginTogether_34 (by decide : (0 : Int) ≠ 3)
theorem e_X5_canBeginTogether_0 (d : Nat) {l0 l1 l2 : Int} {m : Mem} {v : Int} {m' : Mem} (h : X5_canBeginTogether_0 l0 l1 l2 m = some (v, m')) : Ex d fm_X5_canBeginTogether 0 [(15, l0), (0, l1), (0, l2), (3, 0)] [] m (.inl (0, v)) m' := by
  unfold X5_canBeginTogether_0 at h
  refine x_iload_n dX5_canBeginTogether_0 rfl rfl (?_ : Ex _ _ 1 _ _ _ _ _)
  refine x_istore_n (ls2 := [(15, l0), (0, l1), (0, l2), (0, l1)]) dX5_canBeginTogether_1 rfl (Nat.le_of_ble_eq_true rfl) rfl (?_ : Ex _ _ 2 _ _ _ _ _)
  exact e_X5_canBeginTogether_2 d fuel9 h
theorem e_X5_canBeginTogether (d : Nat) {a0 a1 a2 : Int} {m : Mem} {v : Int} {m' : Mem} (h : X5_canBeginTogether a0 a1 a2 m = some (v, m')) : ExM d fm_X5_canBeginTogether [(15, a0), (0, a1), (0, a2)] m (.inl (0, v)) m' := by
  obtain ⟨hb, h⟩ := boolR_some h
  exact ExM.of (by decide +kernel) (Nat.le_of_ble_eq_true rfl) (cat9 rfl) (retZ hb) (e_X5_canBeginTogether_0 d h)
theorem dX5_leadsWithin_0 : decode cX5_leadsWithin 0 = .ok (.aload_n 0, 1) := by decide +kernel
theorem dX5_leadsWithin_1 : decode cX5_leadsWithin 1 = .ok (.getfield 9, 3) := by decide +kernel
theorem dX5_leadsWithin_4 : decode cX5_leadsWithin 4 = .ok (.iload_n 1, 1) := by decide +kernel
theorem dX5_leadsWithin_5 : decode cX5_leadsWithin 5 = .ok (.iaload, 1) := by decide +kernel
theorem dX5_leadsWithin_6 : decode cX5_leadsWithin 6 = .ok (.tableswitch 81 4 10 #[72, 42, 60, 81, 81, 81, 42], 42) := by decide +kernel
theorem dX5_leadsWithin_48 : decode cX5_leadsWithin 48 = .ok (.iload_n 1, 1) := by decide +kernel
theorem dX5_leadsWithin_49 : decode cX5_leadsWithin 49 = .ok (.iconst 1, 1) := by decide +kernel
theorem dX5_leadsWithin_50 : decode cX5_leadsWithin 50 = .ok (.iadd, 1) := by decide +kernel
theorem dX5_leadsWithin_51 : decode cX5_leadsWithin 51 = .ok (.iload_n 3, 1) := by decide +kernel
theorem dX5_leadsWithin_52 : decode cX5_leadsWithin 52 = .ok (.iadd, 1) := by decide +kernel
theorem dX5_leadsWithin_53 : decode cX5_leadsWithin 53 = .ok (.aload_n 0, 1) := by decide +kernel
theorem dX5_leadsWithin_54 : decode cX5_leadsWithin 54 = .ok (.getfield 21, 3) := by decide +kernel
theorem dX5_leadsWithin_57 : decode cX5_leadsWithin 57 = .ok (.if_icmp .gt 7, 3) := by decide +kernel
theorem dX5_leadsWithin_60 : decode cX5_leadsWithin 60 = .ok (.iconst 1, 1) := by decide +kernel
theorem dX5_leadsWithin_61 : decode cX5_leadsWithin 61 = .ok (.goto 4, 3) := by decide +kernel
theorem dX5_leadsWithin_64 : decode cX5_leadsWithin 64 = .ok (.iconst 0, 1) := by decide +kernel
theorem dX5_leadsWithin_65 : decode cX5_leadsWithin 65 = .ok (.ireturn, 1) := by decide +kernel
theorem dX5_leadsWithin_66 : decode cX5_leadsWithin 66 = .ok (.iload_n 1, 1) := by decide +kernel
theorem dX5_leadsWithin_67 : decode cX5_leadsWithin 67 = .ok (.iload_n 3, 1) := by decide +kernel
theorem dX5_leadsWithin_68 : decode cX5_leadsWithin 68 = .ok (.isub, 1) := by decide +kernel
theorem dX5_leadsWithin_69 : decode cX5_leadsWithin 69 = .ok (.ifCond .lt 7, 3) := by decide +kernel
theorem dX5_leadsWithin_72 : decode cX5_leadsWithin 72 = .ok (.iconst 1, 1) := by decide +kernel
theorem dX5_leadsWithin_73 : decode cX5_leadsWithin 73 = .ok (.goto 4, 3) := by decide +kernel
theorem dX5_leadsWithin_76 : decode cX5_leadsWithin 76 = .ok (.iconst 0, 1) := by decide +kernel
theorem dX5_leadsWithin_77 : decode cX5_leadsWithin 77 = .ok (.ireturn, 1) := by decide +kernel
theorem dX5_leadsWithin_78 : decode cX5_leadsWithin 78 = .ok (.aload_n 0, 1) := by decide +kernel
theorem dX5_leadsWithin_79 : decode cX5_leadsWithin 79 = .ok (.iload_n 1, 1) := by decide +kernel
theorem dX5_leadsWithin_80 : decode cX5_leadsWithin 80 = .ok (.iconst 1, 1) := by decide +kernel
theorem dX5_leadsWithin_81 : decode cX5_leadsWithin 81 = .ok (.iadd, 1) := by decide +kernel
theorem dX5_leadsWithin_82 : decode cX5_leadsWithin 82 = .ok (.iload_n 2, 1) := by decide +kernel
theorem dX5_leadsWithin_83 : decode cX5_leadsWithin 83 = .ok (.invokevirtual 29, 3) := by decide +kernel
theorem dX5_leadsWithin_86 : decode cX5_leadsWithin 86 = .ok (.ireturn, 1) := by decide +kernel
theorem dX5_leadsWithin_87 : decode cX5_leadsWithin 87 = .ok (.iconst 1, 1) := by decide +kernel
theorem dX5_leadsWithin_88 : decode cX5_leadsWithin 88 = .ok (.ireturn, 1) := by decide +kernel
theorem e_X5_leadsWithin_0 (d : Nat) {l0 l1 l2 l3 : Int} {m : Mem} {v : Int} {m' : Mem} (h : X5_leadsWithin_0 l0 l1 l2 l3 m = some (v, m')) : Ex (d + 1) fm_X5_leadsWithin 0 [(15, l0), (0, l1), (0, l2), (0, l3)] [] m (.inl (0, v)) m' := by
  unfold X5_leadsWithin_0 at h
  refine x_aload_n dX5_leadsWithin_0 rfl rfl (Or.inr (by decide)) (?_ : Ex _ _ 1 _ _ _ _ _)
  obtain ⟨c1, h⟩ := chk_some h
  refine gt_5_0 c1 fl_RX5_9 dX5_leadsWithin_1 (?_ : Ex _ _ 4 _ _ _ _ _)
  refine x_iload_n dX5_leadsWithin_4 rfl rfl (?_ : Ex _ _ 5 _ _ _ _ _)
  obtain ⟨⟨c2, c3, c4⟩, h⟩ := chk_some h
  refine ld_i_12 c2 c3 c4 dX5_leadsWithin_5 (?_ : Ex _ _ 6 _ _ _ _ _)
  rcases ite_some h with ⟨b5, h⟩ | ⟨b5, h⟩
  · refine y_tableAt (j := 4) (off := 72) (tgt := 78) b5 dX5_leadsWithin_6 (by decide) (by decide) rfl rfl (?_ : Ex _ _ 78 _ _ _ _ _)
    refine x_aload_n dX5_leadsWithin_78 rfl rfl (Or.inr (by decide)) (?_ : Ex _ _ 79 _ _ _ _ _)
    refine x_iload_n dX5_leadsWithin_79 rfl rfl (?_ : Ex _ _ 80 _ _ _ _ _)
    refine x_iconst dX5_leadsWithin_80 rfl (by decide) (?_ : Ex _ _ 81 _ _ _ _ _)
    obtain ⟨c6, h⟩ := chk_some h
    refine x_iadd dX5_leadsWithin_81 c6 (?_ : Ex _ _ 82 _ _ _ _ _)
    refine x_iload_n dX5_leadsWithin_82 rfl rfl (?_ : Ex _ _ 83 _ _ _ _ _)
    obtain ⟨v7, m8, g9, h⟩ := cal_some h
    refine cV2 (e_X5_canBeginTogether d g9) (contN (by decide) (?_ : Ex _ _ 86 _ _ _ _ _)) og_X5_canBeginTogether rfl ml_RX5_29 5 rfl rfl c1 im_X5_canBeginTogether se_X5_canBeginTogether (Nat.le_of_ble_eq_true rfl) dX5_leadsWithin_83
    cases h
    exact x_ret dX5_leadsWithin_86 (by decide : (0 : Int) ≠ 3)
  rcases ite_some h with ⟨b10, h⟩ | ⟨b10, h⟩
  · refine y_tableAt (j := 5) (off := 42) (tgt := 48) b10 dX5_leadsWithin_6 (by decide) (by decide) rfl rfl (?_ : Ex _ _ 48 _ _ _ _ _)
    refine x_iload_n dX5_leadsWithin_48 rfl rfl (?_ : Ex _ _ 49 _ _ _ _ _)
    refine x_iconst dX5_leadsWithin_49 rfl (by decide) (?_ : Ex _ _ 50 _ _ _ _ _)
    obtain ⟨c11, h⟩ := chk_some h
    refine x_iadd dX5_leadsWithin_50 c11 (?_ : Ex _ _ 51 _ _ _ _ _)
    refine x_iload_n dX5_leadsWithin_51 rfl rfl (?_ : Ex _ _ 52 _ _ _ _ _)
    obtain ⟨c12, h⟩ := chk_some h
    refine x_iadd dX5_leadsWithin_52 c12 (?_ : Ex _ _ 53 _ _ _ _ _)
    refine x_aload_n dX5_leadsWithin_53 rfl rfl (Or.inr (by decide)) (?_ : Ex _ _ 54 _ _ _ _ _)
    refine gt_5_3 c1 fl_RX5_21 dX5_leadsWithin_54 (?_ : Ex _ _ 57 _ _ _ _ _)
    rcases ite_some h with ⟨b13, h⟩ | ⟨b13, h⟩
    · refine x_icmp_gt (tgt := 64) dX5_leadsWithin_57 rfl b13 (?_ : Ex _ _ 64 _ _ _ _ _)
      refine x_iconst dX5_leadsWithin_64 rfl (by decide) (?_ : Ex _ _ 65 _ _ _ _ _)
      cases h
      exact x_ret dX5_leadsWithin_65 (by decide : (0 : Int) ≠ 3)
    · refine x_icmp_gtN dX5_leadsWithin_57 (by decide) b13 (?_ : Ex _ _ 60 _ _ _ _ _)
      refine x_iconst dX5_leadsWithin_60 rfl (by decide) (?_ : Ex _ _ 61 _ _ _ _ _)
      refine x_goto (tgt := 65) dX5_leadsWithin_61 rfl (?_ : Ex _ _ 65 _ _ _ _ _)
      cases h
      exact x_ret dX5_leadsWithin_65 (by decide : (0 : Int) ≠ 3)
  rcases ite_some h with ⟨b14, h⟩ | ⟨b14, h⟩
  · refine y_tableAt (j := 6) (off := 60) (tgt := 66) b14 dX5_leadsWithin_6 (by decide) (by decide) rfl rfl (?_ : Ex _ _ 66 _ _ _ _ _)
    refine x_iload_n dX5_leadsWithin_66 rfl rfl (?_ : Ex _ _ 67 _ _ _ _ _)
    refine x_iload_n dX5_leadsWithin_67 rfl rfl (?_ : Ex _ _ 68 _ _ _ _ _)
    obtain ⟨c15, h⟩ := chk_some h
    refine x_isub dX5_leadsWithin_68 c15 (?_ : Ex _ _ 69 _ _ _ _ _)
    rcases ite_some h with ⟨b16, h⟩ | ⟨b16, h⟩
    · refine x_if_lt (tgt := 76) dX5_leadsWithin_69 rfl b16 (?_ : Ex _ _ 76 _ _ _ _ _)
      refine x_iconst dX5_leadsWithin_76 rfl (by decide) (?_ : Ex _ _ 77 _ _ _ _ _)
      cases h
      exact x_ret dX5_leadsWithin_77 (by decide : (0 : Int) ≠ 3)
    · refine x_if_ltN dX5_leadsWithin_69 (by decide) b16 (?_ : Ex _ _ 72 _ _ _ _ _)
      refine x_iconst dX5_leadsWithin_72 rfl (by decide) (?_ : Ex _ _ 73 _ _ _ _ _)
      refine x_goto (tgt := 77) dX5_leadsWithin_73 rfl (?_ : Ex _ _ 77 _ _ _ _ _)
      cases h
      exact x_ret dX5_leadsWithin_77 (by decide : (0 : Int) ≠ 3)
  rcases ite_some h with ⟨b17, h⟩ | ⟨b17, h⟩
  · refine y_tableAt (j := 7) (off := 81) (tgt := 87) b17 dX5_leadsWithin_6 (by decide) (by decide) rfl rfl (?_ : Ex _ _ 87 _ _ _ _ _)
    refine x_iconst dX5_leadsWithin_87 rfl (by decide) (?_ : Ex _ _ 88 _ _ _ _ _)
    cases h
    exact x_ret dX5_leadsWithin_88 (by decide : (0 : Int) ≠ 3)
  rcases ite_some h with ⟨b18, h⟩ | ⟨b18, h⟩
  · refine y_tableAt (j := 8) (off := 81) (tgt := 87) b18 dX5_leadsWithin_6 (by decide) (by decide) rfl rfl (?_ : Ex _ _ 87 _ _ _ _ _)
    refine x_iconst dX5_leadsWithin_87 rfl (by decide) (?_ : Ex _ _ 88 _ _ _ _ _)
    cases h
    exact x_ret dX5_leadsWithin_88 (by decide : (0 : Int) ≠ 3)
  rcases ite_some h with ⟨b19, h⟩ | ⟨b19, h⟩
  · refine y_tableAt (j := 9) (off := 81) (tgt := 87) b19 dX5_leadsWithin_6 (by decide) (by decide) rfl rfl (?_ : Ex _ _ 87 _ _ _ _ _)
    refine x_iconst dX5_leadsWithin_87 rfl (by decide) (?_ : Ex _ _ 88 _ _ _ _ _)
    cases h
    exact x_ret dX5_leadsWithin_88 (by decide : (0 : Int) ≠ 3)
  rcases ite_some h with ⟨b20, h⟩ | ⟨b20, h⟩
  · refine y_tableAt (j := 10) (off := 42) (tgt := 48) b20 dX5_leadsWithin_6 (by decide) (by decide) rfl rfl (?_ : Ex _ _ 48 _ _ _ _ _)
    refine x_iload_n dX5_leadsWithin_48 rfl rfl (?_ : Ex _ _ 49 _ _ _ _ _)
    refine x_iconst dX5_leadsWithin_49 rfl (by decide) (?_ : Ex _ _ 50 _ _ _ _ _)
    obtain ⟨c21, h⟩ := chk_some h
    refine x_iadd dX5_leadsWithin_50 c21 (?_ : Ex _ _ 51 _ _ _ _ _)
    refine x_iload_n dX5_leadsWithin_51 rfl rfl (?_ : Ex _ _ 52 _ _ _ _ _)
    obtain ⟨c22, h⟩ := chk_some h
    refine x_iadd dX5_leadsWithin_52 c22 (?_ : Ex _ _ 53 _ _ _ _ _)
    refine x_aload_n dX5_leadsWithin_53 rfl rfl (Or.inr (by decide)) (?_ : Ex _ _ 54 _ _ _ _ _)
    refine gt_5_3 c1 fl_RX5_21 dX5_leadsWithin_54 (?_ : Ex _ _ 57 _ _ _ _ _)
    rcases ite_some h with ⟨b23, h⟩ | ⟨b23, h⟩
    · refine x_icmp_gt (tgt := 64) dX5_leadsWithin_57 rfl b23 (?_ : Ex _ _ 64 _ _ _ _ _)
      refine x_iconst dX5_leadsWithin_64 rfl (by decide) (?_ : Ex _ _ 65 _ _ _ _ _)
      cases h
      exact x_ret dX5_leadsWithin_65 (by decide : (0 : Int) ≠ 3)
    · refine x_icmp_gtN dX5_leadsWithin_57 (by decide) b23 (?_ : Ex _ _ 60 _ _ _ _ _)
      refine x_iconst dX5_leadsWithin_60 rfl (by decide) (?_ : Ex _ _ 61 _ _ _ _ _)
      refine x_goto (tgt := 65) dX5_leadsWithin_61 rfl (?_ : Ex _ _ 65 _ _ _ _ _)
      cases h
      exact x_ret dX5_leadsWithin_65 (by decide : (0 : Int) ≠ 3)
  refine x_tableOut (tgt := 87) dX5_leadsWithin_6 (by omega) rfl (?_ : Ex _ _ 87 _ _ _ _ _)
  refine x_iconst dX5_leadsWithin_87 rfl (by decide) (?_ : Ex _ _ 88 _ _ _ _ _)
  cases h
  exact x_ret dX5_leadsWithin_88 (by decide : (0 : Int) ≠ 3)
theorem e_X5_leadsWithin (d : Nat) {a0 a1 a2 a3 : Int} {m : Mem} {v : Int} {m' : Mem} (h : X5_leadsWithin a0 a1 a2 a3 m = some (v, m')) : ExM (d + 1) fm_X5_leadsWithin [(15, a0), (0, a1), (0, a2), (0, a3)] m (.inl (0, v)) m' := by
  obtain ⟨hb, h⟩ := boolR_some h
  exact ExM.of (by decide +kernel) (Nat.le_of_ble_eq_true rfl) (cat9 rfl) (retZ hb) (e_X5_leadsWithin_0 d h)
theorem dX5_isWhole_0 : decode cX5_isWhole 0 = .ok (.iconst 0, 1) := by decide +kernel
theorem dX5_isWhole_1 : decode cX5_isWhole 1 = .ok (.istore_n 1, 1) := by decide +kernel
theorem dX5_isWhole_2 : decode cX5_isWhole 2 = .ok (.iload_n 1, 1) := by decide +kernel
theorem dX5_isWhole_3 : decode cX5_isWhole 3 = .ok (.aload_n 0, 1) := by decide +kernel
theorem dX5_isWhole_4 : decode cX5_isWhole 4 = .ok (.getfield 21, 3) := by decide +kernel
theorem dX5_isWhole_7 : decode cX5_isWhole 7 = .ok (.if_icmp .ge 37, 3) := by decide +kernel
theorem dX5_isWhole_10 : decode cX5_isWhole 10 = .ok (.iload_n 1, 1) := by decide +kernel
theorem dX5_isWhole_11 : decode cX5_isWhole 11 = .ok (.bipush 12, 2) := by decide +kernel
theorem dX5_isWhole_13 : decode cX5_isWhole 13 = .ok (.if_icmp .ge 31, 3) := by decide +kernel
theorem dX5_isWhole_16 : decode cX5_isWhole 16 = .ok (.aload_n 0, 1) := by decide +kernel
theorem dX5_isWhole_17 : decode cX5_isWhole 17 = .ok (.iload_n 1, 1) := by decide +kernel
theorem dX5_isWhole_18 : decode cX5_isWhole 18 = .ok (.aload_n 0, 1) := by decide +kernel
theorem dX5_isWhole_19 : decode cX5_isWhole 19 = .ok (.getfield 15, 3) := by decide +kernel
theorem dX5_isWhole_22 : decode cX5_isWhole 22 = .ok (.iload_n 1, 1) := by decide +kernel
theorem dX5_isWhole_23 : decode cX5_isWhole 23 = .ok (.iaload, 1) := by decide +kernel
theorem dX5_isWhole_24 : decode cX5_isWhole 24 = .ok (.aload_n 0, 1) := by decide +kernel
theorem dX5_isWhole_25 : decode cX5_isWhole 25 = .ok (.getfield 18, 3) := by decide +kernel
theorem dX5_isWhole_28 : decode cX5_isWhole 28 = .ok (.iload_n 1, 1) := by decide +kernel
theorem dX5_isWhole_29 : decode cX5_isWhole 29 = .ok (.iaload, 1) := by decide +kernel
theorem dX5_isWhole_30 : decode cX5_isWhole 30 = .ok (.invokevirtual 25, 3) := by decide +kernel
theorem dX5_isWhole_33 : decode cX5_isWhole 33 = .ok (.ifCond .ne 5, 3) := by decide +kernel
theorem dX5_isWhole_36 : decode cX5_isWhole 36 = .ok (.iconst 0, 1) := by decide +kernel
theorem dX5_isWhole_37 : decode cX5_isWhole 37 = .ok (.ireturn, 1) := by decide +kernel
theorem dX5_isWhole_38 : decode cX5_isWhole 38 = .ok (.iinc 1 1, 3) := by decide +kernel
theorem dX5_isWhole_41 : decode cX5_isWhole 41 = .ok (.goto (-39), 3) := by decide +kernel
theorem dX5_isWhole_44 : decode cX5_isWhole 44 = .ok (.aload_n 0, 1) := by decide +kernel
theorem dX5_isWhole_45 : decode cX5_isWhole 45 = .ok (.getfield 21, 3) := by decide +kernel
theorem dX5_isWhole_48 : decode cX5_isWhole 48 = .ok (.ifCond .le 7, 3) := by decide +kernel
theorem dX5_isWhole_51 : decode cX5_isWhole 51 = .ok (.iconst 1, 1) := by decide +kernel
theorem dX5_isWhole_52 : decode cX5_isWhole 52 = .ok (.goto 4, 3) := by decide +kernel
theorem dX5_isWhole_55 : decode cX5_isWhole 55 = .ok (.iconst 0, 1) := by decide +kernel
theorem dX5_isWhole_56 : decode cX5_isWhole 56 = .ok (.ireturn, 1) := by decide +kernel
theorem e_X5_isWhole_44 (d : Nat) {l0 : Int} {m : Mem} {v : Int} {m' : Mem} (h : X5_isWhole_44 l0 m = some (v, m')) : Ex (d + 2) fm_X5_isWhole 44 [(15, l0), (3, 0)] [] m (.inl (0, v)) m' := by
  unfold X5_isWhole_44 at h
  refine x_aload_n dX5_isWhole_44 rfl rfl (Or.inr (by decide)) (?_ : Ex _ _ 45 _ _ _ _ _)
  obtain ⟨c1, h⟩ := chk_some h
  refine gt_5_3 c1 fl_RX5_21 dX5_isWhole_45 (?_ : Ex _ _ 48 _ _ _ _ _)
  rcases ite_some h with ⟨b2, h⟩ | ⟨b2, h⟩
  · refine x_if_le (tgt := 55) dX5_isWhole_48 rfl b2 (?_ : Ex _ _ 55 _ _ _ _ _)
    refine x_iconst dX5_isWhole_55 rfl (by decide) (?_ : Ex _ _ 56 _ _ _ _ _)
    cases h
    exact x_ret dX5_isWhole_56 (by decide : (0 : Int) ≠ 3)
  · refine x_if_leN dX5_isWhole_48 (by decide) b2 (?_ : Ex _ _ 51 _ _ _ _ _)
    refine x_iconst dX5_isWhole_51 rfl (by decide) (?_ : Ex _ _ 52 _ _ _ _ _)
    refine x_goto (tgt := 56) dX5_isWhole_52 rfl (?_ : Ex _ _ 56 _ _ _ _ _)
    cases h
    exact x_ret dX5_isWhole_56 (by decide : (0 : Int) ≠ 3)
theorem e_X5_isWhole_2 (d : Nat) {k44 : Int → Mem → Option R2} (hk44 : ∀ {l0 : Int} {m : Mem} {v : Int} {m' : Mem}, k44 l0 m = some (v, m') → Ex (d + 2) fm_X5_isWhole 44 [(15, l0), (3, 0)] [] m (.inl (0, v)) m') : ∀ (n : Nat) {l0 l1 : Int} {m : Mem} {v : Int} {m' : Mem}, X5_isWhole_2 k44 n l0 l1 m = some (v, m') → Ex (d + 2) fm_X5_isWhole 2 [(15, l0), (0, l1)] [] m (.inl (0, v)) m' := by
  intro n
  induction n with
  | zero =>
    intro l0 l1 m v m' h
    have h : (none : Option R2) = some _ := h
    cases h
  | succ n ih =>
    intro l0 l1 m v m' h
    rw [X5_isWhole_2] at h
    refine x_iload_n dX5_isWhole_2 rfl rfl (?_ : Ex _ _ 3 _ _ _ _ _)
    refine x_aload_n dX5_isWhole_3 rfl rfl (Or.inr (by decide)) (?_ : Ex _ _ 4 _ _ _ _ _)
    obtain ⟨c1, h⟩ := chk_some h
    refine gt_5_3 c1 fl_RX5_21 dX5_isWhole_4 (?_ : Ex _ _ 7 _ _ _ _ _)
    rcases ite_some h with ⟨b2, h⟩ | ⟨b2, h⟩
    · refine x_icmp_ge (tgt := 44) dX5_isWhole_7 rfl b2 (?_ : Ex _ _ 44 _ _ _ _ _)
      refine Ex.wk (ls2 := [(15, l0), (3, 0)]) ⟨Or.inr rfl, Or.inl rfl, trivial⟩ ?_
      exact hk44 h
    · refine x_icmp_geN dX5_isWhole_7 (by decide) b2 (?_ : Ex _ _ 10 _ _ _ _ _)
      refine x_iload_n dX5_isWhole_10 rfl rfl (?_ : Ex _ _ 11 _ _ _ _ _)
      refine x_bipush dX5_isWhole_11 kb_12 (by decide) (?_ : Ex _ _ 13 _ _ _ _ _)
      rcases ite_some h with ⟨b3, h⟩ | ⟨b3, h⟩
      · refine x_icmp_ge (tgt := 44) dX5_isWhole_13 rfl b3 (?_ : Ex _ _ 44 _ _ _ _ _)
        refine Ex.wk (ls2 := [(15, l0), (3, 0)]) ⟨Or.inr rfl, Or.inl rfl, trivial⟩ ?_
        exact hk44 h
      · refine x_icmp_geN dX5_isWhole_13 (by decide) b3 (?_ : Ex _ _ 16 _ _ _ _ _)
        refine x_aload_n dX5_isWhole_16 rfl rfl (Or.inr (by decide)) (?_ : Ex _ _ 17 _ _ _ _ _)
        refine x_iload_n dX5_isWhole_17 rfl rfl (?_ : Ex _ _ 18 _ _ _ _ _)
        refine x_aload_n dX5_isWhole_18 rfl rfl (Or.inr (by decide)) (?_ : Ex _ _ 19 _ _ _ _ _)
        refine gt_5_1 c1 fl_RX5_15 dX5_isWhole_19 (?_ : Ex _ _ 22 _ _ _ _ _)
        refine x_iload_n dX5_isWhole_22 rfl rfl (?_ : Ex _ _ 23 _ _ _ _ _)
        obtain ⟨⟨c4, c5, c6⟩, h⟩ := chk_some h
        refine ld_i_12 c4 c5 c6 dX5_isWhole_23 (?_ : Ex _ _ 24 _ _ _ _ _)
        refine x_aload_n dX5_isWhole_24 rfl rfl (Or.inr (by decide)) (?_ : Ex _ _ 25 _ _ _ _ _)
        refine gt_5_2 c1 fl_RX5_18 dX5_isWhole_25 (?_ : Ex _ _ 28 _ _ _ _ _)
        refine x_iload_n dX5_isWhole_28 rfl rfl (?_ : Ex _ _ 29 _ _ _ _ _)
        obtain ⟨⟨c7, c8, c9⟩, h⟩ := chk_some h
        refine ld_i_12 c7 c8 c9 dX5_isWhole_29 (?_ : Ex _ _ 30 _ _ _ _ _)
        obtain ⟨v10, m11, g12, h⟩ := cal_some h
        refine cV3 (e_X5_leadsWithin d g12) (contN (by decide) (?_ : Ex _ _ 33 _ _ _ _ _)) og_X5_leadsWithin rfl ml_RX5_25 5 rfl rfl c1 im_X5_leadsWithin se_X5_leadsWithin (Nat.le_of_ble_eq_true rfl) dX5_isWhole_30
        rcases ite_some h with ⟨b13, h⟩ | ⟨b13, h⟩
        · refine x_if_neN dX5_isWhole_33 (by decide) (fun hh => hh b13) (?_ : Ex _ _ 36 _ _ _ _ _)
          refine x_iconst dX5_isWhole_36 rfl (by decide) (?_ : Ex _ _ 37 _ _ _ _ _)
          cases h
          exact x_ret dX5_isWhole_37 (by decide : (0 : Int) ≠ 3)
        · refine x_if_ne (tgt := 38) dX5_isWhole_33 rfl b13 (?_ : Ex _ _ 38 _ _ _ _ _)
          obtain ⟨c14, h⟩ := chk_some h
          refine x_iinc (ls2 := [(15, l0), (0, (l1 + 1))]) dX5_isWhole_38 rfl c14 rfl (?_ : Ex _ _ 41 _ _ _ _ _)
          refine x_goto (tgt := 2) dX5_isWhole_41 rfl (?_ : Ex _ _ 2 _ _ _ _ _)
          exact ih h
theorem e_X5_isWhole_0 (d : Nat) {l0 : Int} {m : Mem} {v : Int} {m' : Mem} (h : X5_isWhole_0 l0 m = some (v, m')) : Ex (d + 2) fm_X5_isWhole 0 [(15, l0), (3, 0)] [] m (.inl (0, v)) m' := by
  unfold X5_isWhole_0 at h
  refine x_iconst dX5_isWhole_0 rfl (by decide) (?_ : Ex _ _ 1 _ _ _ _ _)
  refine x_istore_n (ls2 := [(15, l0), (0, 0)]) dX5_isWhole_1 rfl (Nat.le_of_ble_eq_true rfl) rfl (?_ : Ex _ _ 2 _ _ _ _ _)
  exact e_X5_isWhole_2 d (fun h => e_X5_isWhole_44 d h) fuel9 h
theorem e_X5_isWhole (d : Nat) {a0 : Int} {m : Mem} {v : Int} {m' : Mem} (h : X5_isWhole a0 m = some (v, m')) : ExM (d + 2) fm_X5_isWhole [(15, a0)] m (.inl (0, v)) m' := by
  obtain ⟨hb, h⟩ := boolR_some h
  exact ExM.of (by decide +kernel) (Nat.le_of_ble_eq_true rfl) (cat9 rfl) (retZ hb) (e_X5_isWhole_0 d h)
theorem dX6_init_0 : decode cX6_init 0 = .ok (.aload_n 0, 1) := by decide +kernel
theorem dX6_init_1 : decode cX6_init 1 = .ok (.invokespecial 3, 3) := by decide +kernel
theorem dX6_init_4 : decode cX6_init 4 = .ok (.aload_n 0, 1) := by decide +kernel
theorem dX6_init_5 : decode cX6_init 5 = .ok (.iconst 3, 1) := by decide +kernel
theorem dX6_init_6 : decode cX6_init 6 = .ok (.newarray .int, 2) := by decide +kernel
theorem dX6_init_8 : decode cX6_init 8 = .ok (.putfield 9, 3) := by decide +kernel
theorem dX6_init_11 : decode cX6_init 11 = .ok (.aload_n 0, 1) := by decide +kernel
theorem dX6_init_12 : decode cX6_init 12 = .ok (.bipush 9, 2) := by decide +kernel
theorem dX6_init_14 : decode cX6_init 14 = .ok (.putfield 15, 3) := by decide +kernel
theorem dX6_init_17 : decode cX6_init 17 = .ok (.return_, 1) := by decide +kernel
theorem e_X6_init_0 (d : Nat) {l0 : Int} {m : Mem} {v : Int} {m' : Mem} (h : X6_init_0 l0 m = some (v, m')) : Ex d fm_X6_init 0 [(16, l0)] [] m (.inl (3, 0)) m' := by
  unfold X6_init_0 at h
  refine x_aload_n dX6_init_0 rfl rfl (Or.inr (by decide)) (?_ : Ex _ _ 1 _ _ _ _ _)
  obtain ⟨c1, h⟩ := chk_some h
  refine x_objInit (by decide) c1 oi_RX6_3 oi_a oi_b (Nat.le_of_ble_eq_true rfl) dX6_init_1 (?_ : Ex _ _ 4 _ _ _ _ _)
  refine x_aload_n dX6_init_4 rfl rfl (Or.inr (by decide)) (?_ : Ex _ _ 5 _ _ _ _ _)
  refine x_iconst dX6_init_5 rfl (by decide) (?_ : Ex _ _ 6 _ _ _ _ _)
  obtain ⟨i2, hi2, h⟩ := vl_some h
  obtain ⟨⟨c3, c4⟩, h⟩ := chk_some h
  obtain ⟨m5, hm5, h⟩ := st_some h
  refine na_i_3 c3 c4 dX6_init_6 (?_ : Ex _ _ 8 _ _ _ _ _)
  rw [← hm5]
  obtain ⟨m6, hm6, h⟩ := st_some h
  refine pt_6_0 rfl rfl c1 fl_RX6_9 dX6_init_8 (?_ : Ex _ _ 11 _ _ _ _ _)
  rw [← hm6]
  refine x_aload_n dX6_init_11 rfl rfl (Or.inr (by decide)) (?_ : Ex _ _ 12 _ _ _ _ _)
  refine x_bipush dX6_init_12 kb_9 (by decide) (?_ : Ex _ _ 14 _ _ _ _ _)
  obtain ⟨m7, hm7, h⟩ := st_some h
  refine pt_6_1  c1 fl_RX6_15 dX6_init_14 (?_ : Ex _ _ 17 _ _ _ _ _)
  rw [← hm7]
  cases h
  exact x_retv dX6_init_17
theorem e_X6_init (d : Nat) {a0 : Int} {m : Mem} {v : Int} {m' : Mem} (h : X6_init a0 m = some (v, m')) : ExM d fm_X6_init [(16, a0)] m (.inl (3, 0)) m' := by
  exact ExM.of (by decide +kernel) (Nat.le_of_ble_eq_true rfl) (cat9 rfl) retV (e_X6_init_0 d h)
theorem dX6_countTaken_0 : decode cX6_countTaken 0 = .ok (.aload_n 0, 1) := by decide +kernel
theorem dX6_countTaken_1 : decode cX6_countTaken 1 = .ok (.dup, 1) := by decide +kernel
theorem dX6_countTaken_2 : decode cX6_countTaken 2 = .ok (.getfield 19, 3) := by decide +kernel
theorem dX6_countTaken_5 : decode cX6_countTaken 5 = .ok (.iconst 1, 1) := by decide +kernel
theorem dX6_countTaken_6 : decode cX6_countTaken 6 = .ok (.iadd, 1) := by decide +kernel
theorem dX6_countTaken_7 : decode cX6_countTaken 7 = .ok (.putfield 19, 3) := by decide +kernel
theorem dX6_countTaken_10 : decode cX6_countTaken 10 = .ok (.iload_n 1, 1) := by decide +kernel
theorem dX6_countTaken_11 : decode cX6_countTaken 11 = .ok (.ifCond .lt 18, 3) := by decide +kernel
theorem dX6_countTaken_14 : decode cX6_countTaken 14 = .ok (.iload_n 1, 1) := by decide +kernel
theorem dX6_countTaken_15 : decode cX6_countTaken 15 = .ok (.iconst 3, 1) := by decide +kernel
theorem dX6_countTaken_16 : decode cX6_countTaken 16 = .ok (.if_icmp .ge 13, 3) := by decide +kernel
theorem dX6_countTaken_19 : decode cX6_countTaken 19 = .ok (.aload_n 0, 1) := by decide +kernel
theorem dX6_countTaken_20 : decode cX6_countTaken 20 = .ok (.getfield 9, 3) := by decide +kernel
theorem dX6_countTaken_23 : decode cX6_countTaken 23 = .ok (.iload_n 1, 1) := by decide +kernel
theorem dX6_countTaken_24 : decode cX6_countTaken 24 = .ok (.dup2, 1) := by decide +kernel
theorem dX6_countTaken_25 : decode cX6_countTaken 25 = .ok (.iaload, 1) := by decide +kernel
theorem dX6_countTaken_26 : decode cX6_countTaken 26 = .ok (.iconst 1, 1) := by decide +kernel
theorem dX6_countTaken_27 : decode cX6_countTaken 27 = .ok (.iadd, 1) := by decide +kernel
theorem dX6_countTaken_28 : decode cX6_countTaken 28 = .ok (.iastore, 1) := by decide +kernel
theorem dX6_countTaken_29 : decode cX6_countTaken 29 = .ok (.return_, 1) := by decide +kernel
theorem e_X6_countTaken_0 (d : Nat) {l0 l1 : Int} {m : Mem} {v : Int} {m' : Mem} (h : X6_countTaken_0 l0 l1 m = some (v, m')) : Ex d fm_X6_countTaken 0 [(16, l0), (0, l1)] [] m (.inl (3, 0)) m' := by
  unfold X6_countTaken_0 at h
  refine x_aload_n dX6_countTaken_0 rfl rfl (Or.inr (by decide)) (?_ : Ex _ _ 1 _ _ _ _ _)
  refine x_dup (by decide : (16 : Int) ≠ 2) dX6_countTaken_1 (?_ : Ex _ _ 2 _ _ _ _ _)
  obtain ⟨c1, h⟩ := chk_some h
  refine gt_6_2 c1 fl_RX6_19 dX6_countTaken_2 (?_ : Ex _ _ 5 _ _ _ _ _)
  refine x_iconst dX6_countTaken_5 rfl (by decide) (?_ : Ex _ _ 6 _ _ _ _ _)
  obtain ⟨c2, h⟩ := chk_some h
  refine x_iadd dX6_countTaken_6 c2 (?_ : Ex _ _ 7 _ _ _ _ _)
  obtain ⟨m3, hm3, h⟩ := st_some h
  refine pt_6_2  c1 fl_RX6_19 dX6_countTaken_7 (?_ : Ex _ _ 10 _ _ _ _ _)
  rw [← hm3]
  refine x_iload_n dX6_countTaken_10 rfl rfl (?_ : Ex _ _ 11 _ _ _ _ _)
  rcases ite_some h with ⟨b4, h⟩ | ⟨b4, h⟩
  · refine x_if_lt (tgt := 29) dX6_countTaken_11 rfl b4 (?_ : Ex _ _ 29 _ _ _ _ _)
    cases h
    exact x_retv dX6_countTaken_29
  · refine x_if_ltN dX6_countTaken_11 (by decide) b4 (?_ : Ex _ _ 14 _ _ _ _ _)
    refine x_iload_n dX6_countTaken_14 rfl rfl (?_ : Ex _ _ 15 _ _ _ _ _)
    refine x_iconst dX6_countTaken_15 rfl (by decide) (?_ : Ex _ _ 16 _ _ _ _ _)
    rcases ite_some h with ⟨b5, h⟩ | ⟨b5, h⟩
    · refine x_icmp_ge (tgt := 29) dX6_countTaken_16 rfl b5 (?_ : Ex _ _ 29 _ _ _ _ _)
      cases h
      exact x_retv dX6_countTaken_29
    · refine x_icmp_geN dX6_countTaken_16 (by decide) b5 (?_ : Ex _ _ 19 _ _ _ _ _)
      refine x_aload_n dX6_countTaken_19 rfl rfl (Or.inr (by decide)) (?_ : Ex _ _ 20 _ _ _ _ _)
      refine gt_6_0 c1 fl_RX6_9 dX6_countTaken_20 (?_ : Ex _ _ 23 _ _ _ _ _)
      refine x_iload_n dX6_countTaken_23 rfl rfl (?_ : Ex _ _ 24 _ _ _ _ _)
      refine x_dup2 (by decide : (0 : Int) ≠ 2) (by decide : (100003 : Int) ≠ 2) dX6_countTaken_24 (?_ : Ex _ _ 25 _ _ _ _ _)
      obtain ⟨⟨c6, c7, c8⟩, h⟩ := chk_some h
      refine ld_i_3 c6 c7 c8 dX6_countTaken_25 (?_ : Ex _ _ 26 _ _ _ _ _)
      refine x_iconst dX6_countTaken_26 rfl (by decide) (?_ : Ex _ _ 27 _ _ _ _ _)
      obtain ⟨c9, h⟩ := chk_some h
      refine x_iadd dX6_countTaken_27 c9 (?_ : Ex _ _ 28 _ _ _ _ _)
      obtain ⟨⟨c10, c11⟩, h⟩ := chk_some h
      obtain ⟨m12, hm12, h⟩ := st_some h
      refine sd_i_3 c6 c10 c11 dX6_countTaken_28 (?_ : Ex _ _ 29 _ _ _ _ _)
      rw [← hm12]
      cases h
      exact x_retv dX6_countTaken_29
theorem e_X6_countTaken (d : Nat) {a0 a1 : Int} {m : Mem} {v : Int} {m' : Mem} (h : X6_countTaken a0 a1 m = some (v, m')) : ExM d fm_X6_countTaken [(16, a0), (0, a1)] m (.inl (3, 0)) m' := by
  exact ExM.of (by decide +kernel) (Nat.le_of_ble_eq_true rfl) (cat9 rfl) retV (e_X6_countTaken_0 d h)
theorem dX6_countOf_0 : decode cX6_countOf 0 = .ok (.iload_n 1, 1) := by decide +kernel
theorem dX6_countOf_1 : decode cX6_countOf 1 = .ok (.ifCond .lt 17, 3) := by decide +kernel
theorem dX6_countOf_4 : decode cX6_countOf 4 = .ok (.iload_n 1, 1) := by decide +kernel
theorem dX6_countOf_5 : decode cX6_countOf 5 = .ok (.iconst 3, 1) := by decide +kernel
theorem dX6_countOf_6 : decode cX6_countOf 6 = .ok (.if_icmp .ge 12, 3) := by decide +kernel
theorem dX6_countOf_9 : decode cX6_countOf 9 = .ok (.aload_n 0, 1) := by decide +kernel
theorem dX6_countOf_10 : decode cX6_countOf 10 = .ok (.getfield 9, 3) := by decide +kernel
theorem dX6_countOf_13 : decode cX6_countOf 13 = .ok (.iload_n 1, 1) := by decide +kernel
theorem dX6_countOf_14 : decode cX6_countOf 14 = .ok (.iaload, 1) := by decide +kernel
theorem dX6_countOf_15 : decode cX6_countOf 15 = .ok (.goto 4, 3) := by decide +kernel
theorem dX6_countOf_18 : decode cX6_countOf 18 = .ok (.iconst 0, 1) := by decide +kernel
theorem dX6_countOf_19 : decode cX6_countOf 19 = .ok (.ireturn, 1) := by decide +kernel
theorem e_X6_countOf_0 (d : Nat) {l0 l1 : Int} {m : Mem} {v : Int} {m' : Mem} (h : X6_countOf_0 l0 l1 m = some (v, m')) : Ex d fm_X6_countOf 0 [(16, l0), (0, l1)] [] m (.inl (0, v)) m' := by
  unfold X6_countOf_0 at h
  refine x_iload_n dX6_countOf_0 rfl rfl (?_ : Ex _ _ 1 _ _ _ _ _)
  rcases ite_some h with ⟨b1, h⟩ | ⟨b1, h⟩
  · refine x_if_lt (tgt := 18) dX6_countOf_1 rfl b1 (?_ : Ex _ _ 18 _ _ _ _ _)
    refine x_iconst dX6_countOf_18 rfl (by decide) (?_ : Ex _ _ 19 _ _ _ _ _)
    cases h
    exact x_ret dX6_countOf_19 (by decide : (0 : Int) ≠ 3)
  · refine x_if_ltN dX6_countOf_1 (by decide) b1 (?_ : Ex _ _ 4 _ _ _ _ _)
    refine x_iload_n dX6_countOf_4 rfl rfl (?_ : Ex _ _ 5 _ _ _ _ _)
    refine x_iconst dX6_countOf_5 rfl (by decide) (?_ : Ex _ _ 6 _ _ _ _ _)
    rcases ite_some h with ⟨b2, h⟩ | ⟨b2, h⟩
    · refine x_icmp_ge (tgt := 18) dX6_countOf_6 rfl b2 (?_ : Ex _ _ 18 _ _ _ _ _)
      refine x_iconst dX6_countOf_18 rfl (by decide) (?_ : Ex _ _ 19 _ _ _ _ _)
      cases h
      exact x_ret dX6_countOf_19 (by decide : (0 : Int) ≠ 3)
    · refine x_icmp_geN dX6_countOf_6 (by decide) b2 (?_ : Ex _ _ 9 _ _ _ _ _)
      refine x_aload_n dX6_countOf_9 rfl rfl (Or.inr (by decide)) (?_ : Ex _ _ 10 _ _ _ _ _)
      obtain ⟨c3, h⟩ := chk_some h
      refine gt_6_0 c3 fl_RX6_9 dX6_countOf_10 (?_ : Ex _ _ 13 _ _ _ _ _)
      refine x_iload_n dX6_countOf_13 rfl rfl (?_ : Ex _ _ 14 _ _ _ _ _)
      obtain ⟨⟨c4, c5, c6⟩, h⟩ := chk_some h
      refine ld_i_3 c4 c5 c6 dX6_countOf_14 (?_ : Ex _ _ 15 _ _ _ _ _)
      refine x_goto (tgt := 19) dX6_countOf_15 rfl (?_ : Ex _ _ 19 _ _ _ _ _)
      cases h
      exact x_ret dX6_countOf_19 (by decide : (0 : Int) ≠ 3)
theorem e_X6_countOf (d : Nat) {a0 a1 : Int} {m : Mem} {v : Int} {m' : Mem} (h : X6_countOf a0 a1 m = some (v, m')) : ExM d fm_X6_countOf [(16, a0), (0, a1)] m (.inl (0, v)) m' := by
  exact ExM.of (by decide +kernel) (Nat.le_of_ble_eq_true rfl) (cat9 rfl) retI (e_X6_countOf_0 d h)
theorem dX6_prefers_0 : decode cX6_prefers 0 = .ok (.aload_n 0, 1) := by decide +kernel
theorem dX6_prefers_1 : decode cX6_prefers 1 = .ok (.aload_n 1, 1) := by decide +kernel
theorem dX6_prefers_2 : decode cX6_prefers 2 = .ok (.getfield 22, 3) := by decide +kernel
theorem dX6_prefers_5 : decode cX6_prefers 5 = .ok (.invokevirtual 27, 3) := by decide +kernel
theorem dX6_prefers_8 : decode cX6_prefers 8 = .ok (.aload_n 0, 1) := by decide +kernel
theorem dX6_prefers_9 : decode cX6_prefers 9 = .ok (.aload_n 2, 1) := by decide +kernel
theorem dX6_prefers_10 : decode cX6_prefers 10 = .ok (.getfield 22, 3) := by decide +kernel
theorem dX6_prefers_13 : decode cX6_prefers 13 = .ok (.invokevirtual 27, 3) := by decide +kernel
theorem dX6_prefers_16 : decode cX6_prefers 16 = .ok (.if_icmp .eq 28, 3) := by decide +kernel
theorem dX6_prefers_19 : decode cX6_prefers 19 = .ok (.aload_n 0, 1) := by decide +kernel
theorem dX6_prefers_20 : decode cX6_prefers 20 = .ok (.aload_n 1, 1) := by decide +kernel
theorem dX6_prefers_21 : decode cX6_prefers 21 = .ok (.getfield 22, 3) := by decide +kernel
theorem dX6_prefers_24 : decode cX6_prefers 24 = .ok (.invokevirtual 27, 3) := by decide +kernel
theorem dX6_prefers_27 : decode cX6_prefers 27 = .ok (.aload_n 0, 1) := by decide +kernel
theorem dX6_prefers_28 : decode cX6_prefers 28 = .ok (.aload_n 2, 1) := by decide +kernel
theorem dX6_prefers_29 : decode cX6_prefers 29 = .ok (.getfield 22, 3) := by decide +kernel
theorem dX6_prefers_32 : decode cX6_prefers 32 = .ok (.invokevirtual 27, 3) := by decide +kernel
theorem dX6_prefers_35 : decode cX6_prefers 35 = .ok (.if_icmp .ge 7, 3) := by decide +kernel
theorem dX6_prefers_38 : decode cX6_prefers 38 = .ok (.iconst 1, 1) := by decide +kernel
theorem dX6_prefers_39 : decode cX6_prefers 39 = .ok (.goto 4, 3) := by decide +kernel
theorem dX6_prefers_42 : decode cX6_prefers 42 = .ok (.iconst 0, 1) := by decide +kernel
theorem dX6_prefers_43 : decode cX6_prefers 43 = .ok (.ireturn, 1) := by decide +kernel
theorem dX6_prefers_44 : decode cX6_prefers 44 = .ok (.aload_n 1, 1) := by decide +kernel
theorem dX6_prefers_45 : decode cX6_prefers 45 = .ok (.getfield 22, 3) := by decide +kernel
theorem dX6_prefers_48 : decode cX6_prefers 48 = .ok (.aload_n 2, 1) := by decide +kernel
theorem dX6_prefers_49 : decode cX6_prefers 49 = .ok (.getfield 22, 3) := by decide +kernel
theorem dX6_prefers_52 : decode cX6_prefers 52 = .ok (.if_icmp .eq 20, 3) := by decide +kernel
theorem dX6_prefers_55 : decode cX6_prefers 55 = .ok (.aload_n 1, 1) := by decide +kernel
theorem dX6_prefers_56 : decode cX6_prefers 56 = .ok (.getfield 22, 3) := by decide +kernel
theorem dX6_prefers_59 : decode cX6_prefers 59 = .ok (.aload_n 2, 1) := by decide +kernel
theorem dX6_prefers_60 : decode cX6_prefers 60 = .ok (.getfield 22, 3) := by decide +kernel
theorem dX6_prefers_63 : decode cX6_prefers 63 = .ok (.if_icmp .ge 7, 3) := by decide +kernel
theorem dX6_prefers_66 : decode cX6_prefers 66 = .ok (.iconst 1, 1) := by decide +kernel
theorem dX6_prefers_67 : decode cX6_prefers 67 = .ok (.goto 4, 3) := by decide +kernel
theorem dX6_prefers_70 : decode cX6_prefers 70 = .ok (.iconst 0, 1) := by decide +kernel
theorem dX6_prefers_71 : decode cX6_prefers 71 = .ok (.ireturn, 1) := by decide +kernel
theorem dX6_prefers_72 : decode cX6_prefers 72 = .ok (.aload_n 1, 1) := by decide +kernel
theorem dX6_prefers_73 : decode cX6_prefers 73 = .ok (.getfield 31, 3) := by decide +kernel
theorem dX6_prefers_76 : decode cX6_prefers 76 = .ok (.aload_n 2, 1) := by decide +kernel
theorem dX6_prefers_77 : decode cX6_prefers 77 = .ok (.getfield 31, 3) := by decide +kernel
theorem dX6_prefers_80 : decode cX6_prefers 80 = .ok (.if_icmp .eq 20, 3) := by decide +kernel
theorem dX6_prefers_83 : decode cX6_prefers 83 = .ok (.aload_n 1, 1) := by decide +kernel
theorem dX6_prefers_84 : decode cX6_prefers 84 = .ok (.getfield 31, 3) := by decide +kernel
theorem dX6_prefers_87 : decode cX6_prefers 87 = .ok (.aload_n 2, 1) := by decide +kernel
theorem dX6_prefers_88 : decode cX6_prefers 88 = .ok (.getfield 31, 3) := by decide +kernel
theorem dX6_prefers_91 : decode cX6_prefers 91 = .ok (.if_icmp .ge 7, 3) := by decide +kernel
theorem dX6_prefers_94 : decode cX6_prefers 94 = .ok (.iconst 1, 1) := by decide +kernel
theorem dX6_prefers_95 : decode cX6_prefers 95 = .ok (.goto 4, 3) := by decide +kernel
theorem dX6_prefers_98 : decode cX6_prefers 98 = .ok (.iconst 0, 1) := by decide +kernel
theorem dX6_prefers_99 : decode cX6_prefers 99 = .ok (.ireturn, 1) := by decide +kernel
theorem dX6_prefers_100 : decode cX6_prefers 100 = .ok (.aload_n 1, 1) := by decide +kernel
theorem dX6_prefers_101 : decode cX6_prefers 101 = .ok (.getfield 34, 3) := by decide +kernel
theorem dX6_prefers_104 : decode cX6_prefers 104 = .ok (.aload_n 2, 1) := by decide +kernel
theorem dX6_prefers_105 : decode cX6_prefers 105 = .ok (.getfield 34, 3) := by decide +kernel
theorem dX6_prefers_108 : decode cX6_prefers 108 = .ok (.if_icmp .ge 7, 3) := by decide +kernel
theorem dX6_prefers_111 : decode cX6_prefers 111 = .ok (.iconst 1, 1) := by decide +kernel
theorem dX6_prefers_112 : decode cX6_prefers 112 = .ok (.goto 4, 3) := by decide +kernel
theorem dX6_prefers_115 : decode cX6_prefers 115 = .ok (.iconst 0, 1) := by decide +kernel
theorem dX6_prefers_116 : decode cX6_prefers 116 = .ok (.ireturn, 1) := by decide +kernel
theorem e_X6_prefers_0 (d : Nat) {l0 l1 l2 : Int} {m : Mem} {v : Int} {m' : Mem} (h : X6_prefers_0 l0 l1 l2 m = some (v, m')) : Ex (d + 1) fm_X6_prefers 0 [(16, l0), (10, l1), (10, l2)] [] m (.inl (0, v)) m' := by
  unfold X6_prefers_0 at h
  refine x_aload_n dX6_prefers_0 rfl rfl (Or.inr (by decide)) (?_ : Ex _ _ 1 _ _ _ _ _)
  refine x_aload_n dX6_prefers_1 rfl rfl (Or.inr (by decide)) (?_ : Ex _ _ 2 _ _ _ _ _)
  obtain ⟨c1, h⟩ := chk_some h
  refine gt_0_3 c1 fl_RX6_22 dX6_prefers_2 (?_ : Ex _ _ 5 _ _ _ _ _)
  obtain ⟨c2, h⟩ := chk_some h
  obtain ⟨v3, m4, g5, h⟩ := cal_some h
  refine cV1 (e_X6_countOf d g5) (contN (by decide) (?_ : Ex _ _ 8 _ _ _ _ _)) og_X6_countOf rfl ml_RX6_27 6 rfl rfl c2 im_X6_countOf se_X6_countOf (Nat.le_of_ble_eq_true rfl) dX6_prefers_5
  refine x_aload_n dX6_prefers_8 rfl rfl (Or.inr (by decide)) (?_ : Ex _ _ 9 _ _ _ _ _)
  refine x_aload_n dX6_prefers_9 rfl rfl (Or.inr (by decide)) (?_ : Ex _ _ 10 _ _ _ _ _)
  obtain ⟨c6, h⟩ := chk_some h
  refine gt_0_3 c6 fl_RX6_22 dX6_prefers_10 (?_ : Ex _ _ 13 _ _ _ _ _)
  obtain ⟨v7, m8, g9, h⟩ := cal_some h
  refine cV1 (e_X6_countOf d g9) (contN (by decide) (?_ : Ex _ _ 16 _ _ _ _ _)) og_X6_countOf rfl ml_RX6_27 6 rfl rfl c2 im_X6_countOf se_X6_countOf (Nat.le_of_ble_eq_true rfl) dX6_prefers_13
  rcases ite_some h with ⟨b10, h⟩ | ⟨b10, h⟩
  · refine x_icmp_eq (tgt := 44) dX6_prefers_16 rfl b10 (?_ : Ex _ _ 44 _ _ _ _ _)
    refine x_aload_n dX6_prefers_44 rfl rfl (Or.inr (by decide)) (?_ : Ex _ _ 45 _ _ _ _ _)
    refine gt_0_3 c1 fl_RX6_22 dX6_prefers_45 (?_ : Ex _ _ 48 _ _ _ _ _)
    refine x_aload_n dX6_prefers_48 rfl rfl (Or.inr (by decide)) (?_ : Ex _ _ 49 _ _ _ _ _)
    refine gt_0_3 c6 fl_RX6_22 dX6_prefers_49 (?_ : Ex _ _ 52 _ _ _ _ _)
    rcases ite_some h with ⟨b11, h⟩ | ⟨b11, h⟩
    · refine x_icmp_eq (tgt := 72) dX6_prefers_52 rfl b11 (?_ : Ex _ _ 72 _ _ _ _ _)
      refine x_aload_n dX6_prefers_72 rfl rfl (Or.inr (by decide)) (?_ : Ex _ _ 73 _ _ _ _ _)
      refine gt_0_7 c1 fl_RX6_31 dX6_prefers_73 (?_ : Ex _ _ 76 _ _ _ _ _)
      refine x_aload_n dX6_prefers_76 rfl rfl (Or.inr (by decide)) (?_ : Ex _ _ 77 _ _ _ _ _)
      refine gt_0_7 c6 fl_RX6_31 dX6_prefers_77 (?_ : Ex _ _ 80 _ _ _ _ _)
      rcases ite_some h with ⟨b12, h⟩ | ⟨b12, h⟩
      · refine x_icmp_eq (tgt := 100) dX6_prefers_80 rfl b12 (?_ : Ex _ _ 100 _ _ _ _ _)
        refine x_aload_n dX6_prefers_100 rfl rfl (Or.inr (by decide)) (?_ : Ex _ _ 101 _ _ _ _ _)
        refine gt_0_4 c1 fl_RX6_34 dX6_prefers_101 (?_ : Ex _ _ 104 _ _ _ _ _)
        refine x_aload_n dX6_prefers_104 rfl rfl (Or.inr (by decide)) (?_ : Ex _ _ 105 _ _ _ _ _)
        refine gt_0_4 c6 fl_RX6_34 dX6_prefers_105 (?_ : Ex _ _ 108 _ _ _ _ _)
        rcases ite_some h with ⟨b13, h⟩ | ⟨b13, h⟩
        · refine x_icmp_ge (tgt := 115) dX6_prefers_108 rfl b13 (?_ : Ex _ _ 115 _ _ _ _ _)
          refine x_iconst dX6_prefers_115 rfl (by decide) (?_ : Ex _ _ 116 _ _ _ _ _)
          cases h
          exact x_ret dX6_prefers_116 (by decide : (0 : Int) ≠ 3)
        · refine x_icmp_geN dX6_prefers_108 (by decide) b13 (?_ : Ex _ _ 111 _ _ _ _ _)
          refine x_iconst dX6_prefers_111 rfl (by decide) (?_ : Ex _ _ 112 _ _ _ _ _)
          refine x_goto (tgt := 116) dX6_prefers_112 rfl (?_ : Ex _ _ 116 _ _ _ _ _)
          cases h
          exact x_ret dX6_prefers_116 (by decide : (0 : Int) ≠ 3)
      · refine x_icmp_eqN dX6_prefers_80 (by decide) b12 (?_ : Ex _ _ 83 _ _ _ _ _)
        refine x_aload_n dX6_prefers_83 rfl rfl (Or.inr (by decide)) (?_ : Ex _ _ 84 _ _ _ _ _)
        refine gt_0_7 c1 fl_RX6_31 dX6_prefers_84 (?_ : Ex _ _ 87 _ _ _ _ _)
        refine x_aload_n dX6_prefers_87 rfl rfl (Or.inr (by decide)) (?_ : Ex _ _ 88 _ _ _ _ _)
        refine gt_0_7 c6 fl_RX6_31 dX6_prefers_88 (?_ : Ex _ _ 91 _ _ _ _ _)
        rcases ite_some h with ⟨b14, h⟩ | ⟨b14, h⟩
        · refine x_icmp_ge (tgt := 98) dX6_prefers_91 rfl b14 (?_ : Ex _ _ 98 _ _ _ _ _)
          refine x_iconst dX6_prefers_98 rfl (by decide) (?_ : Ex _ _ 99 _ _ _ _ _)
          cases h
          exact x_ret dX6_prefers_99 (by decide : (0 : Int) ≠ 3)
        · refine x_icmp_geN dX6_prefers_91 (by decide) b14 (?_ : Ex _ _ 94 _ _ _ _ _)
          refine x_iconst dX6_prefers_94 rfl (by decide) (?_ : Ex _ _ 95 _ _ _ _ _)
          refine x_goto (tgt := 99) dX6_prefers_95 rfl (?_ : Ex _ _ 99 _ _ _ _ _)
          cases h
          exact x_ret dX6_prefers_99 (by decide : (0 : Int) ≠ 3)
    · refine x_icmp_eqN dX6_prefers_52 (by decide) b11 (?_ : Ex _ _ 55 _ _ _ _ _)
      refine x_aload_n dX6_prefers_55 rfl rfl (Or.inr (by decide)) (?_ : Ex _ _ 56 _ _ _ _ _)
      refine gt_0_3 c1 fl_RX6_22 dX6_prefers_56 (?_ : Ex _ _ 59 _ _ _ _ _)
      refine x_aload_n dX6_prefers_59 rfl rfl (Or.inr (by decide)) (?_ : Ex _ _ 60 _ _ _ _ _)
      refine gt_0_3 c6 fl_RX6_22 dX6_prefers_60 (?_ : Ex _ _ 63 _ _ _ _ _)
      rcases ite_some h with ⟨b15, h⟩ | ⟨b15, h⟩
      · refine x_icmp_ge (tgt := 70) dX6_prefers_63 rfl b15 (?_ : Ex _ _ 70 _ _ _ _ _)
        refine x_iconst dX6_prefers_70 rfl (by decide) (?_ : Ex _ _ 71 _ _ _ _ _)
        cases h
        exact x_ret dX6_prefers_71 (by decide : (0 : Int) ≠ 3)
      · refine x_icmp_geN dX6_prefers_63 (by decide) b15 (?_ : Ex _ _ 66 _ _ _ _ _)
        refine x_iconst dX6_prefers_66 rfl (by decide) (?_ : Ex _ _ 67 _ _ _ _ _)
        refine x_goto (tgt := 71) dX6_prefers_67 rfl (?_ : Ex _ _ 71 _ _ _ _ _)
        cases h
        exact x_ret dX6_prefers_71 (by decide : (0 : Int) ≠ 3)
  · refine x_icmp_eqN dX6_prefers_16 (by decide) b10 (?_ : Ex _ _ 19 _ _ _ _ _)
    refine x_aload_n dX6_prefers_19 rfl rfl (Or.inr (by decide)) (?_ : Ex _ _ 20 _ _ _ _ _)
    refine x_aload_n dX6_prefers_20 rfl rfl (Or.inr (by decide)) (?_ : Ex _ _ 21 _ _ _ _ _)
    refine gt_0_3 c1 fl_RX6_22 dX6_prefers_21 (?_ : Ex _ _ 24 _ _ _ _ _)
    obtain ⟨v16, m17, g18, h⟩ := cal_some h
    refine cV1 (e_X6_countOf d g18) (contN (by decide) (?_ : Ex _ _ 27 _ _ _ _ _)) og_X6_countOf rfl ml_RX6_27 6 rfl rfl c2 im_X6_countOf se_X6_countOf (Nat.le_of_ble_eq_true rfl) dX6_prefers_24
    refine x_aload_n dX6_prefers_27 rfl rfl (Or.inr (by decide)) (?_ : Ex _ _ 28 _ _ _ _ _)
    refine x_aload_n dX6_prefers_28 rfl rfl (Or.inr (by decide)) (?_ : Ex _ _ 29 _ _ _ _ _)
    refine gt_0_3 c6 fl_RX6_22 dX6_prefers_29 (?_ : Ex _ _ 32 _ _ _ _ _)
    obtain ⟨v19, m20, g21, h⟩ := cal_some h
    refine cV1 (e_X6_countOf d g21) (contN (by decide) (?_ : Ex _ _ 35 _ _ _ _ _)) og_X6_countOf rfl ml_RX6_27 6 rfl rfl c2 im_X6_countOf se_X6_countOf (Nat.le_of_ble_eq_true rfl) dX6_prefers_32
    rcases ite_some h with ⟨b22, h⟩ | ⟨b22, h⟩
    · refine x_icmp_ge (tgt := 42) dX6_prefers_35 rfl b22 (?_ : Ex _ _ 42 _ _ _ _ _)
      refine x_iconst dX6_prefers_42 rfl (by decide) (?_ : Ex _ _ 43 _ _ _ _ _)
      cases h
      exact x_ret dX6_prefers_43 (by decide : (0 : Int) ≠ 3)
    · refine x_icmp_geN dX6_prefers_35 (by decide) b22 (?_ : Ex _ _ 38 _ _ _ _ _)
      refine x_iconst dX6_prefers_38 rfl (by decide) (?_ : Ex _ _ 39 _ _ _ _ _)
      refine x_goto (tgt := 43) dX6_prefers_39 rfl (?_ : Ex _ _ 43 _ _ _ _ _)
      cases h
      exact x_ret dX6_prefers_43 (by decide : (0 : Int) ≠ 3)
theorem e_X6_prefers (d : Nat) {a0 a1 a2 : Int} {m : Mem} {v : Int} {m' : Mem} (h : X6_prefers a0 a1 a2 m = some (v, m')) : ExM (d + 1) fm_X6_prefers [(16, a0), (10, a1), (10, a2)] m (.inl (0, v)) m' := by
  obtain ⟨hb, h⟩ := boolR_some h
  exact ExM.of (by decide +kernel) (Nat.le_of_ble_eq_true rfl) (cat9 rfl) (retZ hb) (e_X6_prefers_0 d h)
theorem dX7_init_0 : decode cX7_init 0 = .ok (.aload_n 0, 1) := by decide +kernel
theorem dX7_init_1 : decode cX7_init 1 = .ok (.invokespecial 3, 3) := by decide +kernel
theorem dX7_init_4 : decode cX7_init 4 = .ok (.aload_n 0, 1) := by decide +kernel
theorem dX7_init_5 : decode cX7_init 5 = .ok (.new 9, 3) := by decide +kernel
theorem dX7_init_8 : decode cX7_init 8 = .ok (.dup, 1) := by decide +kernel
theorem dX7_init_9 : decode cX7_init 9 = .ok (.invokespecial 11, 3) := by decide +kernel
theorem dX7_init_12 : decode cX7_init 12 = .ok (.putfield 12, 3) := by decide +kernel
theorem dX7_init_15 : decode cX7_init 15 = .ok (.aload_n 0, 1) := by decide +kernel
theorem dX7_init_16 : decode cX7_init 16 = .ok (.bipush 80, 2) := by decide +kernel
theorem dX7_init_18 : decode cX7_init 18 = .ok (.anewarray 18, 3) := by decide +kernel
theorem dX7_init_21 : decode cX7_init 21 = .ok (.putfield 20, 3) := by decide +kernel
theorem dX7_init_24 : decode cX7_init 24 = .ok (.aload_n 0, 1) := by decide +kernel
theorem dX7_init_25 : decode cX7_init 25 = .ok (.bipush 80, 2) := by decide +kernel
theorem dX7_init_27 : decode cX7_init 27 = .ok (.newarray .int, 2) := by decide +kernel
theorem dX7_init_29 : decode cX7_init 29 = .ok (.putfield 24, 3) := by decide +kernel
theorem dX7_init_32 : decode cX7_init 32 = .ok (.aload_n 0, 1) := by decide +kernel
theorem dX7_init_33 : decode cX7_init 33 = .ok (.bipush 20, 2) := by decide +kernel
theorem dX7_init_35 : decode cX7_init 35 = .ok (.putfield 28, 3) := by decide +kernel
theorem dX7_init_38 : decode cX7_init 38 = .ok (.aload_n 0, 1) := by decide +kernel
theorem dX7_init_39 : decode cX7_init 39 = .ok (.iconst (-1), 1) := by decide +kernel
theorem dX7_init_40 : decode cX7_init 40 = .ok (.putfield 32, 3) := by decide +kernel
theorem dX7_init_43 : decode cX7_init 43 = .ok (.aload_n 0, 1) := by decide +kernel
theorem dX7_init_44 : decode cX7_init 44 = .ok (.getfield 12, 3) := by decide +kernel
theorem dX7_init_47 : decode cX7_init 47 = .ok (.iconst 0, 1) := by decide +kernel
theorem dX7_init_48 : decode cX7_init 48 = .ok (.iload_n 1, 1) := by decide +kernel
theorem dX7_init_49 : decode cX7_init 49 = .ok (.iconst 0, 1) := by decide +kernel
theorem dX7_init_50 : decode cX7_init 50 = .ok (.invokevirtual 35, 3) := by decide +kernel
theorem dX7_init_53 : decode cX7_init 53 = .ok (.return_, 1) := by decide +kernel
theorem e_X7_init_0 (d : Nat) {l0 l1 : Int} {m : Mem} {v : Int} {m' : Mem} (h : X7_init_0 l0 l1 m = some (v, m')) : Ex (d + 1) fm_X7_init 0 [(17, l0), (0, l1)] [] m (.inl (3, 0)) m' := by
  unfold X7_init_0 at h
  refine x_aload_n dX7_init_0 rfl rfl (Or.inr (by decide)) (?_ : Ex _ _ 1 _ _ _ _ _)
  obtain ⟨c1, h⟩ := chk_some h
  refine x_objInit (by decide) c1 oi_RX7_3 oi_a oi_b (Nat.le_of_ble_eq_true rfl) dX7_init_1 (?_ : Ex _ _ 4 _ _ _ _ _)
  refine x_aload_n dX7_init_4 rfl rfl (Or.inr (by decide)) (?_ : Ex _ _ 5 _ _ _ _ _)
  obtain ⟨i2, hi2, h⟩ := vl_some h
  obtain ⟨⟨c3, c4⟩, h⟩ := chk_some h
  obtain ⟨m5, hm5, h⟩ := st_some h
  refine nw_3 c3 c4 cl_RX7_9 dX7_init_5 (?_ : Ex _ _ 8 _ _ _ _ _)
  rw [← hm5]
  refine x_dup (by decide : (13 : Int) ≠ 2) dX7_init_8 (?_ : Ex _ _ 9 _ _ _ _ _)
  obtain ⟨v6, m7, g8, h⟩ := cal_some h
  refine cN0 (e_X3_init d g8) (contV (?_ : Ex _ _ 12 _ _ _ _ _)) og_X3_init rfl nl_RX7_11 rfl rfl (by decide) c3 im_X3_init (Nat.le_of_ble_eq_true rfl) dX7_init_9
  obtain ⟨m9, hm9, h⟩ := st_some h
  refine pt_7_0 rfl rfl c1 fl_RX7_12 dX7_init_12 (?_ : Ex _ _ 15 _ _ _ _ _)
  rw [← hm9]
  refine x_aload_n dX7_init_15 rfl rfl (Or.inr (by decide)) (?_ : Ex _ _ 16 _ _ _ _ _)
  refine x_bipush dX7_init_16 kb_80 (by decide) (?_ : Ex _ _ 18 _ _ _ _ _)
  obtain ⟨i10, hi10, h⟩ := vl_some h
  obtain ⟨⟨c11, c12⟩, h⟩ := chk_some h
  obtain ⟨m13, hm13, h⟩ := st_some h
  refine nq_0_80 c11 c12 cl_RX7_18 dX7_init_18 (?_ : Ex _ _ 21 _ _ _ _ _)
  rw [← hm13]
  obtain ⟨m14, hm14, h⟩ := st_some h
  refine pt_7_1 rfl rfl c1 fl_RX7_20 dX7_init_21 (?_ : Ex _ _ 24 _ _ _ _ _)
  rw [← hm14]
  refine x_aload_n dX7_init_24 rfl rfl (Or.inr (by decide)) (?_ : Ex _ _ 25 _ _ _ _ _)
  refine x_bipush dX7_init_25 kb_80 (by decide) (?_ : Ex _ _ 27 _ _ _ _ _)
  obtain ⟨i15, hi15, h⟩ := vl_some h
  obtain ⟨⟨c16, c17⟩, h⟩ := chk_some h
  obtain ⟨m18, hm18, h⟩ := st_some h
  refine na_i_80 c16 c17 dX7_init_27 (?_ : Ex _ _ 29 _ _ _ _ _)
  rw [← hm18]
  obtain ⟨m19, hm19, h⟩ := st_some h
  refine pt_7_2 rfl rfl c1 fl_RX7_24 dX7_init_29 (?_ : Ex _ _ 32 _ _ _ _ _)
  rw [← hm19]
  refine x_aload_n dX7_init_32 rfl rfl (Or.inr (by decide)) (?_ : Ex _ _ 33 _ _ _ _ _)
  refine x_bipush dX7_init_33 kb_20 (by decide) (?_ : Ex _ _ 35 _ _ _ _ _)
  obtain ⟨m20, hm20, h⟩ := st_some h
  refine pt_7_7  c1 fl_RX7_28 dX7_init_35 (?_ : Ex _ _ 38 _ _ _ _ _)
  rw [← hm20]
  refine x_aload_n dX7_init_38 rfl rfl (Or.inr (by decide)) (?_ : Ex _ _ 39 _ _ _ _ _)
  refine x_iconst dX7_init_39 rfl (by decide) (?_ : Ex _ _ 40 _ _ _ _ _)
  obtain ⟨m21, hm21, h⟩ := st_some h
  refine pt_7_9  c1 fl_RX7_32 dX7_init_40 (?_ : Ex _ _ 43 _ _ _ _ _)
  rw [← hm21]
  refine x_aload_n dX7_init_43 rfl rfl (Or.inr (by decide)) (?_ : Ex _ _ 44 _ _ _ _ _)
  refine gt_7_0 c1 fl_RX7_12 dX7_init_44 (?_ : Ex _ _ 47 _ _ _ _ _)
  refine x_iconst dX7_init_47 rfl (by decide) (?_ : Ex _ _ 48 _ _ _ _ _)
  refine x_iload_n dX7_init_48 rfl rfl (?_ : Ex _ _ 49 _ _ _ _ _)
  refine x_iconst dX7_init_49 rfl (by decide) (?_ : Ex _ _ 50 _ _ _ _ _)
  obtain ⟨c22, h⟩ := chk_some h
  obtain ⟨v23, m24, g25, h⟩ := cal_some h
  refine cV3 (e_X3_put d g25) (contV (?_ : Ex _ _ 53 _ _ _ _ _)) og_X3_put rfl ml_RX7_35 3 rfl rfl c22 im_X3_put se_X3_put (Nat.le_of_ble_eq_true rfl) dX7_init_50
  cases h
  exact x_retv dX7_init_53
theorem e_X7_init (d : Nat) {a0 a1 : Int} {m : Mem} {v : Int} {m' : Mem} (h : X7_init a0 a1 m = some (v, m')) : ExM (d + 1) fm_X7_init [(17, a0), (0, a1)] m (.inl (3, 0)) m' := by
  exact ExM.of (by decide +kernel) (Nat.le_of_ble_eq_true rfl) (cat9 rfl) retV (e_X7_init_0 d h)
theorem dX7_tellUnmade_0 : decode cX7_tellUnmade 0 = .ok (.aload_n 0, 1) := by decide +kernel
theorem dX7_tellUnmade_1 : decode cX7_tellUnmade 1 = .ok (.getfield 50, 3) := by decide +kernel
theorem dX7_tellUnmade_4 : decode cX7_tellUnmade 4 = .ok (.aload_n 0, 1) := by decide +kernel
theorem dX7_tellUnmade_5 : decode cX7_tellUnmade 5 = .ok (.getfield 53, 3) := by decide +kernel
theorem dX7_tellUnmade_8 : decode cX7_tellUnmade 8 = .ok (.isub, 1) := by decide +kernel
theorem dX7_tellUnmade_9 : decode cX7_tellUnmade 9 = .ok (.istore_n 1, 1) := by decide +kernel
theorem dX7_tellUnmade_10 : decode cX7_tellUnmade 10 = .ok (.iload_n 1, 1) := by decide +kernel
theorem dX7_tellUnmade_11 : decode cX7_tellUnmade 11 = .ok (.aload_n 0, 1) := by decide +kernel
theorem dX7_tellUnmade_12 : decode cX7_tellUnmade 12 = .ok (.getfield 50, 3) := by decide +kernel
theorem dX7_tellUnmade_15 : decode cX7_tellUnmade 15 = .ok (.if_icmp .ge 17, 3) := by decide +kernel
theorem dX7_tellUnmade_18 : decode cX7_tellUnmade 18 = .ok (.aload_n 0, 1) := by decide +kernel
theorem dX7_tellUnmade_19 : decode cX7_tellUnmade 19 = .ok (.iconst 5, 1) := by decide +kernel
theorem dX7_tellUnmade_20 : decode cX7_tellUnmade 20 = .ok (.iload_n 1, 1) := by decide +kernel
theorem dX7_tellUnmade_21 : decode cX7_tellUnmade 21 = .ok (.iconst (-1), 1) := by decide +kernel
theorem dX7_tellUnmade_22 : decode cX7_tellUnmade 22 = .ok (.invokevirtual 46, 3) := by decide +kernel
theorem dX7_tellUnmade_25 : decode cX7_tellUnmade 25 = .ok (.pop, 1) := by decide +kernel
theorem dX7_tellUnmade_26 : decode cX7_tellUnmade 26 = .ok (.iinc 1 1, 3) := by decide +kernel
theorem dX7_tellUnmade_29 : decode cX7_tellUnmade 29 = .ok (.goto (-19), 3) := by decide +kernel
theorem dX7_tellUnmade_32 : decode cX7_tellUnmade 32 = .ok (.aload_n 0, 1) := by decide +kernel
theorem dX7_tellUnmade_33 : decode cX7_tellUnmade 33 = .ok (.iconst 0, 1) := by decide +kernel
theorem dX7_tellUnmade_34 : decode cX7_tellUnmade 34 = .ok (.putfield 53, 3) := by decide +kernel
theorem dX7_tellUnmade_37 : decode cX7_tellUnmade 37 = .ok (.return_, 1) := by decide +kernel
theorem e_X7_tellUnmade_10 (d : Nat) : ∀ (n : Nat) {l0 l1 : Int} {m : Mem} {v : Int} {m' : Mem}, X7_tellUnmade_10 n l0 l1 m = some (v, m') → Ex (d + 2) fm_X7_tellUnmade 10 [(17, l0), (0, l1)] [] m (.inl (3, 0)) m' := by
  intro n
  induction n with
  | zero =>
    intro l0 l1 m v m' h
    have h : (none : Option R2) = some _ := h
    cases h
  | succ n ih =>
    intro l0 l1 m v m' h
    rw [X7_tellUnmade_10] at h
    refine x_iload_n dX7_tellUnmade_10 rfl rfl (?_ : Ex _ _ 11 _ _ _ _ _)
    refine x_aload_n dX7_tellUnmade_11 rfl rfl (Or.inr (by decide)) (?_ : Ex _ _ 12 _ _ _ _ _)
    obtain ⟨c1, h⟩ := chk_some h
    refine gt_7_5 c1 fl_RX7_50 dX7_tellUnmade_12 (?_ : Ex _ _ 15 _ _ _ _ _)
    rcases ite_some h with ⟨b2, h⟩ | ⟨b2, h⟩
    · refine x_icmp_ge (tgt := 32) dX7_tellUnmade_15 rfl b2 (?_ : Ex _ _ 32 _ _ _ _ _)
      refine x_aload_n dX7_tellUnmade_32 rfl rfl (Or.inr (by decide)) (?_ : Ex _ _ 33 _ _ _ _ _)
      refine x_iconst dX7_tellUnmade_33 rfl (by decide) (?_ : Ex _ _ 34 _ _ _ _ _)
      obtain ⟨m3, hm3, h⟩ := st_some h
      refine pt_7_6  c1 fl_RX7_53 dX7_tellUnmade_34 (?_ : Ex _ _ 37 _ _ _ _ _)
      rw [← hm3]
      cases h
      exact x_retv dX7_tellUnmade_37
    · refine x_icmp_geN dX7_tellUnmade_15 (by decide) b2 (?_ : Ex _ _ 18 _ _ _ _ _)
      refine x_aload_n dX7_tellUnmade_18 rfl rfl (Or.inr (by decide)) (?_ : Ex _ _ 19 _ _ _ _ _)
      refine x_iconst dX7_tellUnmade_19 rfl (by decide) (?_ : Ex _ _ 20 _ _ _ _ _)
      refine x_iload_n dX7_tellUnmade_20 rfl rfl (?_ : Ex _ _ 21 _ _ _ _ _)
      refine x_iconst dX7_tellUnmade_21 rfl (by decide) (?_ : Ex _ _ 22 _ _ _ _ _)
      obtain ⟨v4, m5, g6, h⟩ := cal_some h
      refine cV3 (e_X7_happen d g6) (contN (by decide) (?_ : Ex _ _ 25 _ _ _ _ _)) og_X7_happen rfl ml_RX7_46 7 rfl rfl c1 im_X7_happen se_X7_happen (Nat.le_of_ble_eq_true rfl) dX7_tellUnmade_22
      refine x_pop (by decide : (0 : Int) ≠ 2) dX7_tellUnmade_25 (?_ : Ex _ _ 26 _ _ _ _ _)
      obtain ⟨c7, h⟩ := chk_some h
      refine x_iinc (ls2 := [(17, l0), (0, (l1 + 1))]) dX7_tellUnmade_26 rfl c7 rfl (?_ : Ex _ _ 29 _ _ _ _ _)
      refine x_goto (tgt := 10) dX7_tellUnmade_29 rfl (?_ : Ex _ _ 10 _ _ _ _ _)
      exact ih h
theorem e_X7_tellUnmade_0 (d : Nat) {l0 : Int} {m : Mem} {v : Int} {m' : Mem} (h : X7_tellUnmade_0 l0 m = some (v, m')) : Ex (d + 2) fm_X7_tellUnmade 0 [(17, l0), (3, 0)] [] m (.inl (3, 0)) m' := by
  unfold X7_tellUnmade_0 at h
  refine x_aload_n dX7_tellUnmade_0 rfl rfl (Or.inr (by decide)) (?_ : Ex _ _ 1 _ _ _ _ _)
  obtain ⟨c1, h⟩ := chk_some h
  refine gt_7_5 c1 fl_RX7_50 dX7_tellUnmade_1 (?_ : Ex _ _ 4 _ _ _ _ _)
  refine x_aload_n dX7_tellUnmade_4 rfl rfl (Or.inr (by decide)) (?_ : Ex _ _ 5 _ _ _ _ _)
  refine gt_7_6 c1 fl_RX7_53 dX7_tellUnmade_5 (?_ : Ex _ _ 8 _ _ _ _ _)
  obtain ⟨c2, h⟩ := chk_some h
  refine x_isub dX7_tellUnmade_8 c2 (?_ : Ex _ _ 9 _ _ _ _ _)
  refine x_istore_n (ls2 := [(17, l0), (0, (m l0 5 - m l0 6))]) dX7_tellUnmade_9 rfl (Nat.le_of_ble_eq_true rfl) rfl (?_ : Ex _ _ 10 _ _ _ _ _)
  exact e_X7_tellUnmade_10 d fuel9 h
theorem e_X7_tellUnmade (d : Nat) {a0 : Int} {m : Mem} {v : Int} {m' : Mem} (h : X7_tellUnmade a0 m = some (v, m')) : ExM (d + 2) fm_X7_tellUnmade [(17, a0)] m (.inl (3, 0)) m' := by
  exact ExM.of (by decide +kernel) (Nat.le_of_ble_eq_true rfl) (cat9 rfl) retV (e_X7_tellUnmade_0 d h)
theorem dX7_hasNews_0 : decode cX7_hasNews 0 = .ok (.aload_n 0, 1) := by decide +kernel
theorem dX7_hasNews_1 : decode cX7_hasNews 1 = .ok (.getfield 12, 3) := by decide +kernel
theorem dX7_hasNews_4 : decode cX7_hasNews 4 = .ok (.getfield 39, 3) := by decide +kernel
theorem dX7_hasNews_7 : decode cX7_hasNews 7 = .ok (.iconst 1, 1) := by decide +kernel
theorem dX7_hasNews_8 : decode cX7_hasNews 8 = .ok (.isub, 1) := by decide +kernel
theorem dX7_hasNews_9 : decode cX7_hasNews 9 = .ok (.istore_n 1, 1) := by decide +kernel
theorem dX7_hasNews_10 : decode cX7_hasNews 10 = .ok (.iload_n 1, 1) := by decide +kernel
theorem dX7_hasNews_11 : decode cX7_hasNews 11 = .ok (.ifCond .lt 27, 3) := by decide +kernel
theorem dX7_hasNews_14 : decode cX7_hasNews 14 = .ok (.iload_n 1, 1) := by decide +kernel
theorem dX7_hasNews_15 : decode cX7_hasNews 15 = .ok (.bipush 80, 2) := by decide +kernel
theorem dX7_hasNews_17 : decode cX7_hasNews 17 = .ok (.if_icmp .ge 21, 3) := by decide +kernel
theorem dX7_hasNews_20 : decode cX7_hasNews 20 = .ok (.aload_n 0, 1) := by decide +kernel
theorem dX7_hasNews_21 : decode cX7_hasNews 21 = .ok (.getfield 12, 3) := by decide +kernel
theorem dX7_hasNews_24 : decode cX7_hasNews 24 = .ok (.getfield 56, 3) := by decide +kernel
theorem dX7_hasNews_27 : decode cX7_hasNews 27 = .ok (.iload_n 1, 1) := by decide +kernel
theorem dX7_hasNews_28 : decode cX7_hasNews 28 = .ok (.iaload, 1) := by decide +kernel
theorem dX7_hasNews_29 : decode cX7_hasNews 29 = .ok (.bipush 7, 2) := by decide +kernel
theorem dX7_hasNews_31 : decode cX7_hasNews 31 = .ok (.if_icmp .ge 7, 3) := by decide +kernel
theorem dX7_hasNews_34 : decode cX7_hasNews 34 = .ok (.iconst 1, 1) := by decide +kernel
theorem dX7_hasNews_35 : decode cX7_hasNews 35 = .ok (.goto 4, 3) := by decide +kernel
theorem dX7_hasNews_38 : decode cX7_hasNews 38 = .ok (.iconst 0, 1) := by decide +kernel
theorem dX7_hasNews_39 : decode cX7_hasNews 39 = .ok (.ireturn, 1) := by decide +kernel
theorem e_X7_hasNews_0 (d : Nat) {l0 : Int} {m : Mem} {v : Int} {m' : Mem} (h : X7_hasNews_0 l0 m = some (v, m')) : Ex d fm_X7_hasNews 0 [(17, l0), (3, 0)] [] m (.inl (0, v)) m' := by
  unfold X7_hasNews_0 at h
  refine x_aload_n dX7_hasNews_0 rfl rfl (Or.inr (by decide)) (?_ : Ex _ _ 1 _ _ _ _ _)
  obtain ⟨c1, h⟩ := chk_some h
  refine gt_7_0 c1 fl_RX7_12 dX7_hasNews_1 (?_ : Ex _ _ 4 _ _ _ _ _)
  obtain ⟨c2, h⟩ := chk_some h
  refine gt_3_3 c2 fl_RX7_39 dX7_hasNews_4 (?_ : Ex _ _ 7 _ _ _ _ _)
  refine x_iconst dX7_hasNews_7 rfl (by decide) (?_ : Ex _ _ 8 _ _ _ _ _)
  obtain ⟨c3, h⟩ := chk_some h
  refine x_isub dX7_hasNews_8 c3 (?_ : Ex _ _ 9 _ _ _ _ _)
  refine x_istore_n (ls2 := [(17, l0), (0, (m (m l0 0) 3 - 1))]) dX7_hasNews_9 rfl (Nat.le_of_ble_eq_true rfl) rfl (?_ : Ex _ _ 10 _ _ _ _ _)
  refine x_iload_n dX7_hasNews_10 rfl rfl (?_ : Ex _ _ 11 _ _ _ _ _)
  rcases ite_some h with ⟨b4, h⟩ | ⟨b4, h⟩
  · refine x_if_lt (tgt := 38) dX7_hasNews_11 rfl b4 (?_ : Ex _ _ 38 _ _ _ _ _)
    refine x_iconst dX7_hasNews_38 rfl (by decide) (?_ : Ex _ _ 39 _ _ _ _ _)
    cases h
    exact x_ret dX7_hasNews_39 (by decide : (0 : Int) ≠ 3)
  · refine x_if_ltN dX7_hasNews_11 (by decide) b4 (?_ : Ex _ _ 14 _ _ _ _ _)
    refine x_iload_n dX7_hasNews_14 rfl rfl (?_ : Ex _ _ 15 _ _ _ _ _)
    refine x_bipush dX7_hasNews_15 kb_80 (by decide) (?_ : Ex _ _ 17 _ _ _ _ _)
    rcases ite_some h with ⟨b5, h⟩ | ⟨b5, h⟩
    · refine x_icmp_ge (tgt := 38) dX7_hasNews_17 rfl b5 (?_ : Ex _ _ 38 _ _ _ _ _)
      refine x_iconst dX7_hasNews_38 rfl (by decide) (?_ : Ex _ _ 39 _ _ _ _ _)
      cases h
      exact x_ret dX7_hasNews_39 (by decide : (0 : Int) ≠ 3)
    · refine x_icmp_geN dX7_hasNews_17 (by decide) b5 (?_ : Ex _ _ 20 _ _ _ _ _)
      refine x_aload_n dX7_hasNews_20 rfl rfl (Or.inr (by decide)) (?_ : Ex _ _ 21 _ _ _ _ _)
      refine gt_7_0 c1 fl_RX7_12 dX7_hasNews_21 (?_ : Ex _ _ 24 _ _ _ _ _)
      refine gt_3_0 c2 fl_RX7_56 dX7_hasNews_24 (?_ : Ex _ _ 27 _ _ _ _ _)
      refine x_iload_n dX7_hasNews_27 rfl rfl (?_ : Ex _ _ 28 _ _ _ _ _)
      obtain ⟨⟨c6, c7, c8⟩, h⟩ := chk_some h
      refine ld_i_80 c6 c7 c8 dX7_hasNews_28 (?_ : Ex _ _ 29 _ _ _ _ _)
      refine x_bipush dX7_hasNews_29 kb_7 (by decide) (?_ : Ex _ _ 31 _ _ _ _ _)
      rcases ite_some h with ⟨b9, h⟩ | ⟨b9, h⟩
      · refine x_icmp_ge (tgt := 38) dX7_hasNews_31 rfl b9 (?_ : Ex _ _ 38 _ _ _ _ _)
        refine x_iconst dX7_hasNews_38 rfl (by decide) (?_ : Ex _ _ 39 _ _ _ _ _)
        cases h
        exact x_ret dX7_hasNews_39 (by decide : (0 : Int) ≠ 3)
      · refine x_icmp_geN dX7_hasNews_31 (by decide) b9 (?_ : Ex _ _ 34 _ _ _ _ _)
        refine x_iconst dX7_hasNews_34 rfl (by decide) (?_ : Ex _ _ 35 _ _ _ _ _)
        refine x_goto (tgt := 39) dX7_hasNews_35 rfl (?_ : Ex _ _ 39 _ _ _ _ _)
        cases h
        exact x_ret dX7_hasNews_39 (by decide : (0 : Int) ≠ 3)
theorem e_X7_hasNews (d : Nat) {a0 : Int} {m : Mem} {v : Int} {m' : Mem} (h : X7_hasNews a0 m = some (v, m')) : ExM d fm_X7_hasNews [(17, a0)] m (.inl (0, v)) m' := by
  obtain ⟨hb, h⟩ := boolR_some h
  exact ExM.of (by decide +kernel) (Nat.le_of_ble_eq_true rfl) (cat9 rfl) (retZ hb) (e_X7_hasNews_0 d h)
theorem dX7_addActivity_0 : decode cX7_addActivity 0 = .ok (.aload_n 0, 1) := by decide +kernel
theorem dX7_addActivity_1 : decode cX7_addActivity 1 = .ok (.getfield 59, 3) := by decide +kernel
theorem dX7_addActivity_4 : decode cX7_addActivity 4 = .ok (.bipush 80, 2) := by decide +kernel
theorem dX7_addActivity_6 : decode cX7_addActivity 6 = .ok (.if_icmp .ge 23, 3) := by decide +kernel
theorem dX7_addActivity_9 : decode cX7_addActivity 9 = .ok (.aload_n 0, 1) := by decide +kernel
theorem dX7_addActivity_10 : decode cX7_addActivity 10 = .ok (.getfield 20, 3) := by decide +kernel
theorem dX7_addActivity_13 : decode cX7_addActivity 13 = .ok (.aload_n 0, 1) := by decide +kernel
theorem dX7_addActivity_14 : decode cX7_addActivity 14 = .ok (.getfield 59, 3) := by decide +kernel
theorem dX7_addActivity_17 : decode cX7_addActivity 17 = .ok (.aload_n 1, 1) := by decide +kernel
theorem dX7_addActivity_18 : decode cX7_addActivity 18 = .ok (.aastore, 1) := by decide +kernel
theorem dX7_addActivity_19 : decode cX7_addActivity 19 = .ok (.aload_n 0, 1) := by decide +kernel
theorem dX7_addActivity_20 : decode cX7_addActivity 20 = .ok (.dup, 1) := by decide +kernel
theorem dX7_addActivity_21 : decode cX7_addActivity 21 = .ok (.getfield 59, 3) := by decide +kernel
theorem dX7_addActivity_24 : decode cX7_addActivity 24 = .ok (.iconst 1, 1) := by decide +kernel
theorem dX7_addActivity_25 : decode cX7_addActivity 25 = .ok (.iadd, 1) := by decide +kernel
theorem dX7_addActivity_26 : decode cX7_addActivity 26 = .ok (.putfield 59, 3) := by decide +kernel
theorem dX7_addActivity_29 : decode cX7_addActivity 29 = .ok (.return_, 1) := by decide +kernel
theorem e_X7_addActivity_0 (d : Nat) {l0 l1 : Int} {m : Mem} {v : Int} {m' : Mem} (h : X7_addActivity_0 l0 l1 m = some (v, m')) : Ex d fm_X7_addActivity 0 [(17, l0), (10, l1)] [] m (.inl (3, 0)) m' := by
  unfold X7_addActivity_0 at h
  refine x_aload_n dX7_addActivity_0 rfl rfl (Or.inr (by decide)) (?_ : Ex _ _ 1 _ _ _ _ _)
  obtain ⟨c1, h⟩ := chk_some h
  refine gt_7_3 c1 fl_RX7_59 dX7_addActivity_1 (?_ : Ex _ _ 4 _ _ _ _ _)
  refine x_bipush dX7_addActivity_4 kb_80 (by decide) (?_ : Ex _ _ 6 _ _ _ _ _)
  rcases ite_some h with ⟨b2, h⟩ | ⟨b2, h⟩
  · refine x_icmp_ge (tgt := 29) dX7_addActivity_6 rfl b2 (?_ : Ex _ _ 29 _ _ _ _ _)
    cases h
    exact x_retv dX7_addActivity_29
  · refine x_icmp_geN dX7_addActivity_6 (by decide) b2 (?_ : Ex _ _ 9 _ _ _ _ _)
    refine x_aload_n dX7_addActivity_9 rfl rfl (Or.inr (by decide)) (?_ : Ex _ _ 10 _ _ _ _ _)
    refine gt_7_1 c1 fl_RX7_20 dX7_addActivity_10 (?_ : Ex _ _ 13 _ _ _ _ _)
    refine x_aload_n dX7_addActivity_13 rfl rfl (Or.inr (by decide)) (?_ : Ex _ _ 14 _ _ _ _ _)
    refine gt_7_3 c1 fl_RX7_59 dX7_addActivity_14 (?_ : Ex _ _ 17 _ _ _ _ _)
    refine x_aload_n dX7_addActivity_17 rfl rfl (Or.inr (by decide)) (?_ : Ex _ _ 18 _ _ _ _ _)
    obtain ⟨⟨c3, c4, c5, c6⟩, h⟩ := chk_some h
    obtain ⟨m7, hm7, h⟩ := st_some h
    refine as_0_80 c3 c6 c4 c5 dX7_addActivity_18 (?_ : Ex _ _ 19 _ _ _ _ _)
    rw [← hm7]
    refine x_aload_n dX7_addActivity_19 rfl rfl (Or.inr (by decide)) (?_ : Ex _ _ 20 _ _ _ _ _)
    refine x_dup (by decide : (17 : Int) ≠ 2) dX7_addActivity_20 (?_ : Ex _ _ 21 _ _ _ _ _)
    refine gt_7_3 c1 fl_RX7_59 dX7_addActivity_21 (?_ : Ex _ _ 24 _ _ _ _ _)
    refine x_iconst dX7_addActivity_24 rfl (by decide) (?_ : Ex _ _ 25 _ _ _ _ _)
    obtain ⟨c8, h⟩ := chk_some h
    refine x_iadd dX7_addActivity_25 c8 (?_ : Ex _ _ 26 _ _ _ _ _)
    obtain ⟨m9, hm9, h⟩ := st_some h
    refine pt_7_3  c1 fl_RX7_59 dX7_addActivity_26 (?_ : Ex _ _ 29 _ _ _ _ _)
    rw [← hm9]
    cases h
    exact x_retv dX7_addActivity_29
theorem e_X7_addActivity (d : Nat) {a0 a1 : Int} {m : Mem} {v : Int} {m' : Mem} (h : X7_addActivity a0 a1 m = some (v, m')) : ExM d fm_X7_addActivity [(17, a0), (10, a1)] m (.inl (3, 0)) m' := by
  exact ExM.of (by decide +kernel) (Nat.le_of_ble_eq_true rfl) (cat9 rfl) retV (e_X7_addActivity_0 d h)
theorem dX7_countReady_0 : decode cX7_countReady 0 = .ok (.iconst 0, 1) := by decide +kernel
theorem dX7_countReady_1 : decode cX7_countReady 1 = .ok (.istore_n 2, 1) := by decide +kernel
theorem dX7_countReady_2 : decode cX7_countReady 2 = .ok (.iconst 0, 1) := by decide +kernel
theorem dX7_countReady_3 : decode cX7_countReady 3 = .ok (.istore_n 3, 1) := by decide +kernel
theorem dX7_countReady_4 : decode cX7_countReady 4 = .ok (.iload_n 3, 1) := by decide +kernel
theorem dX7_countReady_5 : decode cX7_countReady 5 = .ok (.aload_n 0, 1) := by decide +kernel
theorem dX7_countReady_6 : decode cX7_countReady 6 = .ok (.getfield 59, 3) := by decide +kernel
theorem dX7_countReady_9 : decode cX7_countReady 9 = .ok (.if_icmp .ge 25, 3) := by decide +kernel
theorem dX7_countReady_12 : decode cX7_countReady 12 = .ok (.aload_n 0, 1) := by decide +kernel
theorem dX7_countReady_13 : decode cX7_countReady 13 = .ok (.getfield 20, 3) := by decide +kernel
theorem dX7_countReady_16 : decode cX7_countReady 16 = .ok (.iload_n 3, 1) := by decide +kernel
theorem dX7_countReady_17 : decode cX7_countReady 17 = .ok (.aaload, 1) := by decide +kernel
theorem dX7_countReady_18 : decode cX7_countReady 18 = .ok (.iload_n 1, 1) := by decide +kernel
theorem dX7_countReady_19 : decode cX7_countReady 19 = .ok (.invokevirtual 62, 3) := by decide +kernel
theorem dX7_countReady_22 : decode cX7_countReady 22 = .ok (.ifCond .eq 6, 3) := by decide +kernel
theorem dX7_countReady_25 : decode cX7_countReady 25 = .ok (.iinc 2 1, 3) := by decide +kernel
theorem dX7_countReady_28 : decode cX7_countReady 28 = .ok (.iinc 3 1, 3) := by decide +kernel
theorem dX7_countReady_31 : decode cX7_countReady 31 = .ok (.goto (-27), 3) := by decide +kernel
theorem dX7_countReady_34 : decode cX7_countReady 34 = .ok (.iload_n 2, 1) := by decide +kernel
theorem dX7_countReady_35 : decode cX7_countReady 35 = .ok (.ireturn, 1) := by decide +kernel
theorem e_X7_countReady_4 (d : Nat) : ∀ (n : Nat) {l0 l1 l2 l3 : Int} {m : Mem} {v : Int} {m' : Mem}, X7_countReady_4 n l0 l1 l2 l3 m = some (v, m') → Ex (d + 1) fm_X7_countReady 4 [(17, l0), (0, l1), (0, l2), (0, l3)] [] m (.inl (0, v)) m' := by
  intro n
  induction n with
  | zero =>
    intro l0 l1 l2 l3 m v m' h
    have h : (none : Option R2) = some _ := h
    cases h
  | succ n ih =>
    intro l0 l1 l2 l3 m v m' h
    rw [X7_countReady_4] at h
    refine x_iload_n dX7_countReady_4 rfl rfl (?_ : Ex _ _ 5 _ _ _ _ _)
    refine x_aload_n dX7_countReady_5 rfl rfl (Or.inr (by decide)) (?_ : Ex _ _ 6 _ _ _ _ _)
    obtain ⟨c1, h⟩ := chk_some h
    refine gt_7_3 c1 fl_RX7_59 dX7_countReady_6 (?_ : Ex _ _ 9 _ _ _ _ _)
    rcases ite_some h with ⟨b2, h⟩ | ⟨b2, h⟩
    · refine x_icmp_ge (tgt := 34) dX7_countReady_9 rfl b2 (?_ : Ex _ _ 34 _ _ _ _ _)
      refine x_iload_n dX7_countReady_34 rfl rfl (?_ : Ex _ _ 35 _ _ _ _ _)
      cases h
      exact x_ret dX7_countReady_35 (by decide : (0 : Int) ≠ 3)
    · refine x_icmp_geN dX7_countReady_9 (by decide) b2 (?_ : Ex _ _ 12 _ _ _ _ _)
      refine x_aload_n dX7_countReady_12 rfl rfl (Or.inr (by decide)) (?_ : Ex _ _ 13 _ _ _ _ _)
      refine gt_7_1 c1 fl_RX7_20 dX7_countReady_13 (?_ : Ex _ _ 16 _ _ _ _ _)
      refine x_iload_n dX7_countReady_16 rfl rfl (?_ : Ex _ _ 17 _ _ _ _ _)
      obtain ⟨⟨c3, c4, c5⟩, h⟩ := chk_some h
      refine ad_0_80 c3 c4 c5 dX7_countReady_17 (?_ : Ex _ _ 18 _ _ _ _ _)
      refine x_iload_n dX7_countReady_18 rfl rfl (?_ : Ex _ _ 19 _ _ _ _ _)
      obtain ⟨c6, h⟩ := chk_some h
      obtain ⟨v7, m8, g9, h⟩ := cal_some h
      refine cV1 (e_X0_isReadyOn d g9) (contN (by decide) (?_ : Ex _ _ 22 _ _ _ _ _)) og_X0_isReadyOn rfl ml_RX7_62 0 rfl rfl c6 im_X0_isReadyOn se_X0_isReadyOn (Nat.le_of_ble_eq_true rfl) dX7_countReady_19
      rcases ite_some h with ⟨b10, h⟩ | ⟨b10, h⟩
      · refine x_if_eq (tgt := 28) dX7_countReady_22 rfl b10 (?_ : Ex _ _ 28 _ _ _ _ _)
        obtain ⟨c11, h⟩ := chk_some h
        refine x_iinc (ls2 := [(17, l0), (0, l1), (0, l2), (0, (l3 + 1))]) dX7_countReady_28 rfl c11 rfl (?_ : Ex _ _ 31 _ _ _ _ _)
        refine x_goto (tgt := 4) dX7_countReady_31 rfl (?_ : Ex _ _ 4 _ _ _ _ _)
        exact ih h
      · refine x_if_eqN dX7_countReady_22 (by decide) b10 (?_ : Ex _ _ 25 _ _ _ _ _)
        obtain ⟨c12, h⟩ := chk_some h
        refine x_iinc (ls2 := [(17, l0), (0, l1), (0, (l2 + 1)), (0, l3)]) dX7_countReady_25 rfl c12 rfl (?_ : Ex _ _ 28 _ _ _ _ _)
        obtain ⟨c13, h⟩ := chk_some h
        refine x_iinc (ls2 := [(17, l0), (0, l1), (0, (l2 + 1)), (0, (l3 + 1))]) dX7_countReady_28 rfl c13 rfl (?_ : Ex _ _ 31 _ _ _ _ _)
        refine x_goto (tgt := 4) dX7_countReady_31 rfl (?_ : Ex _ _ 4 _ _ _ _ _)
        exact ih h
theorem e_X7_countReady_0 (d : Nat) {l0 l1 : Int} {m : Mem} {v : Int} {m' : Mem} (h : X7_countReady_0 l0 l1 m = some (v, m')) : Ex (d + 1) fm_X7_countReady 0 [(17, l0), (0, l1), (3, 0), (3, 0)] [] m (.inl (0, v)) m' := by
  unfold X7_countReady_0 at h
  refine x_iconst dX7_countReady_0 rfl (by decide) (?_ : Ex _ _ 1 _ _ _ _ _)
  refine x_istore_n (ls2 := [(17, l0), (0, l1), (0, 0), (3, 0)]) dX7_countReady_1 rfl (Nat.le_of_ble_eq_true rfl) rfl (?_ : Ex _ _ 2 _ _ _ _ _)
  refine x_iconst dX7_countReady_2 rfl (by decide) (?_ : Ex _ _ 3 _ _ _ _ _)
  refine x_istore_n (ls2 := [(17, l0), (0, l1), (0, 0), (0, 0)]) dX7_countReady_3 rfl (Nat.le_of_ble_eq_true rfl) rfl (?_ : Ex _ _ 4 _ _ _ _ _)
  exact e_X7_countReady_4 d fuel9 h
theorem e_X7_countReady (d : Nat) {a0 a1 : Int} {m : Mem} {v : Int} {m' : Mem} (h : X7_countReady a0 a1 m = some (v, m')) : ExM (d + 1) fm_X7_countReady [(17, a0), (0, a1)] m (.inl (0, v)) m' := by
  exact ExM.of (by decide +kernel) (Nat.le_of_ble_eq_true rfl) (cat9 rfl) retI (e_X7_countReady_0 d h)
theorem dX7_wakeActivities_0 : decode cX7_wakeActivities 0 = .ok (.iconst 0, 1) := by decide +kernel
theorem dX7_wakeActivities_1 : decode cX7_wakeActivities 1 = .ok (.istore_n 2, 1) := by decide +kernel
theorem dX7_wakeActivities_2 : decode cX7_wakeActivities 2 = .ok (.iload_n 2, 1) := by decide +kernel
theorem dX7_wakeActivities_3 : decode cX7_wakeActivities 3 = .ok (.aload_n 0, 1) := by decide +kernel
theorem dX7_wakeActivities_4 : decode cX7_wakeActivities 4 = .ok (.getfield 59, 3) := by decide +kernel
theorem dX7_wakeActivities_7 : decode cX7_wakeActivities 7 = .ok (.if_icmp .ge 19, 3) := by decide +kernel
theorem dX7_wakeActivities_10 : decode cX7_wakeActivities 10 = .ok (.aload_n 0, 1) := by decide +kernel
theorem dX7_wakeActivities_11 : decode cX7_wakeActivities 11 = .ok (.getfield 20, 3) := by decide +kernel
theorem dX7_wakeActivities_14 : decode cX7_wakeActivities 14 = .ok (.iload_n 2, 1) := by decide +kernel
theorem dX7_wakeActivities_15 : decode cX7_wakeActivities 15 = .ok (.aaload, 1) := by decide +kernel
theorem dX7_wakeActivities_16 : decode cX7_wakeActivities 16 = .ok (.iload_n 1, 1) := by decide +kernel
theorem dX7_wakeActivities_17 : decode cX7_wakeActivities 17 = .ok (.invokevirtual 66, 3) := by decide +kernel
theorem dX7_wakeActivities_20 : decode cX7_wakeActivities 20 = .ok (.iinc 2 1, 3) := by decide +kernel
theorem dX7_wakeActivities_23 : decode cX7_wakeActivities 23 = .ok (.goto (-21), 3) := by decide +kernel
theorem dX7_wakeActivities_26 : decode cX7_wakeActivities 26 = .ok (.return_, 1) := by decide +kernel
theorem e_X7_wakeActivities_2 (d : Nat) : ∀ (n : Nat) {l0 l1 l2 : Int} {m : Mem} {v : Int} {m' : Mem}, X7_wakeActivities_2 n l0 l1 l2 m = some (v, m') → Ex (d + 1) fm_X7_wakeActivities 2 [(17, l0), (0, l1), (0, l2)] [] m (.inl (3, 0)) m' := by
  intro n
  induction n with
  | zero =>
    intro l0 l1 l2 m v m' h
    have h : (none : Option R2) = some _ := h
    cases h
  | succ n ih =>
    intro l0 l1 l2 m v m' h
    rw [X7_wakeActivities_2] at h
    refine x_iload_n dX7_wakeActivities_2 rfl rfl (?_ : Ex _ _ 3 _ _ _ _ _)
    refine x_aload_n dX7_wakeActivities_3 rfl rfl (Or.inr (by decide)) (?_ : Ex _ _ 4 _ _ _ _ _)
    obtain ⟨c1, h⟩ := chk_some h
    refine gt_7_3 c1 fl_RX7_59 dX7_wakeActivities_4 (?_ : Ex _ _ 7 _ _ _ _ _)
    rcases ite_some h with ⟨b2, h⟩ | ⟨b2, h⟩
    · refine x_icmp_ge (tgt := 26) dX7_wakeActivities_7 rfl b2 (?_ : Ex _ _ 26 _ _ _ _ _)
      cases h
      exact x_retv dX7_wakeActivities_26
    · refine x_icmp_geN dX7_wakeActivities_7 (by decide) b2 (?_ : Ex _ _ 10 _ _ _ _ _)
      refine x_aload_n dX7_wakeActivities_10 rfl rfl (Or.inr (by decide)) (?_ : Ex _ _ 11 _ _ _ _ _)
      refine gt_7_1 c1 fl_RX7_20 dX7_wakeActivities_11 (?_ : Ex _ _ 14 _ _ _ _ _)
      refine x_iload_n dX7_wakeActivities_14 rfl rfl (?_ : Ex _ _ 15 _ _ _ _ _)
      obtain ⟨⟨c3, c4, c5⟩, h⟩ := chk_some h
      refine ad_0_80 c3 c4 c5 dX7_wakeActivities_15 (?_ : Ex _ _ 16 _ _ _ _ _)
      refine x_iload_n dX7_wakeActivities_16 rfl rfl (?_ : Ex _ _ 17 _ _ _ _ _)
      obtain ⟨c6, h⟩ := chk_some h
      obtain ⟨v7, m8, g9, h⟩ := cal_some h
      refine cV1 (e_X0_wake d g9) (contV (?_ : Ex _ _ 20 _ _ _ _ _)) og_X0_wake rfl ml_RX7_66 0 rfl rfl c6 im_X0_wake se_X0_wake (Nat.le_of_ble_eq_true rfl) dX7_wakeActivities_17
      obtain ⟨c10, h⟩ := chk_some h
      refine x_iinc (ls2 := [(17, l0), (0, l1), (0, (l2 + 1))]) dX7_wakeActivities_20 rfl c10 rfl (?_ : Ex _ _ 23 _ _ _ _ _)
      refine x_goto (tgt := 2) dX7_wakeActivities_23 rfl (?_ : Ex _ _ 2 _ _ _ _ _)
      exact ih h
theorem e_X7_wakeActivities_0 (d : Nat) {l0 l1 : Int} {m : Mem} {v : Int} {m' : Mem} (h : X7_wakeActivities_0 l0 l1 m = some (v, m')) : Ex (d + 1) fm_X7_wakeActivities 0 [(17, l0), (0, l1), (3, 0)] [] m (.inl (3, 0)) m' := by
  unfold X7_wakeActivities_0 at h
  refine x_iconst dX7_wakeActivities_0 rfl (by decide) (?_ : Ex _ _ 1 _ _ _ _ _)
  refine x_istore_n (ls2 := [(17, l0), (0, l1), (0, 0)]) dX7_wakeActivities_1 rfl (Nat.le_of_ble_eq_true rfl) rfl (?_ : Ex _ _ 2 _ _ _ _ _)
  exact e_X7_wakeActivities_2 d fuel9 h
theorem e_X7_wakeActivities (d : Nat) {a0 a1 : Int} {m : Mem} {v : Int} {m' : Mem} (h : X7_wakeActivities a0 a1 m = some (v, m')) : ExM (d + 1) fm_X7_wakeActivities [(17, a0), (0, a1)] m (.inl (3, 0)) m' := by
  exact ExM.of (by decide +kernel) (Nat.le_of_ble_eq_true rfl) (cat9 rfl) retV (e_X7_wakeActivities_0 d h)
theorem dX7_addTimer_0 : decode cX7_addTimer 0 = .ok (.aload_n 0, 1) := by decide +kernel
theorem dX7_addTimer_1 : decode cX7_addTimer 1 = .ok (.getfield 70, 3) := by decide +kernel
theorem dX7_addTimer_4 : decode cX7_addTimer 4 = .ok (.bipush 80, 2) := by decide +kernel
theorem dX7_addTimer_6 : decode cX7_addTimer 6 = .ok (.if_icmp .ge 23, 3) := by decide +kernel
theorem dX7_addTimer_9 : decode cX7_addTimer 9 = .ok (.aload_n 0, 1) := by decide +kernel
theorem dX7_addTimer_10 : decode cX7_addTimer 10 = .ok (.getfield 24, 3) := by decide +kernel
theorem dX7_addTimer_13 : decode cX7_addTimer 13 = .ok (.aload_n 0, 1) := by decide +kernel
theorem dX7_addTimer_14 : decode cX7_addTimer 14 = .ok (.getfield 70, 3) := by decide +kernel
theorem dX7_addTimer_17 : decode cX7_addTimer 17 = .ok (.iload_n 1, 1) := by decide +kernel
theorem dX7_addTimer_18 : decode cX7_addTimer 18 = .ok (.iastore, 1) := by decide +kernel
theorem dX7_addTimer_19 : decode cX7_addTimer 19 = .ok (.aload_n 0, 1) := by decide +kernel
theorem dX7_addTimer_20 : decode cX7_addTimer 20 = .ok (.dup, 1) := by decide +kernel
theorem dX7_addTimer_21 : decode cX7_addTimer 21 = .ok (.getfield 70, 3) := by decide +kernel
theorem dX7_addTimer_24 : decode cX7_addTimer 24 = .ok (.iconst 1, 1) := by decide +kernel
theorem dX7_addTimer_25 : decode cX7_addTimer 25 = .ok (.iadd, 1) := by decide +kernel
theorem dX7_addTimer_26 : decode cX7_addTimer 26 = .ok (.putfield 70, 3) := by decide +kernel
theorem dX7_addTimer_29 : decode cX7_addTimer 29 = .ok (.return_, 1) := by decide +kernel
theorem e_X7_addTimer_0 (d : Nat) {l0 l1 : Int} {m : Mem} {v : Int} {m' : Mem} (h : X7_addTimer_0 l0 l1 m = some (v, m')) : Ex d fm_X7_addTimer 0 [(17, l0), (0, l1)] [] m (.inl (3, 0)) m' := by
  unfold X7_addTimer_0 at h
  refine x_aload_n dX7_addTimer_0 rfl rfl (Or.inr (by decide)) (?_ : Ex _ _ 1 _ _ _ _ _)
  obtain ⟨c1, h⟩ := chk_some h
  refine gt_7_4 c1 fl_RX7_70 dX7_addTimer_1 (?_ : Ex _ _ 4 _ _ _ _ _)
  refine x_bipush dX7_addTimer_4 kb_80 (by decide) (?_ : Ex _ _ 6 _ _ _ _ _)
  rcases ite_some h with ⟨b2, h⟩ | ⟨b2, h⟩
  · refine x_icmp_ge (tgt := 29) dX7_addTimer_6 rfl b2 (?_ : Ex _ _ 29 _ _ _ _ _)
    cases h
    exact x_retv dX7_addTimer_29
  · refine x_icmp_geN dX7_addTimer_6 (by decide) b2 (?_ : Ex _ _ 9 _ _ _ _ _)
    refine x_aload_n dX7_addTimer_9 rfl rfl (Or.inr (by decide)) (?_ : Ex _ _ 10 _ _ _ _ _)
    refine gt_7_2 c1 fl_RX7_24 dX7_addTimer_10 (?_ : Ex _ _ 13 _ _ _ _ _)
    refine x_aload_n dX7_addTimer_13 rfl rfl (Or.inr (by decide)) (?_ : Ex _ _ 14 _ _ _ _ _)
    refine gt_7_4 c1 fl_RX7_70 dX7_addTimer_14 (?_ : Ex _ _ 17 _ _ _ _ _)
    refine x_iload_n dX7_addTimer_17 rfl rfl (?_ : Ex _ _ 18 _ _ _ _ _)
    obtain ⟨⟨c3, c4, c5⟩, h⟩ := chk_some h
    obtain ⟨m6, hm6, h⟩ := st_some h
    refine sd_i_80 c3 c4 c5 dX7_addTimer_18 (?_ : Ex _ _ 19 _ _ _ _ _)
    rw [← hm6]
    refine x_aload_n dX7_addTimer_19 rfl rfl (Or.inr (by decide)) (?_ : Ex _ _ 20 _ _ _ _ _)
    refine x_dup (by decide : (17 : Int) ≠ 2) dX7_addTimer_20 (?_ : Ex _ _ 21 _ _ _ _ _)
    refine gt_7_4 c1 fl_RX7_70 dX7_addTimer_21 (?_ : Ex _ _ 24 _ _ _ _ _)
    refine x_iconst dX7_addTimer_24 rfl (by decide) (?_ : Ex _ _ 25 _ _ _ _ _)
    obtain ⟨c7, h⟩ := chk_some h
    refine x_iadd dX7_addTimer_25 c7 (?_ : Ex _ _ 26 _ _ _ _ _)
    obtain ⟨m8, hm8, h⟩ := st_some h
    refine pt_7_4  c1 fl_RX7_70 dX7_addTimer_26 (?_ : Ex _ _ 29 _ _ _ _ _)
    rw [← hm8]
    cases h
    exact x_retv dX7_addTimer_29
theorem e_X7_addTimer (d : Nat) {a0 a1 : Int} {m : Mem} {v : Int} {m' : Mem} (h : X7_addTimer a0 a1 m = some (v, m')) : ExM d fm_X7_addTimer [(17, a0), (0, a1)] m (.inl (3, 0)) m' := by
  exact ExM.of (by decide +kernel) (Nat.le_of_ble_eq_true rfl) (cat9 rfl) retV (e_X7_addTimer_0 d h)
theorem dX7_dropTimer_0 : decode cX7_dropTimer 0 = .ok (.iload_n 1, 1) := by decide +kernel
theorem dX7_dropTimer_1 : decode cX7_dropTimer 1 = .ok (.ifCond .lt 18, 3) := by decide +kernel
theorem dX7_dropTimer_4 : decode cX7_dropTimer 4 = .ok (.iload_n 1, 1) := by decide +kernel
theorem dX7_dropTimer_5 : decode cX7_dropTimer 5 = .ok (.aload_n 0, 1) := by decide +kernel
theorem dX7_dropTimer_6 : decode cX7_dropTimer 6 = .ok (.getfield 70, 3) := by decide +kernel
theorem dX7_dropTimer_9 : decode cX7_dropTimer 9 = .ok (.if_icmp .ge 10, 3) := by decide +kernel
theorem dX7_dropTimer_12 : decode cX7_dropTimer 12 = .ok (.aload_n 0, 1) := by decide +kernel
theorem dX7_dropTimer_13 : decode cX7_dropTimer 13 = .ok (.getfield 24, 3) := by decide +kernel
theorem dX7_dropTimer_16 : decode cX7_dropTimer 16 = .ok (.iload_n 1, 1) := by decide +kernel
theorem dX7_dropTimer_17 : decode cX7_dropTimer 17 = .ok (.iconst 0, 1) := by decide +kernel
theorem dX7_dropTimer_18 : decode cX7_dropTimer 18 = .ok (.iastore, 1) := by decide +kernel
theorem dX7_dropTimer_19 : decode cX7_dropTimer 19 = .ok (.return_, 1) := by decide +kernel
theorem e_X7_dropTimer_0 (d : Nat) {l0 l1 : Int} {m : Mem} {v : Int} {m' : Mem} (h : X7_dropTimer_0 l0 l1 m = some (v, m')) : Ex d fm_X7_dropTimer 0 [(17, l0), (0, l1)] [] m (.inl (3, 0)) m' := by
  unfold X7_dropTimer_0 at h
  refine x_iload_n dX7_dropTimer_0 rfl rfl (?_ : Ex _ _ 1 _ _ _ _ _)
  rcases ite_some h with ⟨b1, h⟩ | ⟨b1, h⟩
  · refine x_if_lt (tgt := 19) dX7_dropTimer_1 rfl b1 (?_ : Ex _ _ 19 _ _ _ _ _)
    cases h
    exact x_retv dX7_dropTimer_19
  · refine x_if_ltN dX7_dropTimer_1 (by decide) b1 (?_ : Ex _ _ 4 _ _ _ _ _)
    refine x_iload_n dX7_dropTimer_4 rfl rfl (?_ : Ex _ _ 5 _ _ _ _ _)
    refine x_aload_n dX7_dropTimer_5 rfl rfl (Or.inr (by decide)) (?_ : Ex _ _ 6 _ _ _ _ _)
    obtain ⟨c2, h⟩ := chk_some h
    refine gt_7_4 c2 fl_RX7_70 dX7_dropTimer_6 (?_ : Ex _ _ 9 _ _ _ _ _)
    rcases ite_some h with ⟨b3, h⟩ | ⟨b3, h⟩
    · refine x_icmp_ge (tgt := 19) dX7_dropTimer_9 rfl b3 (?_ : Ex _ _ 19 _ _ _ _ _)
      cases h
      exact x_retv dX7_dropTimer_19
    · refine x_icmp_geN dX7_dropTimer_9 (by decide) b3 (?_ : Ex _ _ 12 _ _ _ _ _)
      refine x_aload_n dX7_dropTimer_12 rfl rfl (Or.inr (by decide)) (?_ : Ex _ _ 13 _ _ _ _ _)
      refine gt_7_2 c2 fl_RX7_24 dX7_dropTimer_13 (?_ : Ex _ _ 16 _ _ _ _ _)
      refine x_iload_n dX7_dropTimer_16 rfl rfl (?_ : Ex _ _ 17 _ _ _ _ _)
      refine x_iconst dX7_dropTimer_17 rfl (by decide) (?_ : Ex _ _ 18 _ _ _ _ _)
      obtain ⟨⟨c4, c5, c6⟩, h⟩ := chk_some h
      obtain ⟨m7, hm7, h⟩ := st_some h
      refine sd_i_80 c4 c5 c6 dX7_dropTimer_18 (?_ : Ex _ _ 19 _ _ _ _ _)
      rw [← hm7]
      cases h
      exact x_retv dX7_dropTimer_19
theorem e_X7_dropTimer (d : Nat) {a0 a1 : Int} {m : Mem} {v : Int} {m' : Mem} (h : X7_dropTimer a0 a1 m = some (v, m')) : ExM d fm_X7_dropTimer [(17, a0), (0, a1)] m (.inl (3, 0)) m' := by
  exact ExM.of (by decide +kernel) (Nat.le_of_ble_eq_true rfl) (cat9 rfl) retV (e_X7_dropTimer_0 d h)
theorem dX7_fireTimers_0 : decode cX7_fireTimers 0 = .ok (.iconst 0, 1) := by decide +kernel
theorem dX7_fireTimers_1 : decode cX7_fireTimers 1 = .ok (.istore_n 2, 1) := by decide +kernel
theorem dX7_fireTimers_2 : decode cX7_fireTimers 2 = .ok (.iload_n 2, 1) := by decide +kernel
theorem dX7_fireTimers_3 : decode cX7_fireTimers 3 = .ok (.aload_n 0, 1) := by decide +kernel
theorem dX7_fireTimers_4 : decode cX7_fireTimers 4 = .ok (.getfield 70, 3) := by decide +kernel
theorem dX7_fireTimers_7 : decode cX7_fireTimers 7 = .ok (.if_icmp .ge 34, 3) := by decide +kernel
theorem dX7_fireTimers_10 : decode cX7_fireTimers 10 = .ok (.aload_n 0, 1) := by decide +kernel
theorem dX7_fireTimers_11 : decode cX7_fireTimers 11 = .ok (.getfield 24, 3) := by decide +kernel
theorem dX7_fireTimers_14 : decode cX7_fireTimers 14 = .ok (.iload_n 2, 1) := by decide +kernel
theorem dX7_fireTimers_15 : decode cX7_fireTimers 15 = .ok (.iaload, 1) := by decide +kernel
theorem dX7_fireTimers_16 : decode cX7_fireTimers 16 = .ok (.iload_n 1, 1) := by decide +kernel
theorem dX7_fireTimers_17 : decode cX7_fireTimers 17 = .ok (.if_icmp .ne 18, 3) := by decide +kernel
theorem dX7_fireTimers_20 : decode cX7_fireTimers 20 = .ok (.aload_n 0, 1) := by decide +kernel
theorem dX7_fireTimers_21 : decode cX7_fireTimers 21 = .ok (.getfield 24, 3) := by decide +kernel
theorem dX7_fireTimers_24 : decode cX7_fireTimers 24 = .ok (.iload_n 2, 1) := by decide +kernel
theorem dX7_fireTimers_25 : decode cX7_fireTimers 25 = .ok (.iconst 0, 1) := by decide +kernel
theorem dX7_fireTimers_26 : decode cX7_fireTimers 26 = .ok (.iastore, 1) := by decide +kernel
theorem dX7_fireTimers_27 : decode cX7_fireTimers 27 = .ok (.aload_n 0, 1) := by decide +kernel
theorem dX7_fireTimers_28 : decode cX7_fireTimers 28 = .ok (.iconst 3, 1) := by decide +kernel
theorem dX7_fireTimers_29 : decode cX7_fireTimers 29 = .ok (.iload_n 2, 1) := by decide +kernel
theorem dX7_fireTimers_30 : decode cX7_fireTimers 30 = .ok (.iconst 0, 1) := by decide +kernel
theorem dX7_fireTimers_31 : decode cX7_fireTimers 31 = .ok (.invokevirtual 46, 3) := by decide +kernel
theorem dX7_fireTimers_34 : decode cX7_fireTimers 34 = .ok (.pop, 1) := by decide +kernel
theorem dX7_fireTimers_35 : decode cX7_fireTimers 35 = .ok (.iinc 2 1, 3) := by decide +kernel
theorem dX7_fireTimers_38 : decode cX7_fireTimers 38 = .ok (.goto (-36), 3) := by decide +kernel
theorem dX7_fireTimers_41 : decode cX7_fireTimers 41 = .ok (.return_, 1) := by decide +kernel
theorem e_X7_fireTimers_2 (d : Nat) : ∀ (n : Nat) {l0 l1 l2 : Int} {m : Mem} {v : Int} {m' : Mem}, X7_fireTimers_2 n l0 l1 l2 m = some (v, m') → Ex (d + 2) fm_X7_fireTimers 2 [(17, l0), (0, l1), (0, l2)] [] m (.inl (3, 0)) m' := by
  intro n
  induction n with
  | zero =>
    intro l0 l1 l2 m v m' h
    have h : (none : Option R2) = some _ := h
    cases h
  | succ n ih =>
    intro l0 l1 l2 m v m' h
    rw [X7_fireTimers_2] at h
    refine x_iload_n dX7_fireTimers_2 rfl rfl (?_ : Ex _ _ 3 _ _ _ _ _)
    refine x_aload_n dX7_fireTimers_3 rfl rfl (Or.inr (by decide)) (?_ : Ex _ _ 4 _ _ _ _ _)
    obtain ⟨c1, h⟩ := chk_some h
    refine gt_7_4 c1 fl_RX7_70 dX7_fireTimers_4 (?_ : Ex _ _ 7 _ _ _ _ _)
    rcases ite_some h with ⟨b2, h⟩ | ⟨b2, h⟩
    · refine x_icmp_ge (tgt := 41) dX7_fireTimers_7 rfl b2 (?_ : Ex _ _ 41 _ _ _ _ _)
      cases h
      exact x_retv dX7_fireTimers_41
    · refine x_icmp_geN dX7_fireTimers_7 (by decide) b2 (?_ : Ex _ _ 10 _ _ _ _ _)
      refine x_aload_n dX7_fireTimers_10 rfl rfl (Or.inr (by decide)) (?_ : Ex _ _ 11 _ _ _ _ _)
      refine gt_7_2 c1 fl_RX7_24 dX7_fireTimers_11 (?_ : Ex _ _ 14 _ _ _ _ _)
      refine x_iload_n dX7_fireTimers_14 rfl rfl (?_ : Ex _ _ 15 _ _ _ _ _)
      obtain ⟨⟨c3, c4, c5⟩, h⟩ := chk_some h
      refine ld_i_80 c3 c4 c5 dX7_fireTimers_15 (?_ : Ex _ _ 16 _ _ _ _ _)
      refine x_iload_n dX7_fireTimers_16 rfl rfl (?_ : Ex _ _ 17 _ _ _ _ _)
      rcases ite_some h with ⟨b6, h⟩ | ⟨b6, h⟩
      · refine x_icmp_neN dX7_fireTimers_17 (by decide) (fun hh => hh b6) (?_ : Ex _ _ 20 _ _ _ _ _)
        refine x_aload_n dX7_fireTimers_20 rfl rfl (Or.inr (by decide)) (?_ : Ex _ _ 21 _ _ _ _ _)
        refine gt_7_2 c1 fl_RX7_24 dX7_fireTimers_21 (?_ : Ex _ _ 24 _ _ _ _ _)
        refine x_iload_n dX7_fireTimers_24 rfl rfl (?_ : Ex _ _ 25 _ _ _ _ _)
        refine x_iconst dX7_fireTimers_25 rfl (by decide) (?_ : Ex _ _ 26 _ _ _ _ _)
        obtain ⟨⟨c8, c9⟩, h⟩ := chk_some h
        obtain ⟨m10, hm10, h⟩ := st_some h
        refine sd_i_80 c3 c8 c9 dX7_fireTimers_26 (?_ : Ex _ _ 27 _ _ _ _ _)
        rw [← hm10]
        refine x_aload_n dX7_fireTimers_27 rfl rfl (Or.inr (by decide)) (?_ : Ex _ _ 28 _ _ _ _ _)
        refine x_iconst dX7_fireTimers_28 rfl (by decide) (?_ : Ex _ _ 29 _ _ _ _ _)
        refine x_iload_n dX7_fireTimers_29 rfl rfl (?_ : Ex _ _ 30 _ _ _ _ _)
        refine x_iconst dX7_fireTimers_30 rfl (by decide) (?_ : Ex _ _ 31 _ _ _ _ _)
        obtain ⟨v11, m12, g13, h⟩ := cal_some h
        refine cV3 (e_X7_happen d g13) (contN (by decide) (?_ : Ex _ _ 34 _ _ _ _ _)) og_X7_happen rfl ml_RX7_46 7 rfl rfl c1 im_X7_happen se_X7_happen (Nat.le_of_ble_eq_true rfl) dX7_fireTimers_31
        refine x_pop (by decide : (0 : Int) ≠ 2) dX7_fireTimers_34 (?_ : Ex _ _ 35 _ _ _ _ _)
        obtain ⟨c14, h⟩ := chk_some h
        refine x_iinc (ls2 := [(17, l0), (0, l1), (0, (l2 + 1))]) dX7_fireTimers_35 rfl c14 rfl (?_ : Ex _ _ 38 _ _ _ _ _)
        refine x_goto (tgt := 2) dX7_fireTimers_38 rfl (?_ : Ex _ _ 2 _ _ _ _ _)
        exact ih h
      · refine x_icmp_ne (tgt := 35) dX7_fireTimers_17 rfl b6 (?_ : Ex _ _ 35 _ _ _ _ _)
        obtain ⟨c7, h⟩ := chk_some h
        refine x_iinc (ls2 := [(17, l0), (0, l1), (0, (l2 + 1))]) dX7_fireTimers_35 rfl c7 rfl (?_ : Ex _ _ 38 _ _ _ _ _)
        refine x_goto (tgt := 2) dX7_fireTimers_38 rfl (?_ : Ex _ _ 2 _ _ _ _ _)
        exact ih h
theorem e_X7_fireTimers_0 (d : Nat) {l0 l1 : Int} {m : Mem} {v : Int} {m' : Mem} (h : X7_fireTimers_0 l0 l1 m = some (v, m')) : Ex (d + 2) fm_X7_fireTimers 0 [(17, l0), (0, l1), (3, 0)] [] m (.inl (3, 0)) m' := by
  unfold X7_fireTimers_0 at h
  refine x_iconst dX7_fireTimers_0 rfl (by decide) (?_ : Ex _ _ 1 _ _ _ _ _)
  refine x_istore_n (ls2 := [(17, l0), (0, l1), (0, 0)]) dX7_fireTimers_1 rfl (Nat.le_of_ble_eq_true rfl) rfl (?_ : Ex _ _ 2 _ _ _ _ _)
  exact e_X7_fireTimers_2 d fuel9 h
theorem e_X7_fireTimers (d : Nat) {a0 a1 : Int} {m : Mem} {v : Int} {m' : Mem} (h : X7_fireTimers a0 a1 m = some (v, m')) : ExM (d + 2) fm_X7_fireTimers [(17, a0), (0, a1)] m (.inl (3, 0)) m' := by
  exact ExM.of (by decide +kernel) (Nat.le_of_ble_eq_true rfl) (cat9 rfl) retV (e_X7_fireTimers_0 d h)
theorem dX9_init_0 : decode cX9_init 0 = .ok (.aload_n 0, 1) := by decide +kernel
theorem dX9_init_1 : decode cX9_init 1 = .ok (.invokespecial 1, 3) := by decide +kernel
theorem dX9_init_4 : decode cX9_init 4 = .ok (.aload_n 0, 1) := by decide +kernel
theorem dX9_init_5 : decode cX9_init 5 = .ok (.iconst 1, 1) := by decide +kernel
theorem dX9_init_6 : decode cX9_init 6 = .ok (.putfield 7, 3) := by decide +kernel
theorem dX9_init_9 : decode cX9_init 9 = .ok (.return_, 1) := by decide +kernel
theorem e_X9_init_0 (d : Nat) {l0 : Int} {m : Mem} {v : Int} {m' : Mem} (h : X9_init_0 l0 m = some (v, m')) : Ex d fm_X9_init 0 [(19, l0)] [] m (.inl (3, 0)) m' := by
  unfold X9_init_0 at h
  refine x_aload_n dX9_init_0 rfl rfl (Or.inr (by decide)) (?_ : Ex _ _ 1 _ _ _ _ _)
  obtain ⟨c1, h⟩ := chk_some h
  refine x_objInit (by decide) c1 oi_RX9_1 oi_a oi_b (Nat.le_of_ble_eq_true rfl) dX9_init_1 (?_ : Ex _ _ 4 _ _ _ _ _)
  refine x_aload_n dX9_init_4 rfl rfl (Or.inr (by decide)) (?_ : Ex _ _ 5 _ _ _ _ _)
  refine x_iconst dX9_init_5 rfl (by decide) (?_ : Ex _ _ 6 _ _ _ _ _)
  obtain ⟨m2, hm2, h⟩ := st_some h
  refine pt_9_0  c1 (by decide) fl_RX9_7 dX9_init_6 (?_ : Ex _ _ 9 _ _ _ _ _)
  rw [← hm2]
  cases h
  exact x_retv dX9_init_9
theorem e_X9_init (d : Nat) {a0 : Int} {m : Mem} {v : Int} {m' : Mem} (h : X9_init a0 m = some (v, m')) : ExM d fm_X9_init [(19, a0)] m (.inl (3, 0)) m' := by
  exact ExM.of (by decide +kernel) (Nat.le_of_ble_eq_true rfl) (cat9 rfl) retV (e_X9_init_0 d h)
theorem dX10_init_0 : decode cX10_init 0 = .ok (.aload_n 0, 1) := by decide +kernel
theorem dX10_init_1 : decode cX10_init 1 = .ok (.invokespecial 3, 3) := by decide +kernel
theorem dX10_init_4 : decode cX10_init 4 = .ok (.aload_n 0, 1) := by decide +kernel
theorem dX10_init_5 : decode cX10_init 5 = .ok (.iconst 2, 1) := by decide +kernel
theorem dX10_init_6 : decode cX10_init 6 = .ok (.newarray .int, 2) := by decide +kernel
theorem dX10_init_8 : decode cX10_init 8 = .ok (.putfield 9, 3) := by decide +kernel
theorem dX10_init_11 : decode cX10_init 11 = .ok (.aload_n 0, 1) := by decide +kernel
theorem dX10_init_12 : decode cX10_init 12 = .ok (.bipush 9, 2) := by decide +kernel
theorem dX10_init_14 : decode cX10_init 14 = .ok (.anewarray 15, 3) := by decide +kernel
theorem dX10_init_17 : decode cX10_init 17 = .ok (.putfield 17, 3) := by decide +kernel
theorem dX10_init_20 : decode cX10_init 20 = .ok (.aload_n 0, 1) := by decide +kernel
theorem dX10_init_21 : decode cX10_init 21 = .ok (.iconst 1, 1) := by decide +kernel
theorem dX10_init_22 : decode cX10_init 22 = .ok (.putfield 21, 3) := by decide +kernel
theorem dX10_init_25 : decode cX10_init 25 = .ok (.aload_n 0, 1) := by decide +kernel
theorem dX10_init_26 : decode cX10_init 26 = .ok (.iconst (-1), 1) := by decide +kernel
theorem dX10_init_27 : decode cX10_init 27 = .ok (.putfield 25, 3) := by decide +kernel
theorem dX10_init_30 : decode cX10_init 30 = .ok (.aload_n 0, 1) := by decide +kernel
theorem dX10_init_31 : decode cX10_init 31 = .ok (.iconst (-1), 1) := by decide +kernel
theorem dX10_init_32 : decode cX10_init 32 = .ok (.putfield 28, 3) := by decide +kernel
theorem dX10_init_35 : decode cX10_init 35 = .ok (.aload_n 0, 1) := by decide +kernel
theorem dX10_init_36 : decode cX10_init 36 = .ok (.iconst (-1), 1) := by decide +kernel
theorem dX10_init_37 : decode cX10_init 37 = .ok (.putfield 31, 3) := by decide +kernel
theorem dX10_init_40 : decode cX10_init 40 = .ok (.aload_n 0, 1) := by decide +kernel
theorem dX10_init_41 : decode cX10_init 41 = .ok (.iload_n 1, 1) := by decide +kernel
theorem dX10_init_42 : decode cX10_init 42 = .ok (.putfield 34, 3) := by decide +kernel
theorem dX10_init_45 : decode cX10_init 45 = .ok (.aload_n 0, 1) := by decide +kernel
theorem dX10_init_46 : decode cX10_init 46 = .ok (.iload_n 2, 1) := by decide +kernel
theorem dX10_init_47 : decode cX10_init 47 = .ok (.putfield 37, 3) := by decide +kernel
theorem dX10_init_50 : decode cX10_init 50 = .ok (.aload_n 0, 1) := by decide +kernel
theorem dX10_init_51 : decode cX10_init 51 = .ok (.iload_n 3, 1) := by decide +kernel
theorem dX10_init_52 : decode cX10_init 52 = .ok (.putfield 40, 3) := by decide +kernel
theorem dX10_init_55 : decode cX10_init 55 = .ok (.aload_n 0, 1) := by decide +kernel
theorem dX10_init_56 : decode cX10_init 56 = .ok (.new 15, 3) := by decide +kernel
theorem dX10_init_59 : decode cX10_init 59 = .ok (.dup, 1) := by decide +kernel
theorem dX10_init_60 : decode cX10_init 60 = .ok (.iload 4, 2) := by decide +kernel
theorem dX10_init_62 : decode cX10_init 62 = .ok (.invokespecial 43, 3) := by decide +kernel
theorem dX10_init_65 : decode cX10_init 65 = .ok (.putfield 46, 3) := by decide +kernel
theorem dX10_init_68 : decode cX10_init 68 = .ok (.aload_n 0, 1) := by decide +kernel
theorem dX10_init_69 : decode cX10_init 69 = .ok (.getfield 17, 3) := by decide +kernel
theorem dX10_init_72 : decode cX10_init 72 = .ok (.iconst 0, 1) := by decide +kernel
theorem dX10_init_73 : decode cX10_init 73 = .ok (.aload_n 0, 1) := by decide +kernel
theorem dX10_init_74 : decode cX10_init 74 = .ok (.getfield 46, 3) := by decide +kernel
theorem dX10_init_77 : decode cX10_init 77 = .ok (.aastore, 1) := by decide +kernel
theorem dX10_init_78 : decode cX10_init 78 = .ok (.return_, 1) := by decide +kernel
theorem e_X10_init_0 (d : Nat) {l0 l1 l2 l3 l4 : Int} {m : Mem} {v : Int} {m' : Mem} (h : X10_init_0 l0 l1 l2 l3 l4 m = some (v, m')) : Ex (d + 2) fm_X10_init 0 [(20, l0), (0, l1), (0, l2), (0, l3), (0, l4)] [] m (.inl (3, 0)) m' := by
  unfold X10_init_0 at h
  refine x_aload_n dX10_init_0 rfl rfl (Or.inr (by decide)) (?_ : Ex _ _ 1 _ _ _ _ _)
  obtain ⟨c1, h⟩ := chk_some h
  refine x_objInit (by decide) c1 oi_RX10_3 oi_a oi_b (Nat.le_of_ble_eq_true rfl) dX10_init_1 (?_ : Ex _ _ 4 _ _ _ _ _)
  refine x_aload_n dX10_init_4 rfl rfl (Or.inr (by decide)) (?_ : Ex _ _ 5 _ _ _ _ _)
  refine x_iconst dX10_init_5 rfl (by decide) (?_ : Ex _ _ 6 _ _ _ _ _)
  obtain ⟨i2, hi2, h⟩ := vl_some h
  obtain ⟨⟨c3, c4⟩, h⟩ := chk_some h
  obtain ⟨m5, hm5, h⟩ := st_some h
  refine na_i_2 c3 c4 dX10_init_6 (?_ : Ex _ _ 8 _ _ _ _ _)
  rw [← hm5]
  obtain ⟨m6, hm6, h⟩ := st_some h
  refine pt_10_3 rfl rfl c1 fl_RX10_9 dX10_init_8 (?_ : Ex _ _ 11 _ _ _ _ _)
  rw [← hm6]
  refine x_aload_n dX10_init_11 rfl rfl (Or.inr (by decide)) (?_ : Ex _ _ 12 _ _ _ _ _)
  refine x_bipush dX10_init_12 kb_9 (by decide) (?_ : Ex _ _ 14 _ _ _ _ _)
  obtain ⟨i7, hi7, h⟩ := vl_some h
  obtain ⟨⟨c8, c9⟩, h⟩ := chk_some h
  obtain ⟨m10, hm10, h⟩ := st_some h
  refine nq_7_9 c8 c9 cl_RX10_15 dX10_init_14 (?_ : Ex _ _ 17 _ _ _ _ _)
  rw [← hm10]
  obtain ⟨m11, hm11, h⟩ := st_some h
  refine pt_10_4 rfl rfl c1 fl_RX10_17 dX10_init_17 (?_ : Ex _ _ 20 _ _ _ _ _)
  rw [← hm11]
  refine x_aload_n dX10_init_20 rfl rfl (Or.inr (by decide)) (?_ : Ex _ _ 21 _ _ _ _ _)
  refine x_iconst dX10_init_21 rfl (by decide) (?_ : Ex _ _ 22 _ _ _ _ _)
  obtain ⟨m12, hm12, h⟩ := st_some h
  refine pt_10_5  c1 fl_RX10_21 dX10_init_22 (?_ : Ex _ _ 25 _ _ _ _ _)
  rw [← hm12]
  refine x_aload_n dX10_init_25 rfl rfl (Or.inr (by decide)) (?_ : Ex _ _ 26 _ _ _ _ _)
  refine x_iconst dX10_init_26 rfl (by decide) (?_ : Ex _ _ 27 _ _ _ _ _)
  obtain ⟨m13, hm13, h⟩ := st_some h
  refine pt_10_7  c1 fl_RX10_25 dX10_init_27 (?_ : Ex _ _ 30 _ _ _ _ _)
  rw [← hm13]
  refine x_aload_n dX10_init_30 rfl rfl (Or.inr (by decide)) (?_ : Ex _ _ 31 _ _ _ _ _)
  refine x_iconst dX10_init_31 rfl (by decide) (?_ : Ex _ _ 32 _ _ _ _ _)
  obtain ⟨m14, hm14, h⟩ := st_some h
  refine pt_10_8  c1 fl_RX10_28 dX10_init_32 (?_ : Ex _ _ 35 _ _ _ _ _)
  rw [← hm14]
  refine x_aload_n dX10_init_35 rfl rfl (Or.inr (by decide)) (?_ : Ex _ _ 36 _ _ _ _ _)
  refine x_iconst dX10_init_36 rfl (by decide) (?_ : Ex _ _ 37 _ _ _ _ _)
  obtain ⟨m15, hm15, h⟩ := st_some h
  refine pt_10_9  c1 fl_RX10_31 dX10_init_37 (?_ : Ex _ _ 40 _ _ _ _ _)
  rw [← hm15]
  refine x_aload_n dX10_init_40 rfl rfl (Or.inr (by decide)) (?_ : Ex _ _ 41 _ _ _ _ _)
  refine x_iload_n dX10_init_41 rfl rfl (?_ : Ex _ _ 42 _ _ _ _ _)
  obtain ⟨m16, hm16, h⟩ := st_some h
  refine pt_10_0 rfl rfl c1 fl_RX10_34 dX10_init_42 (?_ : Ex _ _ 45 _ _ _ _ _)
  rw [← hm16]
  refine x_aload_n dX10_init_45 rfl rfl (Or.inr (by decide)) (?_ : Ex _ _ 46 _ _ _ _ _)
  refine x_iload_n dX10_init_46 rfl rfl (?_ : Ex _ _ 47 _ _ _ _ _)
  obtain ⟨m17, hm17, h⟩ := st_some h
  refine pt_10_1 rfl rfl c1 fl_RX10_37 dX10_init_47 (?_ : Ex _ _ 50 _ _ _ _ _)
  rw [← hm17]
  refine x_aload_n dX10_init_50 rfl rfl (Or.inr (by decide)) (?_ : Ex _ _ 51 _ _ _ _ _)
  refine x_iload_n dX10_init_51 rfl rfl (?_ : Ex _ _ 52 _ _ _ _ _)
  obtain ⟨m18, hm18, h⟩ := st_some h
  refine pt_10_2 rfl rfl c1 fl_RX10_40 dX10_init_52 (?_ : Ex _ _ 55 _ _ _ _ _)
  rw [← hm18]
  refine x_aload_n dX10_init_55 rfl rfl (Or.inr (by decide)) (?_ : Ex _ _ 56 _ _ _ _ _)
  obtain ⟨i19, hi19, h⟩ := vl_some h
  obtain ⟨⟨c20, c21⟩, h⟩ := chk_some h
  obtain ⟨m22, hm22, h⟩ := st_some h
  refine nw_7 c20 c21 cl_RX10_15 dX10_init_56 (?_ : Ex _ _ 59 _ _ _ _ _)
  rw [← hm22]
  refine x_dup (by decide : (17 : Int) ≠ 2) dX10_init_59 (?_ : Ex _ _ 60 _ _ _ _ _)
  refine x_iload dX10_init_60 rfl (?_ : Ex _ _ 62 _ _ _ _ _)
  obtain ⟨v23, m24, g25, h⟩ := cal_some h
  refine cI1 (e_X7_init d g25) (contV (?_ : Ex _ _ 65 _ _ _ _ _)) og_X7_init rfl ml_RX10_43 rfl rfl (by decide) c20 im_X7_init (Nat.le_of_ble_eq_true rfl) dX10_init_62
  obtain ⟨m26, hm26, h⟩ := st_some h
  refine pt_10_6  c1 fl_RX10_46 dX10_init_65 (?_ : Ex _ _ 68 _ _ _ _ _)
  rw [← hm26]
  refine x_aload_n dX10_init_68 rfl rfl (Or.inr (by decide)) (?_ : Ex _ _ 69 _ _ _ _ _)
  refine gt_10_4 c1 fl_RX10_17 dX10_init_69 (?_ : Ex _ _ 72 _ _ _ _ _)
  refine x_iconst dX10_init_72 rfl (by decide) (?_ : Ex _ _ 73 _ _ _ _ _)
  refine x_aload_n dX10_init_73 rfl rfl (Or.inr (by decide)) (?_ : Ex _ _ 74 _ _ _ _ _)
  refine gt_10_6 c1 fl_RX10_46 dX10_init_74 (?_ : Ex _ _ 77 _ _ _ _ _)
  obtain ⟨⟨c27, c28⟩, h⟩ := chk_some h
  obtain ⟨m29, hm29, h⟩ := st_some h
  refine as_7_9 c27 c28 (by decide) (by decide) dX10_init_77 (?_ : Ex _ _ 78 _ _ _ _ _)
  rw [← hm29]
  cases h
  exact x_retv dX10_init_78
theorem e_X10_init (d : Nat) {a0 a1 a2 a3 a4 : Int} {m : Mem} {v : Int} {m' : Mem} (h : X10_init a0 a1 a2 a3 a4 m = some (v, m')) : ExM (d + 2) fm_X10_init [(20, a0), (0, a1), (0, a2), (0, a3), (0, a4)] m (.inl (3, 0)) m' := by
  exact ExM.of (by decide +kernel) (Nat.le_of_ble_eq_true rfl) (cat9 rfl) retV (e_X10_init_0 d h)
