/-! the machine does what the functions say, printed -/
theorem dX10_beginRun_0 : decode cX10_beginRun 0 = .ok (.aload_n 0, 1) := by decide +kernel
theorem dX10_beginRun_1 : decode cX10_beginRun 1 = .ok (.getfield 21, 3) := by decide +kernel
theorem dX10_beginRun_4 : decode cX10_beginRun 4 = .ok (.bipush 9, 2) := by decide +kernel
theorem dX10_beginRun_6 : decode cX10_beginRun 6 = .ok (.if_icmp .ge 38, 3) := by decide +kernel
theorem dX10_beginRun_9 : decode cX10_beginRun 9 = .ok (.aload_n 0, 1) := by decide +kernel
theorem dX10_beginRun_10 : decode cX10_beginRun 10 = .ok (.new 15, 3) := by decide +kernel
theorem dX10_beginRun_13 : decode cX10_beginRun 13 = .ok (.dup, 1) := by decide +kernel
theorem dX10_beginRun_14 : decode cX10_beginRun 14 = .ok (.iload_n 1, 1) := by decide +kernel
theorem dX10_beginRun_15 : decode cX10_beginRun 15 = .ok (.invokespecial 43, 3) := by decide +kernel
theorem dX10_beginRun_18 : decode cX10_beginRun 18 = .ok (.putfield 46, 3) := by decide +kernel
theorem dX10_beginRun_21 : decode cX10_beginRun 21 = .ok (.aload_n 0, 1) := by decide +kernel
theorem dX10_beginRun_22 : decode cX10_beginRun 22 = .ok (.getfield 17, 3) := by decide +kernel
theorem dX10_beginRun_25 : decode cX10_beginRun 25 = .ok (.aload_n 0, 1) := by decide +kernel
theorem dX10_beginRun_26 : decode cX10_beginRun 26 = .ok (.getfield 21, 3) := by decide +kernel
theorem dX10_beginRun_29 : decode cX10_beginRun 29 = .ok (.aload_n 0, 1) := by decide +kernel
theorem dX10_beginRun_30 : decode cX10_beginRun 30 = .ok (.getfield 46, 3) := by decide +kernel
theorem dX10_beginRun_33 : decode cX10_beginRun 33 = .ok (.aastore, 1) := by decide +kernel
theorem dX10_beginRun_34 : decode cX10_beginRun 34 = .ok (.aload_n 0, 1) := by decide +kernel
theorem dX10_beginRun_35 : decode cX10_beginRun 35 = .ok (.dup, 1) := by decide +kernel
theorem dX10_beginRun_36 : decode cX10_beginRun 36 = .ok (.getfield 21, 3) := by decide +kernel
theorem dX10_beginRun_39 : decode cX10_beginRun 39 = .ok (.iconst 1, 1) := by decide +kernel
theorem dX10_beginRun_40 : decode cX10_beginRun 40 = .ok (.iadd, 1) := by decide +kernel
theorem dX10_beginRun_41 : decode cX10_beginRun 41 = .ok (.putfield 21, 3) := by decide +kernel
theorem dX10_beginRun_44 : decode cX10_beginRun 44 = .ok (.return_, 1) := by decide +kernel
theorem e_X10_beginRun_0 (d : Nat) {l0 l1 : Int} {m : Mem} {v : Int} {m' : Mem} (h : X10_beginRun_0 l0 l1 m = some (v, m')) : Ex (d + 2) fm_X10_beginRun 0 [(20, l0), (0, l1)] [] m (.inl (3, 0)) m' := by
  unfold X10_beginRun_0 at h
  refine x_aload_n dX10_beginRun_0 rfl rfl (Or.inr (by decide)) (?_ : Ex _ _ 1 _ _ _ _ _)
  obtain ⟨c1, h⟩ := chk_some h
  refine gt_10_5 c1 fl_RX10_21 dX10_beginRun_1 (?_ : Ex _ _ 4 _ _ _ _ _)
  refine x_bipush dX10_beginRun_4 kb_9 (by decide) (?_ : Ex _ _ 6 _ _ _ _ _)
  rcases ite_some h with ⟨b2, h⟩ | ⟨b2, h⟩
  · refine x_icmp_ge (tgt := 44) dX10_beginRun_6 rfl b2 (?_ : Ex _ _ 44 _ _ _ _ _)
    cases h
    exact x_retv dX10_beginRun_44
  · refine x_icmp_geN dX10_beginRun_6 (by decide) b2 (?_ : Ex _ _ 9 _ _ _ _ _)
    refine x_aload_n dX10_beginRun_9 rfl rfl (Or.inr (by decide)) (?_ : Ex _ _ 10 _ _ _ _ _)
    obtain ⟨i3, hi3, h⟩ := vl_some h
    obtain ⟨⟨c4, c5⟩, h⟩ := chk_some h
    obtain ⟨m6, hm6, h⟩ := st_some h
    refine nw_7 c4 c5 cl_RX10_15 dX10_beginRun_10 (?_ : Ex _ _ 13 _ _ _ _ _)
    rw [← hm6]
    refine x_dup (by decide : (17 : Int) ≠ 2) dX10_beginRun_13 (?_ : Ex _ _ 14 _ _ _ _ _)
    refine x_iload_n dX10_beginRun_14 rfl rfl (?_ : Ex _ _ 15 _ _ _ _ _)
    obtain ⟨v7, m8, g9, h⟩ := cal_some h
    refine cI1 (e_X7_init d g9) (contV (?_ : Ex _ _ 18 _ _ _ _ _)) og_X7_init rfl ml_RX10_43 rfl rfl (by decide) c4 im_X7_init (Nat.le_of_ble_eq_true rfl) dX10_beginRun_15
    obtain ⟨m10, hm10, h⟩ := st_some h
    refine pt_10_6  c1 fl_RX10_46 dX10_beginRun_18 (?_ : Ex _ _ 21 _ _ _ _ _)
    rw [← hm10]
    refine x_aload_n dX10_beginRun_21 rfl rfl (Or.inr (by decide)) (?_ : Ex _ _ 22 _ _ _ _ _)
    refine gt_10_4 c1 fl_RX10_17 dX10_beginRun_22 (?_ : Ex _ _ 25 _ _ _ _ _)
    refine x_aload_n dX10_beginRun_25 rfl rfl (Or.inr (by decide)) (?_ : Ex _ _ 26 _ _ _ _ _)
    refine gt_10_5 c1 fl_RX10_21 dX10_beginRun_26 (?_ : Ex _ _ 29 _ _ _ _ _)
    refine x_aload_n dX10_beginRun_29 rfl rfl (Or.inr (by decide)) (?_ : Ex _ _ 30 _ _ _ _ _)
    refine gt_10_6 c1 fl_RX10_46 dX10_beginRun_30 (?_ : Ex _ _ 33 _ _ _ _ _)
    obtain ⟨⟨c11, c12, c13, c14⟩, h⟩ := chk_some h
    obtain ⟨m15, hm15, h⟩ := st_some h
    refine as_7_9 c11 c14 c12 c13 dX10_beginRun_33 (?_ : Ex _ _ 34 _ _ _ _ _)
    rw [← hm15]
    refine x_aload_n dX10_beginRun_34 rfl rfl (Or.inr (by decide)) (?_ : Ex _ _ 35 _ _ _ _ _)
    refine x_dup (by decide : (20 : Int) ≠ 2) dX10_beginRun_35 (?_ : Ex _ _ 36 _ _ _ _ _)
    refine gt_10_5 c1 fl_RX10_21 dX10_beginRun_36 (?_ : Ex _ _ 39 _ _ _ _ _)
    refine x_iconst dX10_beginRun_39 rfl (by decide) (?_ : Ex _ _ 40 _ _ _ _ _)
    obtain ⟨c16, h⟩ := chk_some h
    refine x_iadd dX10_beginRun_40 c16 (?_ : Ex _ _ 41 _ _ _ _ _)
    obtain ⟨m17, hm17, h⟩ := st_some h
    refine pt_10_5  c1 fl_RX10_21 dX10_beginRun_41 (?_ : Ex _ _ 44 _ _ _ _ _)
    rw [← hm17]
    cases h
    exact x_retv dX10_beginRun_44
theorem e_X10_beginRun (d : Nat) {a0 a1 : Int} {m : Mem} {v : Int} {m' : Mem} (h : X10_beginRun a0 a1 m = some (v, m')) : ExM (d + 2) fm_X10_beginRun [(20, a0), (0, a1)] m (.inl (3, 0)) m' := by
  exact ExM.of (by decide +kernel) (Nat.le_of_ble_eq_true rfl) (cat9 rfl) retV (e_X10_beginRun_0 d h)
theorem dX10_tell_0 : decode cX10_tell 0 = .ok (.iload_n 1, 1) := by decide +kernel
theorem dX10_tell_1 : decode cX10_tell 1 = .ok (.ifCond .lt 15, 3) := by decide +kernel
theorem dX10_tell_4 : decode cX10_tell 4 = .ok (.iload_n 1, 1) := by decide +kernel
theorem dX10_tell_5 : decode cX10_tell 5 = .ok (.iconst 2, 1) := by decide +kernel
theorem dX10_tell_6 : decode cX10_tell 6 = .ok (.if_icmp .ge 10, 3) := by decide +kernel
theorem dX10_tell_9 : decode cX10_tell 9 = .ok (.aload_n 0, 1) := by decide +kernel
theorem dX10_tell_10 : decode cX10_tell 10 = .ok (.getfield 9, 3) := by decide +kernel
theorem dX10_tell_13 : decode cX10_tell 13 = .ok (.iload_n 1, 1) := by decide +kernel
theorem dX10_tell_14 : decode cX10_tell 14 = .ok (.iload_n 2, 1) := by decide +kernel
theorem dX10_tell_15 : decode cX10_tell 15 = .ok (.iastore, 1) := by decide +kernel
theorem dX10_tell_16 : decode cX10_tell 16 = .ok (.return_, 1) := by decide +kernel
theorem e_X10_tell_0 (d : Nat) {l0 l1 l2 : Int} {m : Mem} {v : Int} {m' : Mem} (h : X10_tell_0 l0 l1 l2 m = some (v, m')) : Ex d fm_X10_tell 0 [(20, l0), (0, l1), (0, l2)] [] m (.inl (3, 0)) m' := by
  unfold X10_tell_0 at h
  refine x_iload_n dX10_tell_0 rfl rfl (?_ : Ex _ _ 1 _ _ _ _ _)
  rcases ite_some h with ⟨b1, h⟩ | ⟨b1, h⟩
  · refine x_if_lt (tgt := 16) dX10_tell_1 rfl b1 (?_ : Ex _ _ 16 _ _ _ _ _)
    cases h
    exact x_retv dX10_tell_16
  · refine x_if_ltN dX10_tell_1 (by decide) b1 (?_ : Ex _ _ 4 _ _ _ _ _)
    refine x_iload_n dX10_tell_4 rfl rfl (?_ : Ex _ _ 5 _ _ _ _ _)
    refine x_iconst dX10_tell_5 rfl (by decide) (?_ : Ex _ _ 6 _ _ _ _ _)
    rcases ite_some h with ⟨b2, h⟩ | ⟨b2, h⟩
    · refine x_icmp_ge (tgt := 16) dX10_tell_6 rfl b2 (?_ : Ex _ _ 16 _ _ _ _ _)
      cases h
      exact x_retv dX10_tell_16
    · refine x_icmp_geN dX10_tell_6 (by decide) b2 (?_ : Ex _ _ 9 _ _ _ _ _)
      refine x_aload_n dX10_tell_9 rfl rfl (Or.inr (by decide)) (?_ : Ex _ _ 10 _ _ _ _ _)
      obtain ⟨c3, h⟩ := chk_some h
      refine gt_10_3 c3 fl_RX10_9 dX10_tell_10 (?_ : Ex _ _ 13 _ _ _ _ _)
      refine x_iload_n dX10_tell_13 rfl rfl (?_ : Ex _ _ 14 _ _ _ _ _)
      refine x_iload_n dX10_tell_14 rfl rfl (?_ : Ex _ _ 15 _ _ _ _ _)
      obtain ⟨⟨c4, c5, c6⟩, h⟩ := chk_some h
      obtain ⟨m7, hm7, h⟩ := st_some h
      refine sd_i_2 c4 c5 c6 dX10_tell_15 (?_ : Ex _ _ 16 _ _ _ _ _)
      rw [← hm7]
      cases h
      exact x_retv dX10_tell_16
theorem e_X10_tell (d : Nat) {a0 a1 a2 : Int} {m : Mem} {v : Int} {m' : Mem} (h : X10_tell a0 a1 a2 m = some (v, m')) : ExM d fm_X10_tell [(20, a0), (0, a1), (0, a2)] m (.inl (3, 0)) m' := by
  exact ExM.of (by decide +kernel) (Nat.le_of_ble_eq_true rfl) (cat9 rfl) retV (e_X10_tell_0 d h)
theorem dX11_init_0 : decode cX11_init 0 = .ok (.aload_n 0, 1) := by decide +kernel
theorem dX11_init_1 : decode cX11_init 1 = .ok (.invokespecial 1, 3) := by decide +kernel
theorem dX11_init_4 : decode cX11_init 4 = .ok (.aload_n 0, 1) := by decide +kernel
theorem dX11_init_5 : decode cX11_init 5 = .ok (.iconst 3, 1) := by decide +kernel
theorem dX11_init_6 : decode cX11_init 6 = .ok (.anewarray 9, 3) := by decide +kernel
theorem dX11_init_9 : decode cX11_init 9 = .ok (.putfield 11, 3) := by decide +kernel
theorem dX11_init_12 : decode cX11_init 12 = .ok (.aload_n 0, 1) := by decide +kernel
theorem dX11_init_13 : decode cX11_init 13 = .ok (.bipush 10, 2) := by decide +kernel
theorem dX11_init_15 : decode cX11_init 15 = .ok (.anewarray 15, 3) := by decide +kernel
theorem dX11_init_18 : decode cX11_init 18 = .ok (.putfield 17, 3) := by decide +kernel
theorem dX11_init_21 : decode cX11_init 21 = .ok (.aload_n 0, 1) := by decide +kernel
theorem dX11_init_22 : decode cX11_init 22 = .ok (.iconst 2, 1) := by decide +kernel
theorem dX11_init_23 : decode cX11_init 23 = .ok (.anewarray 21, 3) := by decide +kernel
theorem dX11_init_26 : decode cX11_init 26 = .ok (.putfield 23, 3) := by decide +kernel
theorem dX11_init_29 : decode cX11_init 29 = .ok (.aload_n 0, 1) := by decide +kernel
theorem dX11_init_30 : decode cX11_init 30 = .ok (.iconst 4, 1) := by decide +kernel
theorem dX11_init_31 : decode cX11_init 31 = .ok (.anewarray 27, 3) := by decide +kernel
theorem dX11_init_34 : decode cX11_init 34 = .ok (.putfield 29, 3) := by decide +kernel
theorem dX11_init_37 : decode cX11_init 37 = .ok (.aload_n 0, 1) := by decide +kernel
theorem dX11_init_38 : decode cX11_init 38 = .ok (.new 33, 3) := by decide +kernel
theorem dX11_init_41 : decode cX11_init 41 = .ok (.dup, 1) := by decide +kernel
theorem dX11_init_42 : decode cX11_init 42 = .ok (.invokespecial 35, 3) := by decide +kernel
theorem dX11_init_45 : decode cX11_init 45 = .ok (.putfield 36, 3) := by decide +kernel
theorem dX11_init_48 : decode cX11_init 48 = .ok (.iconst 0, 1) := by decide +kernel
theorem dX11_init_49 : decode cX11_init 49 = .ok (.istore_n 1, 1) := by decide +kernel
theorem dX11_init_50 : decode cX11_init 50 = .ok (.iload_n 1, 1) := by decide +kernel
theorem dX11_init_51 : decode cX11_init 51 = .ok (.iconst 3, 1) := by decide +kernel
theorem dX11_init_52 : decode cX11_init 52 = .ok (.if_icmp .ge 22, 3) := by decide +kernel
theorem dX11_init_55 : decode cX11_init 55 = .ok (.aload_n 0, 1) := by decide +kernel
theorem dX11_init_56 : decode cX11_init 56 = .ok (.getfield 11, 3) := by decide +kernel
theorem dX11_init_59 : decode cX11_init 59 = .ok (.iload_n 1, 1) := by decide +kernel
theorem dX11_init_60 : decode cX11_init 60 = .ok (.new 9, 3) := by decide +kernel
theorem dX11_init_63 : decode cX11_init 63 = .ok (.dup, 1) := by decide +kernel
theorem dX11_init_64 : decode cX11_init 64 = .ok (.invokespecial 40, 3) := by decide +kernel
theorem dX11_init_67 : decode cX11_init 67 = .ok (.aastore, 1) := by decide +kernel
theorem dX11_init_68 : decode cX11_init 68 = .ok (.iinc 1 1, 3) := by decide +kernel
theorem dX11_init_71 : decode cX11_init 71 = .ok (.goto (-21), 3) := by decide +kernel
theorem dX11_init_74 : decode cX11_init 74 = .ok (.iconst 0, 1) := by decide +kernel
theorem dX11_init_75 : decode cX11_init 75 = .ok (.istore_n 1, 1) := by decide +kernel
theorem dX11_init_76 : decode cX11_init 76 = .ok (.iload_n 1, 1) := by decide +kernel
theorem dX11_init_77 : decode cX11_init 77 = .ok (.iconst 2, 1) := by decide +kernel
theorem dX11_init_78 : decode cX11_init 78 = .ok (.if_icmp .ge 22, 3) := by decide +kernel
theorem dX11_init_81 : decode cX11_init 81 = .ok (.aload_n 0, 1) := by decide +kernel
theorem dX11_init_82 : decode cX11_init 82 = .ok (.getfield 23, 3) := by decide +kernel
theorem dX11_init_85 : decode cX11_init 85 = .ok (.iload_n 1, 1) := by decide +kernel
theorem dX11_init_86 : decode cX11_init 86 = .ok (.new 21, 3) := by decide +kernel
theorem dX11_init_89 : decode cX11_init 89 = .ok (.dup, 1) := by decide +kernel
theorem dX11_init_90 : decode cX11_init 90 = .ok (.invokespecial 41, 3) := by decide +kernel
theorem dX11_init_93 : decode cX11_init 93 = .ok (.aastore, 1) := by decide +kernel
theorem dX11_init_94 : decode cX11_init 94 = .ok (.iinc 1 1, 3) := by decide +kernel
theorem dX11_init_97 : decode cX11_init 97 = .ok (.goto (-21), 3) := by decide +kernel
theorem dX11_init_100 : decode cX11_init 100 = .ok (.iconst 0, 1) := by decide +kernel
theorem dX11_init_101 : decode cX11_init 101 = .ok (.istore_n 1, 1) := by decide +kernel
theorem dX11_init_102 : decode cX11_init 102 = .ok (.iload_n 1, 1) := by decide +kernel
theorem dX11_init_103 : decode cX11_init 103 = .ok (.iconst 4, 1) := by decide +kernel
theorem dX11_init_104 : decode cX11_init 104 = .ok (.if_icmp .ge 22, 3) := by decide +kernel
theorem dX11_init_107 : decode cX11_init 107 = .ok (.aload_n 0, 1) := by decide +kernel
theorem dX11_init_108 : decode cX11_init 108 = .ok (.getfield 29, 3) := by decide +kernel
theorem dX11_init_111 : decode cX11_init 111 = .ok (.iload_n 1, 1) := by decide +kernel
theorem dX11_init_112 : decode cX11_init 112 = .ok (.new 27, 3) := by decide +kernel
theorem dX11_init_115 : decode cX11_init 115 = .ok (.dup, 1) := by decide +kernel
theorem dX11_init_116 : decode cX11_init 116 = .ok (.invokespecial 42, 3) := by decide +kernel
theorem dX11_init_119 : decode cX11_init 119 = .ok (.aastore, 1) := by decide +kernel
theorem dX11_init_120 : decode cX11_init 120 = .ok (.iinc 1 1, 3) := by decide +kernel
theorem dX11_init_123 : decode cX11_init 123 = .ok (.goto (-21), 3) := by decide +kernel
theorem dX11_init_126 : decode cX11_init 126 = .ok (.return_, 1) := by decide +kernel
theorem e_X11_init_102 (d : Nat) : ∀ (n : Nat) {l0 l1 : Int} {m : Mem} {v : Int} {m' : Mem}, X11_init_102 n l0 l1 m = some (v, m') → Ex (d + 3) fm_X11_init 102 [(21, l0), (0, l1)] [] m (.inl (3, 0)) m' := by
  intro n
  induction n with
  | zero =>
    intro l0 l1 m v m' h
    have h : (none : Option R2) = some _ := h
    cases h
  | succ n ih =>
    intro l0 l1 m v m' h
    rw [X11_init_102] at h
    refine x_iload_n dX11_init_102 rfl rfl (?_ : Ex _ _ 103 _ _ _ _ _)
    refine x_iconst dX11_init_103 rfl (by decide) (?_ : Ex _ _ 104 _ _ _ _ _)
    rcases ite_some h with ⟨b1, h⟩ | ⟨b1, h⟩
    · refine x_icmp_ge (tgt := 126) dX11_init_104 rfl b1 (?_ : Ex _ _ 126 _ _ _ _ _)
      cases h
      exact x_retv dX11_init_126
    · refine x_icmp_geN dX11_init_104 (by decide) b1 (?_ : Ex _ _ 107 _ _ _ _ _)
      refine x_aload_n dX11_init_107 rfl rfl (Or.inr (by decide)) (?_ : Ex _ _ 108 _ _ _ _ _)
      obtain ⟨c2, h⟩ := chk_some h
      refine gt_11_3 c2 fl_RX11_29 dX11_init_108 (?_ : Ex _ _ 111 _ _ _ _ _)
      refine x_iload_n dX11_init_111 rfl rfl (?_ : Ex _ _ 112 _ _ _ _ _)
      obtain ⟨i3, hi3, h⟩ := vl_some h
      obtain ⟨⟨c4, c5⟩, h⟩ := chk_some h
      obtain ⟨m6, hm6, h⟩ := st_some h
      refine nw_9 c4 c5 cl_RX11_27 dX11_init_112 (?_ : Ex _ _ 115 _ _ _ _ _)
      rw [← hm6]
      refine x_dup (by decide : (19 : Int) ≠ 2) dX11_init_115 (?_ : Ex _ _ 116 _ _ _ _ _)
      obtain ⟨v7, m8, g9, h⟩ := cal_some h
      refine cN0 (e_X9_init (d + 2) g9) (contV (?_ : Ex _ _ 119 _ _ _ _ _)) og_X9_init rfl nl_RX11_42 rfl rfl (by decide) c4 im_X9_init (Nat.le_of_ble_eq_true rfl) dX11_init_116
      obtain ⟨⟨c10, c11, c12⟩, h⟩ := chk_some h
      obtain ⟨m13, hm13, h⟩ := st_some h
      refine as_9_4 c10 c4 c11 c12 dX11_init_119 (?_ : Ex _ _ 120 _ _ _ _ _)
      rw [← hm13]
      obtain ⟨c14, h⟩ := chk_some h
      refine x_iinc (ls2 := [(21, l0), (0, (l1 + 1))]) dX11_init_120 rfl c14 rfl (?_ : Ex _ _ 123 _ _ _ _ _)
      refine x_goto (tgt := 102) dX11_init_123 rfl (?_ : Ex _ _ 102 _ _ _ _ _)
      exact ih h
theorem e_X11_init_76 (d : Nat) {k102 : Int → Int → Mem → Option R2} (hk102 : ∀ {l0 l1 : Int} {m : Mem} {v : Int} {m' : Mem}, k102 l0 l1 m = some (v, m') → Ex (d + 3) fm_X11_init 102 [(21, l0), (0, l1)] [] m (.inl (3, 0)) m') : ∀ (n : Nat) {l0 l1 : Int} {m : Mem} {v : Int} {m' : Mem}, X11_init_76 k102 n l0 l1 m = some (v, m') → Ex (d + 3) fm_X11_init 76 [(21, l0), (0, l1)] [] m (.inl (3, 0)) m' := by
  intro n
  induction n with
  | zero =>
    intro l0 l1 m v m' h
    have h : (none : Option R2) = some _ := h
    cases h
  | succ n ih =>
    intro l0 l1 m v m' h
    rw [X11_init_76] at h
    refine x_iload_n dX11_init_76 rfl rfl (?_ : Ex _ _ 77 _ _ _ _ _)
    refine x_iconst dX11_init_77 rfl (by decide) (?_ : Ex _ _ 78 _ _ _ _ _)
    rcases ite_some h with ⟨b1, h⟩ | ⟨b1, h⟩
    · refine x_icmp_ge (tgt := 100) dX11_init_78 rfl b1 (?_ : Ex _ _ 100 _ _ _ _ _)
      refine x_iconst dX11_init_100 rfl (by decide) (?_ : Ex _ _ 101 _ _ _ _ _)
      refine x_istore_n (ls2 := [(21, l0), (0, 0)]) dX11_init_101 rfl (Nat.le_of_ble_eq_true rfl) rfl (?_ : Ex _ _ 102 _ _ _ _ _)
      exact hk102 h
    · refine x_icmp_geN dX11_init_78 (by decide) b1 (?_ : Ex _ _ 81 _ _ _ _ _)
      refine x_aload_n dX11_init_81 rfl rfl (Or.inr (by decide)) (?_ : Ex _ _ 82 _ _ _ _ _)
      obtain ⟨c2, h⟩ := chk_some h
      refine gt_11_2 c2 fl_RX11_23 dX11_init_82 (?_ : Ex _ _ 85 _ _ _ _ _)
      refine x_iload_n dX11_init_85 rfl rfl (?_ : Ex _ _ 86 _ _ _ _ _)
      obtain ⟨i3, hi3, h⟩ := vl_some h
      obtain ⟨⟨c4, c5⟩, h⟩ := chk_some h
      obtain ⟨m6, hm6, h⟩ := st_some h
      refine nw_6 c4 c5 cl_RX11_21 dX11_init_86 (?_ : Ex _ _ 89 _ _ _ _ _)
      rw [← hm6]
      refine x_dup (by decide : (16 : Int) ≠ 2) dX11_init_89 (?_ : Ex _ _ 90 _ _ _ _ _)
      obtain ⟨v7, m8, g9, h⟩ := cal_some h
      refine cN0 (e_X6_init (d + 2) g9) (contV (?_ : Ex _ _ 93 _ _ _ _ _)) og_X6_init rfl nl_RX11_41 rfl rfl (by decide) c4 im_X6_init (Nat.le_of_ble_eq_true rfl) dX11_init_90
      obtain ⟨⟨c10, c11, c12⟩, h⟩ := chk_some h
      obtain ⟨m13, hm13, h⟩ := st_some h
      refine as_6_2 c10 c4 c11 c12 dX11_init_93 (?_ : Ex _ _ 94 _ _ _ _ _)
      rw [← hm13]
      obtain ⟨c14, h⟩ := chk_some h
      refine x_iinc (ls2 := [(21, l0), (0, (l1 + 1))]) dX11_init_94 rfl c14 rfl (?_ : Ex _ _ 97 _ _ _ _ _)
      refine x_goto (tgt := 76) dX11_init_97 rfl (?_ : Ex _ _ 76 _ _ _ _ _)
      exact ih h
theorem e_X11_init_50 (d : Nat) {k76 : Int → Int → Mem → Option R2} (hk76 : ∀ {l0 l1 : Int} {m : Mem} {v : Int} {m' : Mem}, k76 l0 l1 m = some (v, m') → Ex (d + 3) fm_X11_init 76 [(21, l0), (0, l1)] [] m (.inl (3, 0)) m') : ∀ (n : Nat) {l0 l1 : Int} {m : Mem} {v : Int} {m' : Mem}, X11_init_50 k76 n l0 l1 m = some (v, m') → Ex (d + 3) fm_X11_init 50 [(21, l0), (0, l1)] [] m (.inl (3, 0)) m' := by
  intro n
  induction n with
  | zero =>
    intro l0 l1 m v m' h
    have h : (none : Option R2) = some _ := h
    cases h
  | succ n ih =>
    intro l0 l1 m v m' h
    rw [X11_init_50] at h
    refine x_iload_n dX11_init_50 rfl rfl (?_ : Ex _ _ 51 _ _ _ _ _)
    refine x_iconst dX11_init_51 rfl (by decide) (?_ : Ex _ _ 52 _ _ _ _ _)
    rcases ite_some h with ⟨b1, h⟩ | ⟨b1, h⟩
    · refine x_icmp_ge (tgt := 74) dX11_init_52 rfl b1 (?_ : Ex _ _ 74 _ _ _ _ _)
      refine x_iconst dX11_init_74 rfl (by decide) (?_ : Ex _ _ 75 _ _ _ _ _)
      refine x_istore_n (ls2 := [(21, l0), (0, 0)]) dX11_init_75 rfl (Nat.le_of_ble_eq_true rfl) rfl (?_ : Ex _ _ 76 _ _ _ _ _)
      exact hk76 h
    · refine x_icmp_geN dX11_init_52 (by decide) b1 (?_ : Ex _ _ 55 _ _ _ _ _)
      refine x_aload_n dX11_init_55 rfl rfl (Or.inr (by decide)) (?_ : Ex _ _ 56 _ _ _ _ _)
      obtain ⟨c2, h⟩ := chk_some h
      refine gt_11_0 c2 fl_RX11_11 dX11_init_56 (?_ : Ex _ _ 59 _ _ _ _ _)
      refine x_iload_n dX11_init_59 rfl rfl (?_ : Ex _ _ 60 _ _ _ _ _)
      obtain ⟨i3, hi3, h⟩ := vl_some h
      obtain ⟨⟨c4, c5⟩, h⟩ := chk_some h
      obtain ⟨m6, hm6, h⟩ := st_some h
      refine nw_2 c4 c5 cl_RX11_9 dX11_init_60 (?_ : Ex _ _ 63 _ _ _ _ _)
      rw [← hm6]
      refine x_dup (by decide : (12 : Int) ≠ 2) dX11_init_63 (?_ : Ex _ _ 64 _ _ _ _ _)
      obtain ⟨v7, m8, g9, h⟩ := cal_some h
      refine cN0 (e_X2_init (d + 1) g9) (contV (?_ : Ex _ _ 67 _ _ _ _ _)) og_X2_init rfl nl_RX11_40 rfl rfl (by decide) c4 im_X2_init (Nat.le_of_ble_eq_true rfl) dX11_init_64
      obtain ⟨⟨c10, c11, c12⟩, h⟩ := chk_some h
      obtain ⟨m13, hm13, h⟩ := st_some h
      refine as_2_3 c10 c4 c11 c12 dX11_init_67 (?_ : Ex _ _ 68 _ _ _ _ _)
      rw [← hm13]
      obtain ⟨c14, h⟩ := chk_some h
      refine x_iinc (ls2 := [(21, l0), (0, (l1 + 1))]) dX11_init_68 rfl c14 rfl (?_ : Ex _ _ 71 _ _ _ _ _)
      refine x_goto (tgt := 50) dX11_init_71 rfl (?_ : Ex _ _ 50 _ _ _ _ _)
      exact ih h
theorem e_X11_init_0 (d : Nat) {l0 : Int} {m : Mem} {v : Int} {m' : Mem} (h : X11_init_0 l0 m = some (v, m')) : Ex (d + 3) fm_X11_init 0 [(21, l0), (3, 0)] [] m (.inl (3, 0)) m' := by
  unfold X11_init_0 at h
  refine x_aload_n dX11_init_0 rfl rfl (Or.inr (by decide)) (?_ : Ex _ _ 1 _ _ _ _ _)
  obtain ⟨c1, h⟩ := chk_some h
  refine x_objInit (by decide) c1 oi_RX11_1 oi_a oi_b (Nat.le_of_ble_eq_true rfl) dX11_init_1 (?_ : Ex _ _ 4 _ _ _ _ _)
  refine x_aload_n dX11_init_4 rfl rfl (Or.inr (by decide)) (?_ : Ex _ _ 5 _ _ _ _ _)
  refine x_iconst dX11_init_5 rfl (by decide) (?_ : Ex _ _ 6 _ _ _ _ _)
  obtain ⟨c2, h⟩ := chk_some h
  obtain ⟨m3, hm3, h⟩ := st_some h
  refine nq_2_3 (by decide) c2 cl_RX11_9 dX11_init_6 (?_ : Ex _ _ 9 _ _ _ _ _)
  rw [← hm3]
  obtain ⟨m4, hm4, h⟩ := st_some h
  refine pt_11_0 rfl rfl c1 fl_RX11_11 dX11_init_9 (?_ : Ex _ _ 12 _ _ _ _ _)
  rw [← hm4]
  refine x_aload_n dX11_init_12 rfl rfl (Or.inr (by decide)) (?_ : Ex _ _ 13 _ _ _ _ _)
  refine x_bipush dX11_init_13 kb_10 (by decide) (?_ : Ex _ _ 15 _ _ _ _ _)
  obtain ⟨c5, h⟩ := chk_some h
  obtain ⟨m6, hm6, h⟩ := st_some h
  refine nq_10_10 (by decide) c5 cl_RX11_15 dX11_init_15 (?_ : Ex _ _ 18 _ _ _ _ _)
  rw [← hm6]
  obtain ⟨m7, hm7, h⟩ := st_some h
  refine pt_11_1 rfl rfl c1 fl_RX11_17 dX11_init_18 (?_ : Ex _ _ 21 _ _ _ _ _)
  rw [← hm7]
  refine x_aload_n dX11_init_21 rfl rfl (Or.inr (by decide)) (?_ : Ex _ _ 22 _ _ _ _ _)
  refine x_iconst dX11_init_22 rfl (by decide) (?_ : Ex _ _ 23 _ _ _ _ _)
  obtain ⟨c8, h⟩ := chk_some h
  obtain ⟨m9, hm9, h⟩ := st_some h
  refine nq_6_2 (by decide) c8 cl_RX11_21 dX11_init_23 (?_ : Ex _ _ 26 _ _ _ _ _)
  rw [← hm9]
  obtain ⟨m10, hm10, h⟩ := st_some h
  refine pt_11_2 rfl rfl c1 fl_RX11_23 dX11_init_26 (?_ : Ex _ _ 29 _ _ _ _ _)
  rw [← hm10]
  refine x_aload_n dX11_init_29 rfl rfl (Or.inr (by decide)) (?_ : Ex _ _ 30 _ _ _ _ _)
  refine x_iconst dX11_init_30 rfl (by decide) (?_ : Ex _ _ 31 _ _ _ _ _)
  obtain ⟨c11, h⟩ := chk_some h
  obtain ⟨m12, hm12, h⟩ := st_some h
  refine nq_9_4 (by decide) c11 cl_RX11_27 dX11_init_31 (?_ : Ex _ _ 34 _ _ _ _ _)
  rw [← hm12]
  obtain ⟨m13, hm13, h⟩ := st_some h
  refine pt_11_3 rfl rfl c1 fl_RX11_29 dX11_init_34 (?_ : Ex _ _ 37 _ _ _ _ _)
  rw [← hm13]
  refine x_aload_n dX11_init_37 rfl rfl (Or.inr (by decide)) (?_ : Ex _ _ 38 _ _ _ _ _)
  obtain ⟨c14, h⟩ := chk_some h
  obtain ⟨m15, hm15, h⟩ := st_some h
  refine nw_4 (by decide) c14 cl_RX11_33 dX11_init_38 (?_ : Ex _ _ 41 _ _ _ _ _)
  rw [← hm15]
  refine x_dup (by decide : (14 : Int) ≠ 2) dX11_init_41 (?_ : Ex _ _ 42 _ _ _ _ _)
  obtain ⟨v16, m17, g18, h⟩ := cal_some h
  refine cI0 (e_X4_init d g18) (contV (?_ : Ex _ _ 45 _ _ _ _ _)) og_X4_init rfl ml_RX11_35 rfl rfl (by decide) (by decide) im_X4_init (Nat.le_of_ble_eq_true rfl) dX11_init_42
  obtain ⟨m19, hm19, h⟩ := st_some h
  refine pt_11_4 rfl rfl c1 fl_RX11_36 dX11_init_45 (?_ : Ex _ _ 48 _ _ _ _ _)
  rw [← hm19]
  refine x_iconst dX11_init_48 rfl (by decide) (?_ : Ex _ _ 49 _ _ _ _ _)
  refine x_istore_n (ls2 := [(21, l0), (0, 0)]) dX11_init_49 rfl (Nat.le_of_ble_eq_true rfl) rfl (?_ : Ex _ _ 50 _ _ _ _ _)
  exact e_X11_init_50 d (fun h => e_X11_init_76 d (fun h => e_X11_init_102 d fuel9 h) fuel9 h) fuel9 h
theorem e_X11_init (d : Nat) {a0 : Int} {m : Mem} {v : Int} {m' : Mem} (h : X11_init a0 m = some (v, m')) : ExM (d + 3) fm_X11_init [(21, a0)] m (.inl (3, 0)) m' := by
  exact ExM.of (by decide +kernel) (Nat.le_of_ble_eq_true rfl) (cat9 rfl) retV (e_X11_init_0 d h)
theorem dX11_isWithin_0 : decode cX11_isWithin 0 = .ok (.iload_n 0, 1) := by decide +kernel
theorem dX11_isWithin_1 : decode cX11_isWithin 1 = .ok (.iload_n 1, 1) := by decide +kernel
theorem dX11_isWithin_2 : decode cX11_isWithin 2 = .ok (.if_icmp .lt 12, 3) := by decide +kernel
theorem dX11_isWithin_5 : decode cX11_isWithin 5 = .ok (.iload_n 0, 1) := by decide +kernel
theorem dX11_isWithin_6 : decode cX11_isWithin 6 = .ok (.iload_n 2, 1) := by decide +kernel
theorem dX11_isWithin_7 : decode cX11_isWithin 7 = .ok (.if_icmp .gt 7, 3) := by decide +kernel
theorem dX11_isWithin_10 : decode cX11_isWithin 10 = .ok (.iconst 1, 1) := by decide +kernel
theorem dX11_isWithin_11 : decode cX11_isWithin 11 = .ok (.goto 4, 3) := by decide +kernel
theorem dX11_isWithin_14 : decode cX11_isWithin 14 = .ok (.iconst 0, 1) := by decide +kernel
theorem dX11_isWithin_15 : decode cX11_isWithin 15 = .ok (.ireturn, 1) := by decide +kernel
theorem e_X11_isWithin_0 (d : Nat) {l0 l1 l2 : Int} {m : Mem} {v : Int} {m' : Mem} (h : X11_isWithin_0 l0 l1 l2 m = some (v, m')) : Ex d fm_X11_isWithin 0 [(0, l0), (0, l1), (0, l2)] [] m (.inl (0, v)) m' := by
  unfold X11_isWithin_0 at h
  refine x_iload_n dX11_isWithin_0 rfl rfl (?_ : Ex _ _ 1 _ _ _ _ _)
  refine x_iload_n dX11_isWithin_1 rfl rfl (?_ : Ex _ _ 2 _ _ _ _ _)
  rcases ite_some h with ⟨b1, h⟩ | ⟨b1, h⟩
  · refine x_icmp_lt (tgt := 14) dX11_isWithin_2 rfl b1 (?_ : Ex _ _ 14 _ _ _ _ _)
    refine x_iconst dX11_isWithin_14 rfl (by decide) (?_ : Ex _ _ 15 _ _ _ _ _)
    cases h
    exact x_ret dX11_isWithin_15 (by decide : (0 : Int) ≠ 3)
  · refine x_icmp_ltN dX11_isWithin_2 (by decide) b1 (?_ : Ex _ _ 5 _ _ _ _ _)
    refine x_iload_n dX11_isWithin_5 rfl rfl (?_ : Ex _ _ 6 _ _ _ _ _)
    refine x_iload_n dX11_isWithin_6 rfl rfl (?_ : Ex _ _ 7 _ _ _ _ _)
    rcases ite_some h with ⟨b2, h⟩ | ⟨b2, h⟩
    · refine x_icmp_gt (tgt := 14) dX11_isWithin_7 rfl b2 (?_ : Ex _ _ 14 _ _ _ _ _)
      refine x_iconst dX11_isWithin_14 rfl (by decide) (?_ : Ex _ _ 15 _ _ _ _ _)
      cases h
      exact x_ret dX11_isWithin_15 (by decide : (0 : Int) ≠ 3)
    · refine x_icmp_gtN dX11_isWithin_7 (by decide) b2 (?_ : Ex _ _ 10 _ _ _ _ _)
      refine x_iconst dX11_isWithin_10 rfl (by decide) (?_ : Ex _ _ 11 _ _ _ _ _)
      refine x_goto (tgt := 15) dX11_isWithin_11 rfl (?_ : Ex _ _ 15 _ _ _ _ _)
      cases h
      exact x_ret dX11_isWithin_15 (by decide : (0 : Int) ≠ 3)
theorem e_X11_isWithin (d : Nat) {a0 a1 a2 : Int} {m : Mem} {v : Int} {m' : Mem} (h : X11_isWithin a0 a1 a2 m = some (v, m')) : ExM d fm_X11_isWithin [(0, a0), (0, a1), (0, a2)] m (.inl (0, v)) m' := by
  obtain ⟨hb, h⟩ := boolR_some h
  exact ExM.of (by decide +kernel) (Nat.le_of_ble_eq_true rfl) (cat9 rfl) (retZ hb) (e_X11_isWithin_0 d h)
theorem dX11_familyOf_0 : decode cX11_familyOf 0 = .ok (.iload_n 1, 1) := by decide +kernel
theorem dX11_familyOf_1 : decode cX11_familyOf 1 = .ok (.iconst 0, 1) := by decide +kernel
theorem dX11_familyOf_2 : decode cX11_familyOf 2 = .ok (.iconst 2, 1) := by decide +kernel
theorem dX11_familyOf_3 : decode cX11_familyOf 3 = .ok (.invokestatic 89, 3) := by decide +kernel
theorem dX11_familyOf_6 : decode cX11_familyOf 6 = .ok (.ifCond .ne 14, 3) := by decide +kernel
theorem dX11_familyOf_9 : decode cX11_familyOf 9 = .ok (.new 92, 3) := by decide +kernel
theorem dX11_familyOf_12 : decode cX11_familyOf 12 = .ok (.dup, 1) := by decide +kernel
theorem dX11_familyOf_13 : decode cX11_familyOf 13 = .ok (.ldc_w 311, 3) := by decide +kernel
theorem dX11_familyOf_16 : decode cX11_familyOf 16 = .ok (.invokespecial 96, 3) := by decide +kernel
theorem dX11_familyOf_19 : decode cX11_familyOf 19 = .ok (.athrow, 1) := by decide +kernel
theorem dX11_familyOf_20 : decode cX11_familyOf 20 = .ok (.aload_n 0, 1) := by decide +kernel
theorem dX11_familyOf_21 : decode cX11_familyOf 21 = .ok (.getfield 11, 3) := by decide +kernel
theorem dX11_familyOf_24 : decode cX11_familyOf 24 = .ok (.iload_n 1, 1) := by decide +kernel
theorem dX11_familyOf_25 : decode cX11_familyOf 25 = .ok (.aaload, 1) := by decide +kernel
theorem dX11_familyOf_26 : decode cX11_familyOf 26 = .ok (.areturn, 1) := by decide +kernel
theorem e_X11_familyOf_0 (d : Nat) {l0 l1 : Int} {m : Mem} {e v : Int} {m' : Mem} (h : X11_familyOf_0 l0 l1 m = some (e, v, m')) : Ex (d + 1) fm_X11_familyOf 0 [(21, l0), (0, l1)] [] m (rr9 12 e v) m' := by
  unfold X11_familyOf_0 at h
  refine x_iload_n dX11_familyOf_0 rfl rfl (?_ : Ex _ _ 1 _ _ _ _ _)
  refine x_iconst dX11_familyOf_1 rfl (by decide) (?_ : Ex _ _ 2 _ _ _ _ _)
  refine x_iconst dX11_familyOf_2 rfl (by decide) (?_ : Ex _ _ 3 _ _ _ _ _)
  obtain ⟨v1, m2, g3, h⟩ := cal_some h
  refine cS3 (e_X11_isWithin d g3) (contN (by decide) (?_ : Ex _ _ 6 _ _ _ _ _)) og_X11_isWithin rfl ml_RX11_89 sm_X11_isWithin (Nat.le_of_ble_eq_true rfl) dX11_familyOf_3
  rcases ite_some h with ⟨b4, h⟩ | ⟨b4, h⟩
  · refine x_if_neN dX11_familyOf_6 (by decide) (fun hh => hh b4) (?_ : Ex _ _ 9 _ _ _ _ _)
    cases h
    exact y_throwW (by decide) to_RX11_92_311 rfl (Nat.le_of_ble_eq_true rfl) dX11_familyOf_9 dX11_familyOf_12 dX11_familyOf_13 dX11_familyOf_16 dX11_familyOf_19 rfl rfl rfl rfl
  · refine x_if_ne (tgt := 20) dX11_familyOf_6 rfl b4 (?_ : Ex _ _ 20 _ _ _ _ _)
    refine x_aload_n dX11_familyOf_20 rfl rfl (Or.inr (by decide)) (?_ : Ex _ _ 21 _ _ _ _ _)
    obtain ⟨c5, h⟩ := chk_some h
    refine gt_11_0 c5 fl_RX11_11 dX11_familyOf_21 (?_ : Ex _ _ 24 _ _ _ _ _)
    refine x_iload_n dX11_familyOf_24 rfl rfl (?_ : Ex _ _ 25 _ _ _ _ _)
    obtain ⟨⟨c6, c7, c8⟩, h⟩ := chk_some h
    refine ad_2_3 c6 c7 c8 dX11_familyOf_25 (?_ : Ex _ _ 26 _ _ _ _ _)
    cases h
    exact y_retX dX11_familyOf_26 (by decide)
theorem e_X11_familyOf (d : Nat) {a0 a1 : Int} {m : Mem} {e v : Int} {m' : Mem} (h : X11_familyOf a0 a1 m = some (e, v, m')) : ExM (d + 1) fm_X11_familyOf [(21, a0), (0, a1)] m (rr9 12 e v) m' := by
  exact ExM.of (by decide +kernel) (Nat.le_of_ble_eq_true rfl) (cat9 rfl) (retRX (by decide)) (e_X11_familyOf_0 d h)
theorem dX11_isStep_0 : decode cX11_isStep 0 = .ok (.iload_n 0, 1) := by decide +kernel
theorem dX11_isStep_1 : decode cX11_isStep 1 = .ok (.iconst 0, 1) := by decide +kernel
theorem dX11_isStep_2 : decode cX11_isStep 2 = .ok (.bipush 15, 2) := by decide +kernel
theorem dX11_isStep_4 : decode cX11_isStep 4 = .ok (.invokestatic 89, 3) := by decide +kernel
theorem dX11_isStep_7 : decode cX11_isStep 7 = .ok (.ifCond .eq 41, 3) := by decide +kernel
theorem dX11_isStep_10 : decode cX11_isStep 10 = .ok (.iload_n 1, 1) := by decide +kernel
theorem dX11_isStep_11 : decode cX11_isStep 11 = .ok (.getstatic 299, 3) := by decide +kernel
theorem dX11_isStep_14 : decode cX11_isStep 14 = .ok (.iload_n 0, 1) := by decide +kernel
theorem dX11_isStep_15 : decode cX11_isStep 15 = .ok (.iaload, 1) := by decide +kernel
theorem dX11_isStep_16 : decode cX11_isStep 16 = .ok (.getstatic 302, 3) := by decide +kernel
theorem dX11_isStep_19 : decode cX11_isStep 19 = .ok (.iload_n 0, 1) := by decide +kernel
theorem dX11_isStep_20 : decode cX11_isStep 20 = .ok (.iaload, 1) := by decide +kernel
theorem dX11_isStep_21 : decode cX11_isStep 21 = .ok (.invokestatic 89, 3) := by decide +kernel
theorem dX11_isStep_24 : decode cX11_isStep 24 = .ok (.ifCond .eq 24, 3) := by decide +kernel
theorem dX11_isStep_27 : decode cX11_isStep 27 = .ok (.iload_n 2, 1) := by decide +kernel
theorem dX11_isStep_28 : decode cX11_isStep 28 = .ok (.getstatic 305, 3) := by decide +kernel
theorem dX11_isStep_31 : decode cX11_isStep 31 = .ok (.iload_n 0, 1) := by decide +kernel
theorem dX11_isStep_32 : decode cX11_isStep 32 = .ok (.iaload, 1) := by decide +kernel
theorem dX11_isStep_33 : decode cX11_isStep 33 = .ok (.getstatic 308, 3) := by decide +kernel
theorem dX11_isStep_36 : decode cX11_isStep 36 = .ok (.iload_n 0, 1) := by decide +kernel
theorem dX11_isStep_37 : decode cX11_isStep 37 = .ok (.iaload, 1) := by decide +kernel
theorem dX11_isStep_38 : decode cX11_isStep 38 = .ok (.invokestatic 89, 3) := by decide +kernel
theorem dX11_isStep_41 : decode cX11_isStep 41 = .ok (.ifCond .eq 7, 3) := by decide +kernel
theorem dX11_isStep_44 : decode cX11_isStep 44 = .ok (.iconst 1, 1) := by decide +kernel
theorem dX11_isStep_45 : decode cX11_isStep 45 = .ok (.goto 4, 3) := by decide +kernel
theorem dX11_isStep_48 : decode cX11_isStep 48 = .ok (.iconst 0, 1) := by decide +kernel
theorem dX11_isStep_49 : decode cX11_isStep 49 = .ok (.ireturn, 1) := by decide +kernel
theorem e_X11_isStep_0 (d : Nat) {l0 l1 l2 : Int} {m : Mem} {v : Int} {m' : Mem} (h : X11_isStep_0 l0 l1 l2 m = some (v, m')) : Ex (d + 1) fm_X11_isStep 0 [(0, l0), (0, l1), (0, l2)] [] m (.inl (0, v)) m' := by
  unfold X11_isStep_0 at h
  refine x_iload_n dX11_isStep_0 rfl rfl (?_ : Ex _ _ 1 _ _ _ _ _)
  refine x_iconst dX11_isStep_1 rfl (by decide) (?_ : Ex _ _ 2 _ _ _ _ _)
  refine x_bipush dX11_isStep_2 kb_15 (by decide) (?_ : Ex _ _ 4 _ _ _ _ _)
  obtain ⟨v1, m2, g3, h⟩ := cal_some h
  refine cS3 (e_X11_isWithin d g3) (contN (by decide) (?_ : Ex _ _ 7 _ _ _ _ _)) og_X11_isWithin rfl ml_RX11_89 sm_X11_isWithin (Nat.le_of_ble_eq_true rfl) dX11_isStep_4
  rcases ite_some h with ⟨b4, h⟩ | ⟨b4, h⟩
  · refine x_if_eq (tgt := 48) dX11_isStep_7 rfl b4 (?_ : Ex _ _ 48 _ _ _ _ _)
    refine x_iconst dX11_isStep_48 rfl (by decide) (?_ : Ex _ _ 49 _ _ _ _ _)
    cases h
    exact x_ret dX11_isStep_49 (by decide : (0 : Int) ≠ 3)
  · refine x_if_eqN dX11_isStep_7 (by decide) b4 (?_ : Ex _ _ 10 _ _ _ _ _)
    refine x_iload_n dX11_isStep_10 rfl rfl (?_ : Ex _ _ 11 _ _ _ _ _)
    refine x_gets (by decide : ("LEAST_A", 1) ∈ SA9) fl_RX11_299 dX11_isStep_11 (?_ : Ex _ _ 14 _ _ _ _ _)
    refine x_iload_n dX11_isStep_14 rfl rfl (?_ : Ex _ _ 15 _ _ _ _ _)
    obtain ⟨⟨c5, c6, c7⟩, h⟩ := chk_some h
    refine x_sald (by decide) (by decide) c5 c6 c7 dX11_isStep_15 (?_ : Ex _ _ 16 _ _ _ _ _)
    refine x_gets (by decide : ("MOST_A", 2) ∈ SA9) fl_RX11_302 dX11_isStep_16 (?_ : Ex _ _ 19 _ _ _ _ _)
    refine x_iload_n dX11_isStep_19 rfl rfl (?_ : Ex _ _ 20 _ _ _ _ _)
    obtain ⟨⟨c8, c9, c10⟩, h⟩ := chk_some h
    refine x_sald (by decide) (by decide) c8 c9 c10 dX11_isStep_20 (?_ : Ex _ _ 21 _ _ _ _ _)
    obtain ⟨v11, m12, g13, h⟩ := cal_some h
    refine cS3 (e_X11_isWithin d g13) (contN (by decide) (?_ : Ex _ _ 24 _ _ _ _ _)) og_X11_isWithin rfl ml_RX11_89 sm_X11_isWithin (Nat.le_of_ble_eq_true rfl) dX11_isStep_21
    rcases ite_some h with ⟨b14, h⟩ | ⟨b14, h⟩
    · refine x_if_eq (tgt := 48) dX11_isStep_24 rfl b14 (?_ : Ex _ _ 48 _ _ _ _ _)
      refine x_iconst dX11_isStep_48 rfl (by decide) (?_ : Ex _ _ 49 _ _ _ _ _)
      cases h
      exact x_ret dX11_isStep_49 (by decide : (0 : Int) ≠ 3)
    · refine x_if_eqN dX11_isStep_24 (by decide) b14 (?_ : Ex _ _ 27 _ _ _ _ _)
      refine x_iload_n dX11_isStep_27 rfl rfl (?_ : Ex _ _ 28 _ _ _ _ _)
      refine x_gets (by decide : ("LEAST_B", 3) ∈ SA9) fl_RX11_305 dX11_isStep_28 (?_ : Ex _ _ 31 _ _ _ _ _)
      refine x_iload_n dX11_isStep_31 rfl rfl (?_ : Ex _ _ 32 _ _ _ _ _)
      obtain ⟨⟨c15, c16, c17⟩, h⟩ := chk_some h
      refine x_sald (by decide) (by decide) c15 c16 c17 dX11_isStep_32 (?_ : Ex _ _ 33 _ _ _ _ _)
      refine x_gets (by decide : ("MOST_B", 4) ∈ SA9) fl_RX11_308 dX11_isStep_33 (?_ : Ex _ _ 36 _ _ _ _ _)
      refine x_iload_n dX11_isStep_36 rfl rfl (?_ : Ex _ _ 37 _ _ _ _ _)
      obtain ⟨⟨c18, c19, c20⟩, h⟩ := chk_some h
      refine x_sald (by decide) (by decide) c18 c19 c20 dX11_isStep_37 (?_ : Ex _ _ 38 _ _ _ _ _)
      obtain ⟨v21, m22, g23, h⟩ := cal_some h
      refine cS3 (e_X11_isWithin d g23) (contN (by decide) (?_ : Ex _ _ 41 _ _ _ _ _)) og_X11_isWithin rfl ml_RX11_89 sm_X11_isWithin (Nat.le_of_ble_eq_true rfl) dX11_isStep_38
      rcases ite_some h with ⟨b24, h⟩ | ⟨b24, h⟩
      · refine x_if_eq (tgt := 48) dX11_isStep_41 rfl b24 (?_ : Ex _ _ 48 _ _ _ _ _)
        refine x_iconst dX11_isStep_48 rfl (by decide) (?_ : Ex _ _ 49 _ _ _ _ _)
        cases h
        exact x_ret dX11_isStep_49 (by decide : (0 : Int) ≠ 3)
      · refine x_if_eqN dX11_isStep_41 (by decide) b24 (?_ : Ex _ _ 44 _ _ _ _ _)
        refine x_iconst dX11_isStep_44 rfl (by decide) (?_ : Ex _ _ 45 _ _ _ _ _)
        refine x_goto (tgt := 49) dX11_isStep_45 rfl (?_ : Ex _ _ 49 _ _ _ _ _)
        cases h
        exact x_ret dX11_isStep_49 (by decide : (0 : Int) ≠ 3)
theorem e_X11_isStep (d : Nat) {a0 a1 a2 : Int} {m : Mem} {v : Int} {m' : Mem} (h : X11_isStep a0 a1 a2 m = some (v, m')) : ExM (d + 1) fm_X11_isStep [(0, a0), (0, a1), (0, a2)] m (.inl (0, v)) m' := by
  obtain ⟨hb, h⟩ := boolR_some h
  exact ExM.of (by decide +kernel) (Nat.le_of_ble_eq_true rfl) (cat9 rfl) (retZ hb) (e_X11_isStep_0 d h)
theorem dX11_step_0 : decode cX11_step 0 = .ok (.aload_n 0, 1) := by decide +kernel
theorem dX11_step_1 : decode cX11_step 1 = .ok (.iload_n 1, 1) := by decide +kernel
theorem dX11_step_2 : decode cX11_step 2 = .ok (.invokevirtual 43, 3) := by decide +kernel
theorem dX11_step_5 : decode cX11_step 5 = .ok (.astore 5, 2) := by decide +kernel
theorem dX11_step_7 : decode cX11_step 7 = .ok (.iload_n 2, 1) := by decide +kernel
theorem dX11_step_8 : decode cX11_step 8 = .ok (.iload_n 3, 1) := by decide +kernel
theorem dX11_step_9 : decode cX11_step 9 = .ok (.iload 4, 2) := by decide +kernel
theorem dX11_step_11 : decode cX11_step 11 = .ok (.invokestatic 47, 3) := by decide +kernel
theorem dX11_step_14 : decode cX11_step 14 = .ok (.ifCond .ne 13, 3) := by decide +kernel
theorem dX11_step_17 : decode cX11_step 17 = .ok (.new 51, 3) := by decide +kernel
theorem dX11_step_20 : decode cX11_step 20 = .ok (.dup, 1) := by decide +kernel
theorem dX11_step_21 : decode cX11_step 21 = .ok (.ldc 53, 2) := by decide +kernel
theorem dX11_step_23 : decode cX11_step 23 = .ok (.invokespecial 55, 3) := by decide +kernel
theorem dX11_step_26 : decode cX11_step 26 = .ok (.athrow, 1) := by decide +kernel
theorem dX11_step_27 : decode cX11_step 27 = .ok (.aload 5, 2) := by decide +kernel
theorem dX11_step_29 : decode cX11_step 29 = .ok (.getfield 58, 3) := by decide +kernel
theorem dX11_step_32 : decode cX11_step 32 = .ok (.iconst 4, 1) := by decide +kernel
theorem dX11_step_33 : decode cX11_step 33 = .ok (.if_icmp .ge 16, 3) := by decide +kernel
theorem dX11_step_36 : decode cX11_step 36 = .ok (.aload 5, 2) := by decide +kernel
theorem dX11_step_38 : decode cX11_step 38 = .ok (.getfield 62, 3) := by decide +kernel
theorem dX11_step_41 : decode cX11_step 41 = .ok (.getfield 66, 3) := by decide +kernel
theorem dX11_step_44 : decode cX11_step 44 = .ok (.bipush 12, 2) := by decide +kernel
theorem dX11_step_46 : decode cX11_step 46 = .ok (.if_icmp .lt 13, 3) := by decide +kernel
theorem dX11_step_49 : decode cX11_step 49 = .ok (.new 71, 3) := by decide +kernel
theorem dX11_step_52 : decode cX11_step 52 = .ok (.dup, 1) := by decide +kernel
theorem dX11_step_53 : decode cX11_step 53 = .ok (.ldc 73, 2) := by decide +kernel
theorem dX11_step_55 : decode cX11_step 55 = .ok (.invokespecial 75, 3) := by decide +kernel
theorem dX11_step_58 : decode cX11_step 58 = .ok (.athrow, 1) := by decide +kernel
theorem dX11_step_59 : decode cX11_step 59 = .ok (.aload 5, 2) := by decide +kernel
theorem dX11_step_61 : decode cX11_step 61 = .ok (.getfield 62, 3) := by decide +kernel
theorem dX11_step_64 : decode cX11_step 64 = .ok (.iload_n 2, 1) := by decide +kernel
theorem dX11_step_65 : decode cX11_step 65 = .ok (.iload_n 3, 1) := by decide +kernel
theorem dX11_step_66 : decode cX11_step 66 = .ok (.iload 4, 2) := by decide +kernel
theorem dX11_step_68 : decode cX11_step 68 = .ok (.invokevirtual 76, 3) := by decide +kernel
theorem dX11_step_71 : decode cX11_step 71 = .ok (.aload 5, 2) := by decide +kernel
theorem dX11_step_73 : decode cX11_step 73 = .ok (.getfield 62, 3) := by decide +kernel
theorem dX11_step_76 : decode cX11_step 76 = .ok (.getfield 66, 3) := by decide +kernel
theorem dX11_step_79 : decode cX11_step 79 = .ok (.ireturn, 1) := by decide +kernel
theorem e_X11_step_0 (d : Nat) {l0 l1 l2 l3 l4 : Int} {m : Mem} {e v : Int} {m' : Mem} (h : X11_step_0 l0 l1 l2 l3 l4 m = some (e, v, m')) : Ex (d + 2) fm_X11_step 0 [(21, l0), (0, l1), (0, l2), (0, l3), (0, l4), (3, 0)] [] m (rr9 0 e v) m' := by
  unfold X11_step_0 at h
  refine x_aload_n dX11_step_0 rfl rfl (Or.inr (by decide)) (?_ : Ex _ _ 1 _ _ _ _ _)
  refine x_iload_n dX11_step_1 rfl rfl (?_ : Ex _ _ 2 _ _ _ _ _)
  obtain ⟨c1, h⟩ := chk_some h
  rcases calX_some h with ⟨v2, m3, g4, h⟩ | ⟨e18, v2, m3, x17, g4, h⟩
  · refine cV1 (e_X11_familyOf d g4) (cont0 (by decide) (?_ : Ex _ _ 5 _ _ _ _ _)) og_X11_familyOf rfl ml_RX11_43 11 rfl rfl c1 im_X11_familyOf se_X11_familyOf (Nat.le_of_ble_eq_true rfl) dX11_step_2
    refine x_astore (ls2 := [(21, l0), (0, l1), (0, l2), (0, l3), (0, l4), (12, v2)]) dX11_step_5 (Nat.le_of_ble_eq_true rfl) (Or.inr (by decide)) rfl (?_ : Ex _ _ 7 _ _ _ _ _)
    refine x_iload_n dX11_step_7 rfl rfl (?_ : Ex _ _ 8 _ _ _ _ _)
    refine x_iload_n dX11_step_8 rfl rfl (?_ : Ex _ _ 9 _ _ _ _ _)
    refine x_iload dX11_step_9 rfl (?_ : Ex _ _ 11 _ _ _ _ _)
    obtain ⟨v5, m6, g7, h⟩ := cal_some h
    refine cS3 (e_X11_isStep d g7) (contN (by decide) (?_ : Ex _ _ 14 _ _ _ _ _)) og_X11_isStep rfl ml_RX11_47 sm_X11_isStep (Nat.le_of_ble_eq_true rfl) dX11_step_11
    rcases ite_some h with ⟨b8, h⟩ | ⟨b8, h⟩
    · refine x_if_neN dX11_step_14 (by decide) (fun hh => hh b8) (?_ : Ex _ _ 17 _ _ _ _ _)
      cases h
      exact y_throw (by decide) to_RX11_51_53 rfl (Nat.le_of_ble_eq_true rfl) dX11_step_17 dX11_step_20 dX11_step_21 dX11_step_23 dX11_step_26 rfl rfl rfl rfl
    · refine x_if_ne (tgt := 27) dX11_step_14 rfl b8 (?_ : Ex _ _ 27 _ _ _ _ _)
      refine x_aload dX11_step_27 rfl (Or.inr (by decide)) (?_ : Ex _ _ 29 _ _ _ _ _)
      obtain ⟨c9, h⟩ := chk_some h
      refine gt_2_1 c9 fl_RX11_58 dX11_step_29 (?_ : Ex _ _ 32 _ _ _ _ _)
      refine x_iconst dX11_step_32 rfl (by decide) (?_ : Ex _ _ 33 _ _ _ _ _)
      rcases ite_some h with ⟨b10, h⟩ | ⟨b10, h⟩
      · refine x_icmp_ge (tgt := 49) dX11_step_33 rfl b10 (?_ : Ex _ _ 49 _ _ _ _ _)
        cases h
        exact y_throw (by decide) to_RX11_71_73 rfl (Nat.le_of_ble_eq_true rfl) dX11_step_49 dX11_step_52 dX11_step_53 dX11_step_55 dX11_step_58 rfl rfl rfl rfl
      · refine x_icmp_geN dX11_step_33 (by decide) b10 (?_ : Ex _ _ 36 _ _ _ _ _)
        refine x_aload dX11_step_36 rfl (Or.inr (by decide)) (?_ : Ex _ _ 38 _ _ _ _ _)
        refine gt_2_2 c9 fl_RX11_62 dX11_step_38 (?_ : Ex _ _ 41 _ _ _ _ _)
        obtain ⟨c11, h⟩ := chk_some h
        refine gt_5_3 c11 fl_RX11_66 dX11_step_41 (?_ : Ex _ _ 44 _ _ _ _ _)
        refine x_bipush dX11_step_44 kb_12 (by decide) (?_ : Ex _ _ 46 _ _ _ _ _)
        rcases ite_some h with ⟨b12, h⟩ | ⟨b12, h⟩
        · refine x_icmp_lt (tgt := 59) dX11_step_46 rfl b12 (?_ : Ex _ _ 59 _ _ _ _ _)
          refine x_aload dX11_step_59 rfl (Or.inr (by decide)) (?_ : Ex _ _ 61 _ _ _ _ _)
          refine gt_2_2 c9 fl_RX11_62 dX11_step_61 (?_ : Ex _ _ 64 _ _ _ _ _)
          refine x_iload_n dX11_step_64 rfl rfl (?_ : Ex _ _ 65 _ _ _ _ _)
          refine x_iload_n dX11_step_65 rfl rfl (?_ : Ex _ _ 66 _ _ _ _ _)
          refine x_iload dX11_step_66 rfl (?_ : Ex _ _ 68 _ _ _ _ _)
          obtain ⟨v13, m14, g15, h⟩ := cal_some h
          refine cV3 (e_X5_add (d + 1) g15) (contV (?_ : Ex _ _ 71 _ _ _ _ _)) og_X5_add rfl ml_RX11_76 5 rfl rfl c11 im_X5_add se_X5_add (Nat.le_of_ble_eq_true rfl) dX11_step_68
          refine x_aload dX11_step_71 rfl (Or.inr (by decide)) (?_ : Ex _ _ 73 _ _ _ _ _)
          refine gt_2_2 c9 fl_RX11_62 dX11_step_73 (?_ : Ex _ _ 76 _ _ _ _ _)
          obtain ⟨c16, h⟩ := chk_some h
          refine gt_5_3 c16 fl_RX11_66 dX11_step_76 (?_ : Ex _ _ 79 _ _ _ _ _)
          cases h
          exact y_retX dX11_step_79 (by decide)
        · refine x_icmp_ltN dX11_step_46 (by decide) b12 (?_ : Ex _ _ 49 _ _ _ _ _)
          cases h
          exact y_throw (by decide) to_RX11_71_73 rfl (Nat.le_of_ble_eq_true rfl) dX11_step_49 dX11_step_52 dX11_step_53 dX11_step_55 dX11_step_58 rfl rfl rfl rfl
  · cases h
    exact cV1 (e_X11_familyOf d g4) (contE x17 rfl) og_X11_familyOf rfl ml_RX11_43 11 rfl rfl c1 im_X11_familyOf se_X11_familyOf (Nat.le_of_ble_eq_true rfl) dX11_step_2
theorem e_X11_step (d : Nat) {a0 a1 a2 a3 a4 : Int} {m : Mem} {e v : Int} {m' : Mem} (h : X11_step a0 a1 a2 a3 a4 m = some (e, v, m')) : ExM (d + 2) fm_X11_step [(21, a0), (0, a1), (0, a2), (0, a3), (0, a4)] m (rr9 0 e v) m' := by
  exact ExM.of (by decide +kernel) (Nat.le_of_ble_eq_true rfl) (cat9 rfl) retIX (e_X11_step_0 d h)
theorem dX11_forget_0 : decode cX11_forget 0 = .ok (.aload_n 0, 1) := by decide +kernel
theorem dX11_forget_1 : decode cX11_forget 1 = .ok (.iload_n 1, 1) := by decide +kernel
theorem dX11_forget_2 : decode cX11_forget 2 = .ok (.invokevirtual 43, 3) := by decide +kernel
theorem dX11_forget_5 : decode cX11_forget 5 = .ok (.astore_n 2, 1) := by decide +kernel
theorem dX11_forget_6 : decode cX11_forget 6 = .ok (.aload_n 2, 1) := by decide +kernel
theorem dX11_forget_7 : decode cX11_forget 7 = .ok (.getfield 62, 3) := by decide +kernel
theorem dX11_forget_10 : decode cX11_forget 10 = .ok (.getfield 66, 3) := by decide +kernel
theorem dX11_forget_13 : decode cX11_forget 13 = .ok (.istore_n 3, 1) := by decide +kernel
theorem dX11_forget_14 : decode cX11_forget 14 = .ok (.aload_n 2, 1) := by decide +kernel
theorem dX11_forget_15 : decode cX11_forget 15 = .ok (.getfield 62, 3) := by decide +kernel
theorem dX11_forget_18 : decode cX11_forget 18 = .ok (.iconst 0, 1) := by decide +kernel
theorem dX11_forget_19 : decode cX11_forget 19 = .ok (.putfield 66, 3) := by decide +kernel
theorem dX11_forget_22 : decode cX11_forget 22 = .ok (.iload_n 3, 1) := by decide +kernel
theorem dX11_forget_23 : decode cX11_forget 23 = .ok (.ireturn, 1) := by decide +kernel
theorem e_X11_forget_0 (d : Nat) {l0 l1 : Int} {m : Mem} {e v : Int} {m' : Mem} (h : X11_forget_0 l0 l1 m = some (e, v, m')) : Ex (d + 2) fm_X11_forget 0 [(21, l0), (0, l1), (3, 0), (3, 0)] [] m (rr9 0 e v) m' := by
  unfold X11_forget_0 at h
  refine x_aload_n dX11_forget_0 rfl rfl (Or.inr (by decide)) (?_ : Ex _ _ 1 _ _ _ _ _)
  refine x_iload_n dX11_forget_1 rfl rfl (?_ : Ex _ _ 2 _ _ _ _ _)
  obtain ⟨c1, h⟩ := chk_some h
  rcases calX_some h with ⟨v2, m3, g4, h⟩ | ⟨e9, v2, m3, x8, g4, h⟩
  · refine cV1 (e_X11_familyOf d g4) (cont0 (by decide) (?_ : Ex _ _ 5 _ _ _ _ _)) og_X11_familyOf rfl ml_RX11_43 11 rfl rfl c1 im_X11_familyOf se_X11_familyOf (Nat.le_of_ble_eq_true rfl) dX11_forget_2
    refine x_astore_n (ls2 := [(21, l0), (0, l1), (12, v2), (3, 0)]) dX11_forget_5 rfl (Nat.le_of_ble_eq_true rfl) (Or.inr (by decide)) rfl (?_ : Ex _ _ 6 _ _ _ _ _)
    refine x_aload_n dX11_forget_6 rfl rfl (Or.inr (by decide)) (?_ : Ex _ _ 7 _ _ _ _ _)
    obtain ⟨c5, h⟩ := chk_some h
    refine gt_2_2 c5 fl_RX11_62 dX11_forget_7 (?_ : Ex _ _ 10 _ _ _ _ _)
    obtain ⟨c6, h⟩ := chk_some h
    refine gt_5_3 c6 fl_RX11_66 dX11_forget_10 (?_ : Ex _ _ 13 _ _ _ _ _)
    refine x_istore_n (ls2 := [(21, l0), (0, l1), (12, v2), (0, m3 (m3 v2 2) 3)]) dX11_forget_13 rfl (Nat.le_of_ble_eq_true rfl) rfl (?_ : Ex _ _ 14 _ _ _ _ _)
    refine x_aload_n dX11_forget_14 rfl rfl (Or.inr (by decide)) (?_ : Ex _ _ 15 _ _ _ _ _)
    refine gt_2_2 c5 fl_RX11_62 dX11_forget_15 (?_ : Ex _ _ 18 _ _ _ _ _)
    refine x_iconst dX11_forget_18 rfl (by decide) (?_ : Ex _ _ 19 _ _ _ _ _)
    obtain ⟨m7, hm7, h⟩ := st_some h
    refine pt_5_3  c6 fl_RX11_66 dX11_forget_19 (?_ : Ex _ _ 22 _ _ _ _ _)
    rw [← hm7]
    refine x_iload_n dX11_forget_22 rfl rfl (?_ : Ex _ _ 23 _ _ _ _ _)
    cases h
    exact y_retX dX11_forget_23 (by decide)
  · cases h
    exact cV1 (e_X11_familyOf d g4) (contE x8 rfl) og_X11_familyOf rfl ml_RX11_43 11 rfl rfl c1 im_X11_familyOf se_X11_familyOf (Nat.le_of_ble_eq_true rfl) dX11_forget_2
theorem e_X11_forget (d : Nat) {a0 a1 : Int} {m : Mem} {e v : Int} {m' : Mem} (h : X11_forget a0 a1 m = some (e, v, m')) : ExM (d + 2) fm_X11_forget [(21, a0), (0, a1)] m (rr9 0 e v) m' := by
  exact ExM.of (by decide +kernel) (Nat.le_of_ble_eq_true rfl) (cat9 rfl) retIX (e_X11_forget_0 d h)
theorem dX11_release_0 : decode cX11_release 0 = .ok (.aload_n 0, 1) := by decide +kernel
theorem dX11_release_1 : decode cX11_release 1 = .ok (.iload_n 1, 1) := by decide +kernel
theorem dX11_release_2 : decode cX11_release 2 = .ok (.invokevirtual 43, 3) := by decide +kernel
theorem dX11_release_5 : decode cX11_release 5 = .ok (.astore_n 2, 1) := by decide +kernel
theorem dX11_release_6 : decode cX11_release 6 = .ok (.aload_n 2, 1) := by decide +kernel
theorem dX11_release_7 : decode cX11_release 7 = .ok (.getfield 62, 3) := by decide +kernel
theorem dX11_release_10 : decode cX11_release 10 = .ok (.invokevirtual 80, 3) := by decide +kernel
theorem dX11_release_13 : decode cX11_release 13 = .ok (.ifCond .ne 13, 3) := by decide +kernel
theorem dX11_release_16 : decode cX11_release 16 = .ok (.new 71, 3) := by decide +kernel
theorem dX11_release_19 : decode cX11_release 19 = .ok (.dup, 1) := by decide +kernel
theorem dX11_release_20 : decode cX11_release 20 = .ok (.ldc 84, 2) := by decide +kernel
theorem dX11_release_22 : decode cX11_release 22 = .ok (.invokespecial 75, 3) := by decide +kernel
theorem dX11_release_25 : decode cX11_release 25 = .ok (.athrow, 1) := by decide +kernel
theorem dX11_release_26 : decode cX11_release 26 = .ok (.aload_n 2, 1) := by decide +kernel
theorem dX11_release_27 : decode cX11_release 27 = .ok (.invokevirtual 86, 3) := by decide +kernel
theorem dX11_release_30 : decode cX11_release 30 = .ok (.aload_n 2, 1) := by decide +kernel
theorem dX11_release_31 : decode cX11_release 31 = .ok (.getfield 58, 3) := by decide +kernel
theorem dX11_release_34 : decode cX11_release 34 = .ok (.ireturn, 1) := by decide +kernel
theorem e_X11_release_0 (d : Nat) {l0 l1 : Int} {m : Mem} {e v : Int} {m' : Mem} (h : X11_release_0 l0 l1 m = some (e, v, m')) : Ex (d + 3) fm_X11_release 0 [(21, l0), (0, l1), (3, 0)] [] m (rr9 0 e v) m' := by
  unfold X11_release_0 at h
  refine x_aload_n dX11_release_0 rfl rfl (Or.inr (by decide)) (?_ : Ex _ _ 1 _ _ _ _ _)
  refine x_iload_n dX11_release_1 rfl rfl (?_ : Ex _ _ 2 _ _ _ _ _)
  obtain ⟨c1, h⟩ := chk_some h
  rcases calX_some h with ⟨v2, m3, g4, h⟩ | ⟨e15, v2, m3, x14, g4, h⟩
  · refine cV1 (e_X11_familyOf (d + 1) g4) (cont0 (by decide) (?_ : Ex _ _ 5 _ _ _ _ _)) og_X11_familyOf rfl ml_RX11_43 11 rfl rfl c1 im_X11_familyOf se_X11_familyOf (Nat.le_of_ble_eq_true rfl) dX11_release_2
    refine x_astore_n (ls2 := [(21, l0), (0, l1), (12, v2)]) dX11_release_5 rfl (Nat.le_of_ble_eq_true rfl) (Or.inr (by decide)) rfl (?_ : Ex _ _ 6 _ _ _ _ _)
    refine x_aload_n dX11_release_6 rfl rfl (Or.inr (by decide)) (?_ : Ex _ _ 7 _ _ _ _ _)
    obtain ⟨c5, h⟩ := chk_some h
    refine gt_2_2 c5 fl_RX11_62 dX11_release_7 (?_ : Ex _ _ 10 _ _ _ _ _)
    obtain ⟨c6, h⟩ := chk_some h
    obtain ⟨v7, m8, g9, h⟩ := cal_some h
    refine cV0 (e_X5_isWhole d g9) (contN (by decide) (?_ : Ex _ _ 13 _ _ _ _ _)) og_X5_isWhole rfl ml_RX11_80 5 rfl rfl c6 im_X5_isWhole se_X5_isWhole (Nat.le_of_ble_eq_true rfl) dX11_release_10
    rcases ite_some h with ⟨b10, h⟩ | ⟨b10, h⟩
    · refine x_if_neN dX11_release_13 (by decide) (fun hh => hh b10) (?_ : Ex _ _ 16 _ _ _ _ _)
      cases h
      exact y_throw (by decide) to_RX11_71_84 rfl (Nat.le_of_ble_eq_true rfl) dX11_release_16 dX11_release_19 dX11_release_20 dX11_release_22 dX11_release_25 rfl rfl rfl rfl
    · refine x_if_ne (tgt := 26) dX11_release_13 rfl b10 (?_ : Ex _ _ 26 _ _ _ _ _)
      refine x_aload_n dX11_release_26 rfl rfl (Or.inr (by decide)) (?_ : Ex _ _ 27 _ _ _ _ _)
      obtain ⟨v11, m12, g13, h⟩ := cal_some h
      refine cV0 (e_X2_releaseTold (d + 1) g13) (contV (?_ : Ex _ _ 30 _ _ _ _ _)) og_X2_releaseTold rfl ml_RX11_86 2 rfl rfl c5 im_X2_releaseTold se_X2_releaseTold (Nat.le_of_ble_eq_true rfl) dX11_release_27
      refine x_aload_n dX11_release_30 rfl rfl (Or.inr (by decide)) (?_ : Ex _ _ 31 _ _ _ _ _)
      refine gt_2_1 c5 fl_RX11_58 dX11_release_31 (?_ : Ex _ _ 34 _ _ _ _ _)
      cases h
      exact y_retX dX11_release_34 (by decide)
  · cases h
    exact cV1 (e_X11_familyOf (d + 1) g4) (contE x14 rfl) og_X11_familyOf rfl ml_RX11_43 11 rfl rfl c1 im_X11_familyOf se_X11_familyOf (Nat.le_of_ble_eq_true rfl) dX11_release_2
theorem e_X11_release (d : Nat) {a0 a1 : Int} {m : Mem} {e v : Int} {m' : Mem} (h : X11_release a0 a1 m = some (e, v, m')) : ExM (d + 3) fm_X11_release [(21, a0), (0, a1)] m (rr9 0 e v) m' := by
  exact ExM.of (by decide +kernel) (Nat.le_of_ble_eq_true rfl) (cat9 rfl) retIX (e_X11_release_0 d h)
theorem dX11_versions_0 : decode cX11_versions 0 = .ok (.aload_n 0, 1) := by decide +kernel
theorem dX11_versions_1 : decode cX11_versions 1 = .ok (.iload_n 1, 1) := by decide +kernel
theorem dX11_versions_2 : decode cX11_versions 2 = .ok (.invokevirtual 43, 3) := by decide +kernel
theorem dX11_versions_5 : decode cX11_versions 5 = .ok (.getfield 58, 3) := by decide +kernel
theorem dX11_versions_8 : decode cX11_versions 8 = .ok (.ireturn, 1) := by decide +kernel
theorem e_X11_versions_0 (d : Nat) {l0 l1 : Int} {m : Mem} {e v : Int} {m' : Mem} (h : X11_versions_0 l0 l1 m = some (e, v, m')) : Ex (d + 2) fm_X11_versions 0 [(21, l0), (0, l1)] [] m (rr9 0 e v) m' := by
  unfold X11_versions_0 at h
  refine x_aload_n dX11_versions_0 rfl rfl (Or.inr (by decide)) (?_ : Ex _ _ 1 _ _ _ _ _)
  refine x_iload_n dX11_versions_1 rfl rfl (?_ : Ex _ _ 2 _ _ _ _ _)
  obtain ⟨c1, h⟩ := chk_some h
  rcases calX_some h with ⟨v2, m3, g4, h⟩ | ⟨e7, v2, m3, x6, g4, h⟩
  · refine cV1 (e_X11_familyOf d g4) (cont0 (by decide) (?_ : Ex _ _ 5 _ _ _ _ _)) og_X11_familyOf rfl ml_RX11_43 11 rfl rfl c1 im_X11_familyOf se_X11_familyOf (Nat.le_of_ble_eq_true rfl) dX11_versions_2
    obtain ⟨c5, h⟩ := chk_some h
    refine gt_2_1 c5 fl_RX11_58 dX11_versions_5 (?_ : Ex _ _ 8 _ _ _ _ _)
    cases h
    exact y_retX dX11_versions_8 (by decide)
  · cases h
    exact cV1 (e_X11_familyOf d g4) (contE x6 rfl) og_X11_familyOf rfl ml_RX11_43 11 rfl rfl c1 im_X11_familyOf se_X11_familyOf (Nat.le_of_ble_eq_true rfl) dX11_versions_2
theorem e_X11_versions (d : Nat) {a0 a1 : Int} {m : Mem} {e v : Int} {m' : Mem} (h : X11_versions a0 a1 m = some (e, v, m')) : ExM (d + 2) fm_X11_versions [(21, a0), (0, a1)] m (rr9 0 e v) m' := by
  exact ExM.of (by decide +kernel) (Nat.le_of_ble_eq_true rfl) (cat9 rfl) retIX (e_X11_versions_0 d h)
theorem dX11_addFlow_0 : decode cX11_addFlow 0 = .ok (.aload_n 0, 1) := by decide +kernel
theorem dX11_addFlow_1 : decode cX11_addFlow 1 = .ok (.getfield 99, 3) := by decide +kernel
theorem dX11_addFlow_4 : decode cX11_addFlow 4 = .ok (.bipush 10, 2) := by decide +kernel
theorem dX11_addFlow_6 : decode cX11_addFlow 6 = .ok (.if_icmp .ge 23, 3) := by decide +kernel
theorem dX11_addFlow_9 : decode cX11_addFlow 9 = .ok (.aload_n 0, 1) := by decide +kernel
theorem dX11_addFlow_10 : decode cX11_addFlow 10 = .ok (.getfield 17, 3) := by decide +kernel
theorem dX11_addFlow_13 : decode cX11_addFlow 13 = .ok (.aload_n 0, 1) := by decide +kernel
theorem dX11_addFlow_14 : decode cX11_addFlow 14 = .ok (.getfield 99, 3) := by decide +kernel
theorem dX11_addFlow_17 : decode cX11_addFlow 17 = .ok (.aload_n 1, 1) := by decide +kernel
theorem dX11_addFlow_18 : decode cX11_addFlow 18 = .ok (.aastore, 1) := by decide +kernel
theorem dX11_addFlow_19 : decode cX11_addFlow 19 = .ok (.aload_n 0, 1) := by decide +kernel
theorem dX11_addFlow_20 : decode cX11_addFlow 20 = .ok (.dup, 1) := by decide +kernel
theorem dX11_addFlow_21 : decode cX11_addFlow 21 = .ok (.getfield 99, 3) := by decide +kernel
theorem dX11_addFlow_24 : decode cX11_addFlow 24 = .ok (.iconst 1, 1) := by decide +kernel
theorem dX11_addFlow_25 : decode cX11_addFlow 25 = .ok (.iadd, 1) := by decide +kernel
theorem dX11_addFlow_26 : decode cX11_addFlow 26 = .ok (.putfield 99, 3) := by decide +kernel
theorem dX11_addFlow_29 : decode cX11_addFlow 29 = .ok (.return_, 1) := by decide +kernel
theorem e_X11_addFlow_0 (d : Nat) {l0 l1 : Int} {m : Mem} {v : Int} {m' : Mem} (h : X11_addFlow_0 l0 l1 m = some (v, m')) : Ex d fm_X11_addFlow 0 [(21, l0), (20, l1)] [] m (.inl (3, 0)) m' := by
  unfold X11_addFlow_0 at h
  refine x_aload_n dX11_addFlow_0 rfl rfl (Or.inr (by decide)) (?_ : Ex _ _ 1 _ _ _ _ _)
  obtain ⟨c1, h⟩ := chk_some h
  refine gt_11_5 c1 fl_RX11_99 dX11_addFlow_1 (?_ : Ex _ _ 4 _ _ _ _ _)
  refine x_bipush dX11_addFlow_4 kb_10 (by decide) (?_ : Ex _ _ 6 _ _ _ _ _)
  rcases ite_some h with ⟨b2, h⟩ | ⟨b2, h⟩
  · refine x_icmp_ge (tgt := 29) dX11_addFlow_6 rfl b2 (?_ : Ex _ _ 29 _ _ _ _ _)
    cases h
    exact x_retv dX11_addFlow_29
  · refine x_icmp_geN dX11_addFlow_6 (by decide) b2 (?_ : Ex _ _ 9 _ _ _ _ _)
    refine x_aload_n dX11_addFlow_9 rfl rfl (Or.inr (by decide)) (?_ : Ex _ _ 10 _ _ _ _ _)
    refine gt_11_1 c1 fl_RX11_17 dX11_addFlow_10 (?_ : Ex _ _ 13 _ _ _ _ _)
    refine x_aload_n dX11_addFlow_13 rfl rfl (Or.inr (by decide)) (?_ : Ex _ _ 14 _ _ _ _ _)
    refine gt_11_5 c1 fl_RX11_99 dX11_addFlow_14 (?_ : Ex _ _ 17 _ _ _ _ _)
    refine x_aload_n dX11_addFlow_17 rfl rfl (Or.inr (by decide)) (?_ : Ex _ _ 18 _ _ _ _ _)
    obtain ⟨⟨c3, c4, c5, c6⟩, h⟩ := chk_some h
    obtain ⟨m7, hm7, h⟩ := st_some h
    refine as_10_10 c3 c6 c4 c5 dX11_addFlow_18 (?_ : Ex _ _ 19 _ _ _ _ _)
    rw [← hm7]
    refine x_aload_n dX11_addFlow_19 rfl rfl (Or.inr (by decide)) (?_ : Ex _ _ 20 _ _ _ _ _)
    refine x_dup (by decide : (21 : Int) ≠ 2) dX11_addFlow_20 (?_ : Ex _ _ 21 _ _ _ _ _)
    refine gt_11_5 c1 fl_RX11_99 dX11_addFlow_21 (?_ : Ex _ _ 24 _ _ _ _ _)
    refine x_iconst dX11_addFlow_24 rfl (by decide) (?_ : Ex _ _ 25 _ _ _ _ _)
    obtain ⟨c8, h⟩ := chk_some h
    refine x_iadd dX11_addFlow_25 c8 (?_ : Ex _ _ 26 _ _ _ _ _)
    obtain ⟨m9, hm9, h⟩ := st_some h
    refine pt_11_5  c1 fl_RX11_99 dX11_addFlow_26 (?_ : Ex _ _ 29 _ _ _ _ _)
    rw [← hm9]
    cases h
    exact x_retv dX11_addFlow_29
theorem e_X11_addFlow (d : Nat) {a0 a1 : Int} {m : Mem} {v : Int} {m' : Mem} (h : X11_addFlow a0 a1 m = some (v, m')) : ExM d fm_X11_addFlow [(21, a0), (20, a1)] m (.inl (3, 0)) m' := by
  exact ExM.of (by decide +kernel) (Nat.le_of_ble_eq_true rfl) (cat9 rfl) retV (e_X11_addFlow_0 d h)
theorem dX11_start_0 : decode cX11_start 0 = .ok (.iload_n 1, 1) := by decide +kernel
theorem dX11_start_1 : decode cX11_start 1 = .ok (.iconst 0, 1) := by decide +kernel
theorem dX11_start_2 : decode cX11_start 2 = .ok (.iconst 2, 1) := by decide +kernel
theorem dX11_start_3 : decode cX11_start 3 = .ok (.invokestatic 89, 3) := by decide +kernel
theorem dX11_start_6 : decode cX11_start 6 = .ok (.ifCond .eq 12, 3) := by decide +kernel
theorem dX11_start_9 : decode cX11_start 9 = .ok (.iload_n 2, 1) := by decide +kernel
theorem dX11_start_10 : decode cX11_start 10 = .ok (.iconst 0, 1) := by decide +kernel
theorem dX11_start_11 : decode cX11_start 11 = .ok (.iconst 2, 1) := by decide +kernel
theorem dX11_start_12 : decode cX11_start 12 = .ok (.invokestatic 89, 3) := by decide +kernel
theorem dX11_start_15 : decode cX11_start 15 = .ok (.ifCond .ne 13, 3) := by decide +kernel
theorem dX11_start_18 : decode cX11_start 18 = .ok (.new 92, 3) := by decide +kernel
theorem dX11_start_21 : decode cX11_start 21 = .ok (.dup, 1) := by decide +kernel
theorem dX11_start_22 : decode cX11_start 22 = .ok (.ldc 94, 2) := by decide +kernel
theorem dX11_start_24 : decode cX11_start 24 = .ok (.invokespecial 96, 3) := by decide +kernel
theorem dX11_start_27 : decode cX11_start 27 = .ok (.athrow, 1) := by decide +kernel
theorem dX11_start_28 : decode cX11_start 28 = .ok (.iload_n 3, 1) := by decide +kernel
theorem dX11_start_29 : decode cX11_start 29 = .ok (.bipush (-99), 2) := by decide +kernel
theorem dX11_start_31 : decode cX11_start 31 = .ok (.bipush 99, 2) := by decide +kernel
theorem dX11_start_33 : decode cX11_start 33 = .ok (.invokestatic 89, 3) := by decide +kernel
theorem dX11_start_36 : decode cX11_start 36 = .ok (.ifCond .ne 13, 3) := by decide +kernel
theorem dX11_start_39 : decode cX11_start 39 = .ok (.new 51, 3) := by decide +kernel
theorem dX11_start_42 : decode cX11_start 42 = .ok (.dup, 1) := by decide +kernel
theorem dX11_start_43 : decode cX11_start 43 = .ok (.ldc 97, 2) := by decide +kernel
theorem dX11_start_45 : decode cX11_start 45 = .ok (.invokespecial 55, 3) := by decide +kernel
theorem dX11_start_48 : decode cX11_start 48 = .ok (.athrow, 1) := by decide +kernel
theorem dX11_start_49 : decode cX11_start 49 = .ok (.aload_n 0, 1) := by decide +kernel
theorem dX11_start_50 : decode cX11_start 50 = .ok (.getfield 99, 3) := by decide +kernel
theorem dX11_start_53 : decode cX11_start 53 = .ok (.bipush 10, 2) := by decide +kernel
theorem dX11_start_55 : decode cX11_start 55 = .ok (.if_icmp .lt 13, 3) := by decide +kernel
theorem dX11_start_58 : decode cX11_start 58 = .ok (.new 71, 3) := by decide +kernel
theorem dX11_start_61 : decode cX11_start 61 = .ok (.dup, 1) := by decide +kernel
theorem dX11_start_62 : decode cX11_start 62 = .ok (.ldc 102, 2) := by decide +kernel
theorem dX11_start_64 : decode cX11_start 64 = .ok (.invokespecial 75, 3) := by decide +kernel
theorem dX11_start_67 : decode cX11_start 67 = .ok (.athrow, 1) := by decide +kernel
theorem dX11_start_68 : decode cX11_start 68 = .ok (.new 15, 3) := by decide +kernel
theorem dX11_start_71 : decode cX11_start 71 = .ok (.dup, 1) := by decide +kernel
theorem dX11_start_72 : decode cX11_start 72 = .ok (.aload_n 0, 1) := by decide +kernel
theorem dX11_start_73 : decode cX11_start 73 = .ok (.getfield 99, 3) := by decide +kernel
theorem dX11_start_76 : decode cX11_start 76 = .ok (.iload_n 1, 1) := by decide +kernel
theorem dX11_start_77 : decode cX11_start 77 = .ok (.iload_n 2, 1) := by decide +kernel
theorem dX11_start_78 : decode cX11_start 78 = .ok (.iload_n 3, 1) := by decide +kernel
theorem dX11_start_79 : decode cX11_start 79 = .ok (.invokespecial 104, 3) := by decide +kernel
theorem dX11_start_82 : decode cX11_start 82 = .ok (.astore 4, 2) := by decide +kernel
theorem dX11_start_84 : decode cX11_start 84 = .ok (.aload_n 0, 1) := by decide +kernel
theorem dX11_start_85 : decode cX11_start 85 = .ok (.aload 4, 2) := by decide +kernel
theorem dX11_start_87 : decode cX11_start 87 = .ok (.invokevirtual 107, 3) := by decide +kernel
theorem dX11_start_90 : decode cX11_start 90 = .ok (.aload 4, 2) := by decide +kernel
theorem dX11_start_92 : decode cX11_start 92 = .ok (.getfield 111, 3) := by decide +kernel
theorem dX11_start_95 : decode cX11_start 95 = .ok (.ireturn, 1) := by decide +kernel
theorem e_X11_start_0 (d : Nat) {l0 l1 l2 l3 : Int} {m : Mem} {e v : Int} {m' : Mem} (h : X11_start_0 l0 l1 l2 l3 m = some (e, v, m')) : Ex (d + 3) fm_X11_start 0 [(21, l0), (0, l1), (0, l2), (0, l3), (3, 0)] [] m (rr9 0 e v) m' := by
  unfold X11_start_0 at h
  refine x_iload_n dX11_start_0 rfl rfl (?_ : Ex _ _ 1 _ _ _ _ _)
  refine x_iconst dX11_start_1 rfl (by decide) (?_ : Ex _ _ 2 _ _ _ _ _)
  refine x_iconst dX11_start_2 rfl (by decide) (?_ : Ex _ _ 3 _ _ _ _ _)
  obtain ⟨v1, m2, g3, h⟩ := cal_some h
  refine cS3 (e_X11_isWithin (d + 2) g3) (contN (by decide) (?_ : Ex _ _ 6 _ _ _ _ _)) og_X11_isWithin rfl ml_RX11_89 sm_X11_isWithin (Nat.le_of_ble_eq_true rfl) dX11_start_3
  rcases ite_some h with ⟨b4, h⟩ | ⟨b4, h⟩
  · refine x_if_eq (tgt := 18) dX11_start_6 rfl b4 (?_ : Ex _ _ 18 _ _ _ _ _)
    cases h
    exact y_throw (by decide) to_RX11_92_94 rfl (Nat.le_of_ble_eq_true rfl) dX11_start_18 dX11_start_21 dX11_start_22 dX11_start_24 dX11_start_27 rfl rfl rfl rfl
  · refine x_if_eqN dX11_start_6 (by decide) b4 (?_ : Ex _ _ 9 _ _ _ _ _)
    refine x_iload_n dX11_start_9 rfl rfl (?_ : Ex _ _ 10 _ _ _ _ _)
    refine x_iconst dX11_start_10 rfl (by decide) (?_ : Ex _ _ 11 _ _ _ _ _)
    refine x_iconst dX11_start_11 rfl (by decide) (?_ : Ex _ _ 12 _ _ _ _ _)
    obtain ⟨v5, m6, g7, h⟩ := cal_some h
    refine cS3 (e_X11_isWithin (d + 2) g7) (contN (by decide) (?_ : Ex _ _ 15 _ _ _ _ _)) og_X11_isWithin rfl ml_RX11_89 sm_X11_isWithin (Nat.le_of_ble_eq_true rfl) dX11_start_12
    rcases ite_some h with ⟨b8, h⟩ | ⟨b8, h⟩
    · refine x_if_neN dX11_start_15 (by decide) (fun hh => hh b8) (?_ : Ex _ _ 18 _ _ _ _ _)
      cases h
      exact y_throw (by decide) to_RX11_92_94 rfl (Nat.le_of_ble_eq_true rfl) dX11_start_18 dX11_start_21 dX11_start_22 dX11_start_24 dX11_start_27 rfl rfl rfl rfl
    · refine x_if_ne (tgt := 28) dX11_start_15 rfl b8 (?_ : Ex _ _ 28 _ _ _ _ _)
      refine x_iload_n dX11_start_28 rfl rfl (?_ : Ex _ _ 29 _ _ _ _ _)
      refine x_bipush dX11_start_29 kb_n99 (by decide) (?_ : Ex _ _ 31 _ _ _ _ _)
      refine x_bipush dX11_start_31 kb_99 (by decide) (?_ : Ex _ _ 33 _ _ _ _ _)
      obtain ⟨v9, m10, g11, h⟩ := cal_some h
      refine cS3 (e_X11_isWithin (d + 2) g11) (contN (by decide) (?_ : Ex _ _ 36 _ _ _ _ _)) og_X11_isWithin rfl ml_RX11_89 sm_X11_isWithin (Nat.le_of_ble_eq_true rfl) dX11_start_33
      rcases ite_some h with ⟨b12, h⟩ | ⟨b12, h⟩
      · refine x_if_neN dX11_start_36 (by decide) (fun hh => hh b12) (?_ : Ex _ _ 39 _ _ _ _ _)
        cases h
        exact y_throw (by decide) to_RX11_51_97 rfl (Nat.le_of_ble_eq_true rfl) dX11_start_39 dX11_start_42 dX11_start_43 dX11_start_45 dX11_start_48 rfl rfl rfl rfl
      · refine x_if_ne (tgt := 49) dX11_start_36 rfl b12 (?_ : Ex _ _ 49 _ _ _ _ _)
        refine x_aload_n dX11_start_49 rfl rfl (Or.inr (by decide)) (?_ : Ex _ _ 50 _ _ _ _ _)
        obtain ⟨c13, h⟩ := chk_some h
        refine gt_11_5 c13 fl_RX11_99 dX11_start_50 (?_ : Ex _ _ 53 _ _ _ _ _)
        refine x_bipush dX11_start_53 kb_10 (by decide) (?_ : Ex _ _ 55 _ _ _ _ _)
        rcases ite_some h with ⟨b14, h⟩ | ⟨b14, h⟩
        · refine x_icmp_lt (tgt := 68) dX11_start_55 rfl b14 (?_ : Ex _ _ 68 _ _ _ _ _)
          obtain ⟨i15, hi15, h⟩ := vl_some h
          obtain ⟨⟨c16, c17⟩, h⟩ := chk_some h
          obtain ⟨m18, hm18, h⟩ := st_some h
          refine nw_10 c16 c17 cl_RX11_15 dX11_start_68 (?_ : Ex _ _ 71 _ _ _ _ _)
          rw [← hm18]
          refine x_dup (by decide : (20 : Int) ≠ 2) dX11_start_71 (?_ : Ex _ _ 72 _ _ _ _ _)
          refine x_aload_n dX11_start_72 rfl rfl (Or.inr (by decide)) (?_ : Ex _ _ 73 _ _ _ _ _)
          refine gt_11_5 c13 fl_RX11_99 dX11_start_73 (?_ : Ex _ _ 76 _ _ _ _ _)
          refine x_iload_n dX11_start_76 rfl rfl (?_ : Ex _ _ 77 _ _ _ _ _)
          refine x_iload_n dX11_start_77 rfl rfl (?_ : Ex _ _ 78 _ _ _ _ _)
          refine x_iload_n dX11_start_78 rfl rfl (?_ : Ex _ _ 79 _ _ _ _ _)
          obtain ⟨v19, m20, g21, h⟩ := cal_some h
          refine cI4 (e_X10_init d g21) (contV (?_ : Ex _ _ 82 _ _ _ _ _)) og_X10_init rfl ml_RX11_104 rfl rfl (by decide) c16 im_X10_init (Nat.le_of_ble_eq_true rfl) dX11_start_79
          refine x_astore (ls2 := [(21, l0), (0, l1), (0, l2), (0, l3), (20, i15)]) dX11_start_82 (Nat.le_of_ble_eq_true rfl) (Or.inr (by decide)) rfl (?_ : Ex _ _ 84 _ _ _ _ _)
          refine x_aload_n dX11_start_84 rfl rfl (Or.inr (by decide)) (?_ : Ex _ _ 85 _ _ _ _ _)
          refine x_aload dX11_start_85 rfl (Or.inr (by decide)) (?_ : Ex _ _ 87 _ _ _ _ _)
          obtain ⟨v22, m23, g24, h⟩ := cal_some h
          refine cV1 (e_X11_addFlow (d + 2) g24) (contV (?_ : Ex _ _ 90 _ _ _ _ _)) og_X11_addFlow rfl ml_RX11_107 11 rfl rfl c13 im_X11_addFlow se_X11_addFlow (Nat.le_of_ble_eq_true rfl) dX11_start_87
          refine x_aload dX11_start_90 rfl (Or.inr (by decide)) (?_ : Ex _ _ 92 _ _ _ _ _)
          refine gt_10_0 c16 fl_RX11_111 dX11_start_92 (?_ : Ex _ _ 95 _ _ _ _ _)
          cases h
          exact y_retX dX11_start_95 (by decide)
        · refine x_icmp_ltN dX11_start_55 (by decide) b14 (?_ : Ex _ _ 58 _ _ _ _ _)
          cases h
          exact y_throw (by decide) to_RX11_71_102 rfl (Nat.le_of_ble_eq_true rfl) dX11_start_58 dX11_start_61 dX11_start_62 dX11_start_64 dX11_start_67 rfl rfl rfl rfl
theorem e_X11_start (d : Nat) {a0 a1 a2 a3 : Int} {m : Mem} {e v : Int} {m' : Mem} (h : X11_start a0 a1 a2 a3 m = some (e, v, m')) : ExM (d + 3) fm_X11_start [(21, a0), (0, a1), (0, a2), (0, a3)] m (rr9 0 e v) m' := by
  exact ExM.of (by decide +kernel) (Nat.le_of_ble_eq_true rfl) (cat9 rfl) retIX (e_X11_start_0 d h)
theorem dX11_flowOf_0 : decode cX11_flowOf 0 = .ok (.iload_n 1, 1) := by decide +kernel
theorem dX11_flowOf_1 : decode cX11_flowOf 1 = .ok (.iconst 0, 1) := by decide +kernel
theorem dX11_flowOf_2 : decode cX11_flowOf 2 = .ok (.aload_n 0, 1) := by decide +kernel
theorem dX11_flowOf_3 : decode cX11_flowOf 3 = .ok (.getfield 99, 3) := by decide +kernel
theorem dX11_flowOf_6 : decode cX11_flowOf 6 = .ok (.iconst 1, 1) := by decide +kernel
theorem dX11_flowOf_7 : decode cX11_flowOf 7 = .ok (.isub, 1) := by decide +kernel
theorem dX11_flowOf_8 : decode cX11_flowOf 8 = .ok (.invokestatic 89, 3) := by decide +kernel
theorem dX11_flowOf_11 : decode cX11_flowOf 11 = .ok (.ifCond .ne 14, 3) := by decide +kernel
theorem dX11_flowOf_14 : decode cX11_flowOf 14 = .ok (.new 92, 3) := by decide +kernel
theorem dX11_flowOf_17 : decode cX11_flowOf 17 = .ok (.dup, 1) := by decide +kernel
theorem dX11_flowOf_18 : decode cX11_flowOf 18 = .ok (.ldc_w 313, 3) := by decide +kernel
theorem dX11_flowOf_21 : decode cX11_flowOf 21 = .ok (.invokespecial 96, 3) := by decide +kernel
theorem dX11_flowOf_24 : decode cX11_flowOf 24 = .ok (.athrow, 1) := by decide +kernel
theorem dX11_flowOf_25 : decode cX11_flowOf 25 = .ok (.aload_n 0, 1) := by decide +kernel
theorem dX11_flowOf_26 : decode cX11_flowOf 26 = .ok (.getfield 17, 3) := by decide +kernel
theorem dX11_flowOf_29 : decode cX11_flowOf 29 = .ok (.iload_n 1, 1) := by decide +kernel
theorem dX11_flowOf_30 : decode cX11_flowOf 30 = .ok (.aaload, 1) := by decide +kernel
theorem dX11_flowOf_31 : decode cX11_flowOf 31 = .ok (.areturn, 1) := by decide +kernel
theorem e_X11_flowOf_0 (d : Nat) {l0 l1 : Int} {m : Mem} {e v : Int} {m' : Mem} (h : X11_flowOf_0 l0 l1 m = some (e, v, m')) : Ex (d + 1) fm_X11_flowOf 0 [(21, l0), (0, l1)] [] m (rr9 20 e v) m' := by
  unfold X11_flowOf_0 at h
  refine x_iload_n dX11_flowOf_0 rfl rfl (?_ : Ex _ _ 1 _ _ _ _ _)
  refine x_iconst dX11_flowOf_1 rfl (by decide) (?_ : Ex _ _ 2 _ _ _ _ _)
  refine x_aload_n dX11_flowOf_2 rfl rfl (Or.inr (by decide)) (?_ : Ex _ _ 3 _ _ _ _ _)
  obtain ⟨c1, h⟩ := chk_some h
  refine gt_11_5 c1 fl_RX11_99 dX11_flowOf_3 (?_ : Ex _ _ 6 _ _ _ _ _)
  refine x_iconst dX11_flowOf_6 rfl (by decide) (?_ : Ex _ _ 7 _ _ _ _ _)
  obtain ⟨c2, h⟩ := chk_some h
  refine x_isub dX11_flowOf_7 c2 (?_ : Ex _ _ 8 _ _ _ _ _)
  obtain ⟨v3, m4, g5, h⟩ := cal_some h
  refine cS3 (e_X11_isWithin d g5) (contN (by decide) (?_ : Ex _ _ 11 _ _ _ _ _)) og_X11_isWithin rfl ml_RX11_89 sm_X11_isWithin (Nat.le_of_ble_eq_true rfl) dX11_flowOf_8
  rcases ite_some h with ⟨b6, h⟩ | ⟨b6, h⟩
  · refine x_if_neN dX11_flowOf_11 (by decide) (fun hh => hh b6) (?_ : Ex _ _ 14 _ _ _ _ _)
    cases h
    exact y_throwW (by decide) to_RX11_92_313 rfl (Nat.le_of_ble_eq_true rfl) dX11_flowOf_14 dX11_flowOf_17 dX11_flowOf_18 dX11_flowOf_21 dX11_flowOf_24 rfl rfl rfl rfl
  · refine x_if_ne (tgt := 25) dX11_flowOf_11 rfl b6 (?_ : Ex _ _ 25 _ _ _ _ _)
    refine x_aload_n dX11_flowOf_25 rfl rfl (Or.inr (by decide)) (?_ : Ex _ _ 26 _ _ _ _ _)
    refine gt_11_1 c1 fl_RX11_17 dX11_flowOf_26 (?_ : Ex _ _ 29 _ _ _ _ _)
    refine x_iload_n dX11_flowOf_29 rfl rfl (?_ : Ex _ _ 30 _ _ _ _ _)
    obtain ⟨⟨c7, c8, c9⟩, h⟩ := chk_some h
    refine ad_10_10 c7 c8 c9 dX11_flowOf_30 (?_ : Ex _ _ 31 _ _ _ _ _)
    cases h
    exact y_retX dX11_flowOf_31 (by decide)
theorem e_X11_flowOf (d : Nat) {a0 a1 : Int} {m : Mem} {e v : Int} {m' : Mem} (h : X11_flowOf a0 a1 m = some (e, v, m')) : ExM (d + 1) fm_X11_flowOf [(21, a0), (0, a1)] m (rr9 20 e v) m' := by
  exact ExM.of (by decide +kernel) (Nat.le_of_ble_eq_true rfl) (cat9 rfl) (retRX (by decide)) (e_X11_flowOf_0 d h)
theorem dX11_signal_0 : decode cX11_signal 0 = .ok (.aload_n 0, 1) := by decide +kernel
theorem dX11_signal_1 : decode cX11_signal 1 = .ok (.iload_n 1, 1) := by decide +kernel
theorem dX11_signal_2 : decode cX11_signal 2 = .ok (.invokevirtual 114, 3) := by decide +kernel
theorem dX11_signal_5 : decode cX11_signal 5 = .ok (.astore 4, 2) := by decide +kernel
theorem dX11_signal_7 : decode cX11_signal 7 = .ok (.iload_n 2, 1) := by decide +kernel
theorem dX11_signal_8 : decode cX11_signal 8 = .ok (.iconst 0, 1) := by decide +kernel
theorem dX11_signal_9 : decode cX11_signal 9 = .ok (.iconst 2, 1) := by decide +kernel
theorem dX11_signal_10 : decode cX11_signal 10 = .ok (.invokestatic 89, 3) := by decide +kernel
theorem dX11_signal_13 : decode cX11_signal 13 = .ok (.ifCond .eq 14, 3) := by decide +kernel
theorem dX11_signal_16 : decode cX11_signal 16 = .ok (.iload_n 3, 1) := by decide +kernel
theorem dX11_signal_17 : decode cX11_signal 17 = .ok (.bipush (-99), 2) := by decide +kernel
theorem dX11_signal_19 : decode cX11_signal 19 = .ok (.bipush 99, 2) := by decide +kernel
theorem dX11_signal_21 : decode cX11_signal 21 = .ok (.invokestatic 89, 3) := by decide +kernel
theorem dX11_signal_24 : decode cX11_signal 24 = .ok (.ifCond .ne 13, 3) := by decide +kernel
theorem dX11_signal_27 : decode cX11_signal 27 = .ok (.new 51, 3) := by decide +kernel
theorem dX11_signal_30 : decode cX11_signal 30 = .ok (.dup, 1) := by decide +kernel
theorem dX11_signal_31 : decode cX11_signal 31 = .ok (.ldc 118, 2) := by decide +kernel
theorem dX11_signal_33 : decode cX11_signal 33 = .ok (.invokespecial 55, 3) := by decide +kernel
theorem dX11_signal_36 : decode cX11_signal 36 = .ok (.athrow, 1) := by decide +kernel
theorem dX11_signal_37 : decode cX11_signal 37 = .ok (.aload 4, 2) := by decide +kernel
theorem dX11_signal_39 : decode cX11_signal 39 = .ok (.getfield 120, 3) := by decide +kernel
theorem dX11_signal_42 : decode cX11_signal 42 = .ok (.iconst 4, 1) := by decide +kernel
theorem dX11_signal_43 : decode cX11_signal 43 = .ok (.iload_n 2, 1) := by decide +kernel
theorem dX11_signal_44 : decode cX11_signal 44 = .ok (.iload_n 3, 1) := by decide +kernel
theorem dX11_signal_45 : decode cX11_signal 45 = .ok (.invokevirtual 124, 3) := by decide +kernel
theorem dX11_signal_48 : decode cX11_signal 48 = .ok (.ireturn, 1) := by decide +kernel
theorem e_X11_signal_0 (d : Nat) {l0 l1 l2 l3 : Int} {m : Mem} {e v : Int} {m' : Mem} (h : X11_signal_0 l0 l1 l2 l3 m = some (e, v, m')) : Ex (d + 2) fm_X11_signal 0 [(21, l0), (0, l1), (0, l2), (0, l3), (3, 0)] [] m (rr9 0 e v) m' := by
  unfold X11_signal_0 at h
  refine x_aload_n dX11_signal_0 rfl rfl (Or.inr (by decide)) (?_ : Ex _ _ 1 _ _ _ _ _)
  refine x_iload_n dX11_signal_1 rfl rfl (?_ : Ex _ _ 2 _ _ _ _ _)
  obtain ⟨c1, h⟩ := chk_some h
  rcases calX_some h with ⟨v2, m3, g4, h⟩ | ⟨e19, v2, m3, x18, g4, h⟩
  · refine cV1 (e_X11_flowOf d g4) (cont0 (by decide) (?_ : Ex _ _ 5 _ _ _ _ _)) og_X11_flowOf rfl ml_RX11_114 11 rfl rfl c1 im_X11_flowOf se_X11_flowOf (Nat.le_of_ble_eq_true rfl) dX11_signal_2
    refine x_astore (ls2 := [(21, l0), (0, l1), (0, l2), (0, l3), (20, v2)]) dX11_signal_5 (Nat.le_of_ble_eq_true rfl) (Or.inr (by decide)) rfl (?_ : Ex _ _ 7 _ _ _ _ _)
    refine x_iload_n dX11_signal_7 rfl rfl (?_ : Ex _ _ 8 _ _ _ _ _)
    refine x_iconst dX11_signal_8 rfl (by decide) (?_ : Ex _ _ 9 _ _ _ _ _)
    refine x_iconst dX11_signal_9 rfl (by decide) (?_ : Ex _ _ 10 _ _ _ _ _)
    obtain ⟨v5, m6, g7, h⟩ := cal_some h
    refine cS3 (e_X11_isWithin (d + 1) g7) (contN (by decide) (?_ : Ex _ _ 13 _ _ _ _ _)) og_X11_isWithin rfl ml_RX11_89 sm_X11_isWithin (Nat.le_of_ble_eq_true rfl) dX11_signal_10
    rcases ite_some h with ⟨b8, h⟩ | ⟨b8, h⟩
    · refine x_if_eq (tgt := 27) dX11_signal_13 rfl b8 (?_ : Ex _ _ 27 _ _ _ _ _)
      cases h
      exact y_throw (by decide) to_RX11_51_118 rfl (Nat.le_of_ble_eq_true rfl) dX11_signal_27 dX11_signal_30 dX11_signal_31 dX11_signal_33 dX11_signal_36 rfl rfl rfl rfl
    · refine x_if_eqN dX11_signal_13 (by decide) b8 (?_ : Ex _ _ 16 _ _ _ _ _)
      refine x_iload_n dX11_signal_16 rfl rfl (?_ : Ex _ _ 17 _ _ _ _ _)
      refine x_bipush dX11_signal_17 kb_n99 (by decide) (?_ : Ex _ _ 19 _ _ _ _ _)
      refine x_bipush dX11_signal_19 kb_99 (by decide) (?_ : Ex _ _ 21 _ _ _ _ _)
      obtain ⟨v9, m10, g11, h⟩ := cal_some h
      refine cS3 (e_X11_isWithin (d + 1) g11) (contN (by decide) (?_ : Ex _ _ 24 _ _ _ _ _)) og_X11_isWithin rfl ml_RX11_89 sm_X11_isWithin (Nat.le_of_ble_eq_true rfl) dX11_signal_21
      rcases ite_some h with ⟨b12, h⟩ | ⟨b12, h⟩
      · refine x_if_neN dX11_signal_24 (by decide) (fun hh => hh b12) (?_ : Ex _ _ 27 _ _ _ _ _)
        cases h
        exact y_throw (by decide) to_RX11_51_118 rfl (Nat.le_of_ble_eq_true rfl) dX11_signal_27 dX11_signal_30 dX11_signal_31 dX11_signal_33 dX11_signal_36 rfl rfl rfl rfl
      · refine x_if_ne (tgt := 37) dX11_signal_24 rfl b12 (?_ : Ex _ _ 37 _ _ _ _ _)
        refine x_aload dX11_signal_37 rfl (Or.inr (by decide)) (?_ : Ex _ _ 39 _ _ _ _ _)
        obtain ⟨c13, h⟩ := chk_some h
        refine gt_10_6 c13 fl_RX11_120 dX11_signal_39 (?_ : Ex _ _ 42 _ _ _ _ _)
        refine x_iconst dX11_signal_42 rfl (by decide) (?_ : Ex _ _ 43 _ _ _ _ _)
        refine x_iload_n dX11_signal_43 rfl rfl (?_ : Ex _ _ 44 _ _ _ _ _)
        refine x_iload_n dX11_signal_44 rfl rfl (?_ : Ex _ _ 45 _ _ _ _ _)
        obtain ⟨c14, h⟩ := chk_some h
        obtain ⟨v15, m16, g17, h⟩ := cal_some h
        refine cV3 (e_X7_happen d g17) (contN (by decide) (?_ : Ex _ _ 48 _ _ _ _ _)) og_X7_happen rfl ml_RX11_124 7 rfl rfl c14 im_X7_happen se_X7_happen (Nat.le_of_ble_eq_true rfl) dX11_signal_45
        cases h
        exact y_retX dX11_signal_48 (by decide)
  · cases h
    exact cV1 (e_X11_flowOf d g4) (contE x18 rfl) og_X11_flowOf rfl ml_RX11_114 11 rfl rfl c1 im_X11_flowOf se_X11_flowOf (Nat.le_of_ble_eq_true rfl) dX11_signal_2
theorem e_X11_signal (d : Nat) {a0 a1 a2 a3 : Int} {m : Mem} {e v : Int} {m' : Mem} (h : X11_signal a0 a1 a2 a3 m = some (e, v, m')) : ExM (d + 2) fm_X11_signal [(21, a0), (0, a1), (0, a2), (0, a3)] m (rr9 0 e v) m' := by
  obtain ⟨hb, h⟩ := boolX_some h
  exact ExM.of (by decide +kernel) (Nat.le_of_ble_eq_true rfl) (cat9 rfl) (retZX hb) (e_X11_signal_0 d h)
theorem dX11_cancel_0 : decode cX11_cancel 0 = .ok (.aload_n 0, 1) := by decide +kernel
theorem dX11_cancel_1 : decode cX11_cancel 1 = .ok (.iload_n 1, 1) := by decide +kernel
theorem dX11_cancel_2 : decode cX11_cancel 2 = .ok (.invokevirtual 114, 3) := by decide +kernel
theorem dX11_cancel_5 : decode cX11_cancel 5 = .ok (.getfield 120, 3) := by decide +kernel
theorem dX11_cancel_8 : decode cX11_cancel 8 = .ok (.invokevirtual 129, 3) := by decide +kernel
theorem dX11_cancel_11 : decode cX11_cancel 11 = .ok (.ireturn, 1) := by decide +kernel
theorem e_X11_cancel_0 (d : Nat) {l0 l1 : Int} {m : Mem} {e v : Int} {m' : Mem} (h : X11_cancel_0 l0 l1 m = some (e, v, m')) : Ex (d + 3) fm_X11_cancel 0 [(21, l0), (0, l1)] [] m (rr9 0 e v) m' := by
  unfold X11_cancel_0 at h
  refine x_aload_n dX11_cancel_0 rfl rfl (Or.inr (by decide)) (?_ : Ex _ _ 1 _ _ _ _ _)
  refine x_iload_n dX11_cancel_1 rfl rfl (?_ : Ex _ _ 2 _ _ _ _ _)
  obtain ⟨c1, h⟩ := chk_some h
  rcases calX_some h with ⟨v2, m3, g4, h⟩ | ⟨e11, v2, m3, x10, g4, h⟩
  · refine cV1 (e_X11_flowOf (d + 1) g4) (cont0 (by decide) (?_ : Ex _ _ 5 _ _ _ _ _)) og_X11_flowOf rfl ml_RX11_114 11 rfl rfl c1 im_X11_flowOf se_X11_flowOf (Nat.le_of_ble_eq_true rfl) dX11_cancel_2
    obtain ⟨c5, h⟩ := chk_some h
    refine gt_10_6 c5 fl_RX11_120 dX11_cancel_5 (?_ : Ex _ _ 8 _ _ _ _ _)
    obtain ⟨c6, h⟩ := chk_some h
    obtain ⟨v7, m8, g9, h⟩ := cal_some h
    refine cV0 (e_X7_askCancel d g9) (contN (by decide) (?_ : Ex _ _ 11 _ _ _ _ _)) og_X7_askCancel rfl ml_RX11_129 7 rfl rfl c6 im_X7_askCancel se_X7_askCancel (Nat.le_of_ble_eq_true rfl) dX11_cancel_8
    cases h
    exact y_retX dX11_cancel_11 (by decide)
  · cases h
    exact cV1 (e_X11_flowOf (d + 1) g4) (contE x10 rfl) og_X11_flowOf rfl ml_RX11_114 11 rfl rfl c1 im_X11_flowOf se_X11_flowOf (Nat.le_of_ble_eq_true rfl) dX11_cancel_2
theorem e_X11_cancel (d : Nat) {a0 a1 : Int} {m : Mem} {e v : Int} {m' : Mem} (h : X11_cancel a0 a1 m = some (e, v, m')) : ExM (d + 3) fm_X11_cancel [(21, a0), (0, a1)] m (rr9 0 e v) m' := by
  obtain ⟨hb, h⟩ := boolX_some h
  exact ExM.of (by decide +kernel) (Nat.le_of_ble_eq_true rfl) (cat9 rfl) (retZX hb) (e_X11_cancel_0 d h)
theorem dX11_programOf_0 : decode cX11_programOf 0 = .ok (.aload_n 0, 1) := by decide +kernel
theorem dX11_programOf_1 : decode cX11_programOf 1 = .ok (.aload_n 1, 1) := by decide +kernel
theorem dX11_programOf_2 : decode cX11_programOf 2 = .ok (.getfield 315, 3) := by decide +kernel
theorem dX11_programOf_5 : decode cX11_programOf 5 = .ok (.invokevirtual 43, 3) := by decide +kernel
theorem dX11_programOf_8 : decode cX11_programOf 8 = .ok (.astore_n 3, 1) := by decide +kernel
theorem dX11_programOf_9 : decode cX11_programOf 9 = .ok (.iload_n 2, 1) := by decide +kernel
theorem dX11_programOf_10 : decode cX11_programOf 10 = .ok (.iconst 1, 1) := by decide +kernel
theorem dX11_programOf_11 : decode cX11_programOf 11 = .ok (.aload_n 3, 1) := by decide +kernel
theorem dX11_programOf_12 : decode cX11_programOf 12 = .ok (.getfield 58, 3) := by decide +kernel
theorem dX11_programOf_15 : decode cX11_programOf 15 = .ok (.invokestatic 89, 3) := by decide +kernel
theorem dX11_programOf_18 : decode cX11_programOf 18 = .ok (.ifCond .ne 14, 3) := by decide +kernel
theorem dX11_programOf_21 : decode cX11_programOf 21 = .ok (.new 92, 3) := by decide +kernel
theorem dX11_programOf_24 : decode cX11_programOf 24 = .ok (.dup, 1) := by decide +kernel
theorem dX11_programOf_25 : decode cX11_programOf 25 = .ok (.ldc_w 318, 3) := by decide +kernel
theorem dX11_programOf_28 : decode cX11_programOf 28 = .ok (.invokespecial 96, 3) := by decide +kernel
theorem dX11_programOf_31 : decode cX11_programOf 31 = .ok (.athrow, 1) := by decide +kernel
theorem dX11_programOf_32 : decode cX11_programOf 32 = .ok (.aload_n 3, 1) := by decide +kernel
theorem dX11_programOf_33 : decode cX11_programOf 33 = .ok (.getfield 320, 3) := by decide +kernel
theorem dX11_programOf_36 : decode cX11_programOf 36 = .ok (.iload_n 2, 1) := by decide +kernel
theorem dX11_programOf_37 : decode cX11_programOf 37 = .ok (.iconst 1, 1) := by decide +kernel
theorem dX11_programOf_38 : decode cX11_programOf 38 = .ok (.isub, 1) := by decide +kernel
theorem dX11_programOf_39 : decode cX11_programOf 39 = .ok (.aaload, 1) := by decide +kernel
theorem dX11_programOf_40 : decode cX11_programOf 40 = .ok (.areturn, 1) := by decide +kernel
theorem e_X11_programOf_0 (d : Nat) {l0 l1 l2 : Int} {m : Mem} {e v : Int} {m' : Mem} (h : X11_programOf_0 l0 l1 l2 m = some (e, v, m')) : Ex (d + 2) fm_X11_programOf 0 [(21, l0), (20, l1), (0, l2), (3, 0)] [] m (rr9 15 e v) m' := by
  unfold X11_programOf_0 at h
  refine x_aload_n dX11_programOf_0 rfl rfl (Or.inr (by decide)) (?_ : Ex _ _ 1 _ _ _ _ _)
  refine x_aload_n dX11_programOf_1 rfl rfl (Or.inr (by decide)) (?_ : Ex _ _ 2 _ _ _ _ _)
  obtain ⟨c1, h⟩ := chk_some h
  refine gt_10_1 c1 fl_RX11_315 dX11_programOf_2 (?_ : Ex _ _ 5 _ _ _ _ _)
  obtain ⟨c2, h⟩ := chk_some h
  rcases calX_some h with ⟨v3, m4, g5, h⟩ | ⟨e16, v3, m4, x15, g5, h⟩
  · refine cV1 (e_X11_familyOf d g5) (cont0 (by decide) (?_ : Ex _ _ 8 _ _ _ _ _)) og_X11_familyOf rfl ml_RX11_43 11 rfl rfl c2 im_X11_familyOf se_X11_familyOf (Nat.le_of_ble_eq_true rfl) dX11_programOf_5
    refine x_astore_n (ls2 := [(21, l0), (20, l1), (0, l2), (12, v3)]) dX11_programOf_8 rfl (Nat.le_of_ble_eq_true rfl) (Or.inr (by decide)) rfl (?_ : Ex _ _ 9 _ _ _ _ _)
    refine x_iload_n dX11_programOf_9 rfl rfl (?_ : Ex _ _ 10 _ _ _ _ _)
    refine x_iconst dX11_programOf_10 rfl (by decide) (?_ : Ex _ _ 11 _ _ _ _ _)
    refine x_aload_n dX11_programOf_11 rfl rfl (Or.inr (by decide)) (?_ : Ex _ _ 12 _ _ _ _ _)
    obtain ⟨c6, h⟩ := chk_some h
    refine gt_2_1 c6 fl_RX11_58 dX11_programOf_12 (?_ : Ex _ _ 15 _ _ _ _ _)
    obtain ⟨v7, m8, g9, h⟩ := cal_some h
    refine cS3 (e_X11_isWithin (d + 1) g9) (contN (by decide) (?_ : Ex _ _ 18 _ _ _ _ _)) og_X11_isWithin rfl ml_RX11_89 sm_X11_isWithin (Nat.le_of_ble_eq_true rfl) dX11_programOf_15
    rcases ite_some h with ⟨b10, h⟩ | ⟨b10, h⟩
    · refine x_if_neN dX11_programOf_18 (by decide) (fun hh => hh b10) (?_ : Ex _ _ 21 _ _ _ _ _)
      cases h
      exact y_throwW (by decide) to_RX11_92_318 rfl (Nat.le_of_ble_eq_true rfl) dX11_programOf_21 dX11_programOf_24 dX11_programOf_25 dX11_programOf_28 dX11_programOf_31 rfl rfl rfl rfl
    · refine x_if_ne (tgt := 32) dX11_programOf_18 rfl b10 (?_ : Ex _ _ 32 _ _ _ _ _)
      refine x_aload_n dX11_programOf_32 rfl rfl (Or.inr (by decide)) (?_ : Ex _ _ 33 _ _ _ _ _)
      refine gt_2_0 c6 fl_RX11_320 dX11_programOf_33 (?_ : Ex _ _ 36 _ _ _ _ _)
      refine x_iload_n dX11_programOf_36 rfl rfl (?_ : Ex _ _ 37 _ _ _ _ _)
      refine x_iconst dX11_programOf_37 rfl (by decide) (?_ : Ex _ _ 38 _ _ _ _ _)
      obtain ⟨c11, h⟩ := chk_some h
      refine x_isub dX11_programOf_38 c11 (?_ : Ex _ _ 39 _ _ _ _ _)
      obtain ⟨⟨c12, c13, c14⟩, h⟩ := chk_some h
      refine ad_5_4 c12 c13 c14 dX11_programOf_39 (?_ : Ex _ _ 40 _ _ _ _ _)
      cases h
      exact y_retX dX11_programOf_40 (by decide)
  · cases h
    exact cV1 (e_X11_familyOf d g5) (contE x15 rfl) og_X11_familyOf rfl ml_RX11_43 11 rfl rfl c2 im_X11_familyOf se_X11_familyOf (Nat.le_of_ble_eq_true rfl) dX11_programOf_5
theorem e_X11_programOf (d : Nat) {a0 a1 a2 : Int} {m : Mem} {e v : Int} {m' : Mem} (h : X11_programOf a0 a1 a2 m = some (e, v, m')) : ExM (d + 2) fm_X11_programOf [(21, a0), (20, a1), (0, a2)] m (rr9 15 e v) m' := by
  exact ExM.of (by decide +kernel) (Nat.le_of_ble_eq_true rfl) (cat9 rfl) (retRX (by decide)) (e_X11_programOf_0 d h)
theorem dX11_freeHandsOf_0 : decode cX11_freeHandsOf 0 = .ok (.iconst 0, 1) := by decide +kernel
theorem dX11_freeHandsOf_1 : decode cX11_freeHandsOf 1 = .ok (.istore_n 2, 1) := by decide +kernel
theorem dX11_freeHandsOf_2 : decode cX11_freeHandsOf 2 = .ok (.iload_n 2, 1) := by decide +kernel
theorem dX11_freeHandsOf_3 : decode cX11_freeHandsOf 3 = .ok (.iconst 4, 1) := by decide +kernel
theorem dX11_freeHandsOf_4 : decode cX11_freeHandsOf 4 = .ok (.if_icmp .ge 32, 3) := by decide +kernel
theorem dX11_freeHandsOf_7 : decode cX11_freeHandsOf 7 = .ok (.aload_n 0, 1) := by decide +kernel
theorem dX11_freeHandsOf_8 : decode cX11_freeHandsOf 8 = .ok (.getfield 29, 3) := by decide +kernel
theorem dX11_freeHandsOf_11 : decode cX11_freeHandsOf 11 = .ok (.iload_n 2, 1) := by decide +kernel
theorem dX11_freeHandsOf_12 : decode cX11_freeHandsOf 12 = .ok (.aaload, 1) := by decide +kernel
theorem dX11_freeHandsOf_13 : decode cX11_freeHandsOf 13 = .ok (.getfield 189, 3) := by decide +kernel
theorem dX11_freeHandsOf_16 : decode cX11_freeHandsOf 16 = .ok (.aload_n 1, 1) := by decide +kernel
theorem dX11_freeHandsOf_17 : decode cX11_freeHandsOf 17 = .ok (.if_acmp .ne 13, 3) := by decide +kernel
theorem dX11_freeHandsOf_20 : decode cX11_freeHandsOf 20 = .ok (.aload_n 0, 1) := by decide +kernel
theorem dX11_freeHandsOf_21 : decode cX11_freeHandsOf 21 = .ok (.getfield 29, 3) := by decide +kernel
theorem dX11_freeHandsOf_24 : decode cX11_freeHandsOf 24 = .ok (.iload_n 2, 1) := by decide +kernel
theorem dX11_freeHandsOf_25 : decode cX11_freeHandsOf 25 = .ok (.aaload, 1) := by decide +kernel
theorem dX11_freeHandsOf_26 : decode cX11_freeHandsOf 26 = .ok (.aconst_null, 1) := by decide +kernel
theorem dX11_freeHandsOf_27 : decode cX11_freeHandsOf 27 = .ok (.putfield 189, 3) := by decide +kernel
theorem dX11_freeHandsOf_30 : decode cX11_freeHandsOf 30 = .ok (.iinc 2 1, 3) := by decide +kernel
theorem dX11_freeHandsOf_33 : decode cX11_freeHandsOf 33 = .ok (.goto (-31), 3) := by decide +kernel
theorem dX11_freeHandsOf_36 : decode cX11_freeHandsOf 36 = .ok (.return_, 1) := by decide +kernel
theorem e_X11_freeHandsOf_2 (d : Nat) : ∀ (n : Nat) {l0 l1 l2 : Int} {m : Mem} {v : Int} {m' : Mem}, X11_freeHandsOf_2 n l0 l1 l2 m = some (v, m') → Ex d fm_X11_freeHandsOf 2 [(21, l0), (10, l1), (0, l2)] [] m (.inl (3, 0)) m' := by
  intro n
  induction n with
  | zero =>
    intro l0 l1 l2 m v m' h
    have h : (none : Option R2) = some _ := h
    cases h
  | succ n ih =>
    intro l0 l1 l2 m v m' h
    rw [X11_freeHandsOf_2] at h
    refine x_iload_n dX11_freeHandsOf_2 rfl rfl (?_ : Ex _ _ 3 _ _ _ _ _)
    refine x_iconst dX11_freeHandsOf_3 rfl (by decide) (?_ : Ex _ _ 4 _ _ _ _ _)
    rcases ite_some h with ⟨b1, h⟩ | ⟨b1, h⟩
    · refine x_icmp_ge (tgt := 36) dX11_freeHandsOf_4 rfl b1 (?_ : Ex _ _ 36 _ _ _ _ _)
      cases h
      exact x_retv dX11_freeHandsOf_36
    · refine x_icmp_geN dX11_freeHandsOf_4 (by decide) b1 (?_ : Ex _ _ 7 _ _ _ _ _)
      refine x_aload_n dX11_freeHandsOf_7 rfl rfl (Or.inr (by decide)) (?_ : Ex _ _ 8 _ _ _ _ _)
      obtain ⟨c2, h⟩ := chk_some h
      refine gt_11_3 c2 fl_RX11_29 dX11_freeHandsOf_8 (?_ : Ex _ _ 11 _ _ _ _ _)
      refine x_iload_n dX11_freeHandsOf_11 rfl rfl (?_ : Ex _ _ 12 _ _ _ _ _)
      obtain ⟨⟨c3, c4, c5⟩, h⟩ := chk_some h
      refine ad_9_4 c3 c4 c5 dX11_freeHandsOf_12 (?_ : Ex _ _ 13 _ _ _ _ _)
      obtain ⟨c6, h⟩ := chk_some h
      refine gt_9_1 c6 fl_RX11_189 dX11_freeHandsOf_13 (?_ : Ex _ _ 16 _ _ _ _ _)
      refine x_aload_n dX11_freeHandsOf_16 rfl rfl (Or.inr (by decide)) (?_ : Ex _ _ 17 _ _ _ _ _)
      rcases ite_some h with ⟨b7, h⟩ | ⟨b7, h⟩
      · refine x_acmp_neN (by decide) (by decide) dX11_freeHandsOf_17 rfl b7 (?_ : Ex _ _ 20 _ _ _ _ _)
        refine x_aload_n dX11_freeHandsOf_20 rfl rfl (Or.inr (by decide)) (?_ : Ex _ _ 21 _ _ _ _ _)
        refine gt_11_3 c2 fl_RX11_29 dX11_freeHandsOf_21 (?_ : Ex _ _ 24 _ _ _ _ _)
        refine x_iload_n dX11_freeHandsOf_24 rfl rfl (?_ : Ex _ _ 25 _ _ _ _ _)
        obtain ⟨⟨c9, c10⟩, h⟩ := chk_some h
        refine ad_9_4 c3 c9 c10 dX11_freeHandsOf_25 (?_ : Ex _ _ 26 _ _ _ _ _)
        refine x_null 10 (by decide) dX11_freeHandsOf_26 (?_ : Ex _ _ 27 _ _ _ _ _)
        obtain ⟨m11, hm11, h⟩ := st_some h
        refine pt_9_1  c6 fl_RX11_189 dX11_freeHandsOf_27 (?_ : Ex _ _ 30 _ _ _ _ _)
        rw [← hm11]
        obtain ⟨c12, h⟩ := chk_some h
        refine x_iinc (ls2 := [(21, l0), (10, l1), (0, (l2 + 1))]) dX11_freeHandsOf_30 rfl c12 rfl (?_ : Ex _ _ 33 _ _ _ _ _)
        refine x_goto (tgt := 2) dX11_freeHandsOf_33 rfl (?_ : Ex _ _ 2 _ _ _ _ _)
        exact ih h
      · refine x_acmp_ne (tgt := 30) (by decide) (by decide) dX11_freeHandsOf_17 rfl b7 (?_ : Ex _ _ 30 _ _ _ _ _)
        obtain ⟨c8, h⟩ := chk_some h
        refine x_iinc (ls2 := [(21, l0), (10, l1), (0, (l2 + 1))]) dX11_freeHandsOf_30 rfl c8 rfl (?_ : Ex _ _ 33 _ _ _ _ _)
        refine x_goto (tgt := 2) dX11_freeHandsOf_33 rfl (?_ : Ex _ _ 2 _ _ _ _ _)
        exact ih h
theorem e_X11_freeHandsOf_0 (d : Nat) {l0 l1 : Int} {m : Mem} {v : Int} {m' : Mem} (h : X11_freeHandsOf_0 l0 l1 m = some (v, m')) : Ex d fm_X11_freeHandsOf 0 [(21, l0), (10, l1), (3, 0)] [] m (.inl (3, 0)) m' := by
  unfold X11_freeHandsOf_0 at h
  refine x_iconst dX11_freeHandsOf_0 rfl (by decide) (?_ : Ex _ _ 1 _ _ _ _ _)
  refine x_istore_n (ls2 := [(21, l0), (10, l1), (0, 0)]) dX11_freeHandsOf_1 rfl (Nat.le_of_ble_eq_true rfl) rfl (?_ : Ex _ _ 2 _ _ _ _ _)
  exact e_X11_freeHandsOf_2 d fuel9 h
theorem e_X11_freeHandsOf (d : Nat) {a0 a1 : Int} {m : Mem} {v : Int} {m' : Mem} (h : X11_freeHandsOf a0 a1 m = some (v, m')) : ExM d fm_X11_freeHandsOf [(21, a0), (10, a1)] m (.inl (3, 0)) m' := by
  exact ExM.of (by decide +kernel) (Nat.le_of_ble_eq_true rfl) (cat9 rfl) retV (e_X11_freeHandsOf_0 d h)
theorem dX11_takeOff_0 : decode cX11_takeOff 0 = .ok (.aload_n 1, 1) := by decide +kernel
theorem dX11_takeOff_1 : decode cX11_takeOff 1 = .ok (.iconst 3, 1) := by decide +kernel
theorem dX11_takeOff_2 : decode cX11_takeOff 2 = .ok (.putfield 438, 3) := by decide +kernel
theorem dX11_takeOff_5 : decode cX11_takeOff 5 = .ok (.aload_n 0, 1) := by decide +kernel
theorem dX11_takeOff_6 : decode cX11_takeOff 6 = .ok (.aload_n 1, 1) := by decide +kernel
theorem dX11_takeOff_7 : decode cX11_takeOff 7 = .ok (.invokevirtual 441, 3) := by decide +kernel
theorem dX11_takeOff_10 : decode cX11_takeOff 10 = .ok (.return_, 1) := by decide +kernel
theorem e_X11_takeOff_0 (d : Nat) {l0 l1 : Int} {m : Mem} {v : Int} {m' : Mem} (h : X11_takeOff_0 l0 l1 m = some (v, m')) : Ex (d + 1) fm_X11_takeOff 0 [(21, l0), (10, l1)] [] m (.inl (3, 0)) m' := by
  unfold X11_takeOff_0 at h
  refine x_aload_n dX11_takeOff_0 rfl rfl (Or.inr (by decide)) (?_ : Ex _ _ 1 _ _ _ _ _)
  refine x_iconst dX11_takeOff_1 rfl (by decide) (?_ : Ex _ _ 2 _ _ _ _ _)
  obtain ⟨c1, h⟩ := chk_some h
  obtain ⟨m2, hm2, h⟩ := st_some h
  refine pt_0_6  c1 fl_RX11_438 dX11_takeOff_2 (?_ : Ex _ _ 5 _ _ _ _ _)
  rw [← hm2]
  refine x_aload_n dX11_takeOff_5 rfl rfl (Or.inr (by decide)) (?_ : Ex _ _ 6 _ _ _ _ _)
  refine x_aload_n dX11_takeOff_6 rfl rfl (Or.inr (by decide)) (?_ : Ex _ _ 7 _ _ _ _ _)
  obtain ⟨c3, h⟩ := chk_some h
  obtain ⟨v4, m5, g6, h⟩ := cal_some h
  refine cV1 (e_X11_freeHandsOf d g6) (contV (?_ : Ex _ _ 10 _ _ _ _ _)) og_X11_freeHandsOf rfl ml_RX11_441 11 rfl rfl c3 im_X11_freeHandsOf se_X11_freeHandsOf (Nat.le_of_ble_eq_true rfl) dX11_takeOff_7
  cases h
  exact x_retv dX11_takeOff_10
theorem e_X11_takeOff (d : Nat) {a0 a1 : Int} {m : Mem} {v : Int} {m' : Mem} (h : X11_takeOff a0 a1 m = some (v, m')) : ExM (d + 1) fm_X11_takeOff [(21, a0), (10, a1)] m (.inl (3, 0)) m' := by
  exact ExM.of (by decide +kernel) (Nat.le_of_ble_eq_true rfl) (cat9 rfl) retV (e_X11_takeOff_0 d h)
theorem dX11_makeChild_0 : decode cX11_makeChild 0 = .ok (.aload_n 1, 1) := by decide +kernel
theorem dX11_makeChild_1 : decode cX11_makeChild 1 = .ok (.getfield 120, 3) := by decide +kernel
theorem dX11_makeChild_4 : decode cX11_makeChild 4 = .ok (.astore 4, 2) := by decide +kernel
theorem dX11_makeChild_6 : decode cX11_makeChild 6 = .ok (.aload_n 0, 1) := by decide +kernel
theorem dX11_makeChild_7 : decode cX11_makeChild 7 = .ok (.getfield 99, 3) := by decide +kernel
theorem dX11_makeChild_10 : decode cX11_makeChild 10 = .ok (.bipush 10, 2) := by decide +kernel
theorem dX11_makeChild_12 : decode cX11_makeChild 12 = .ok (.if_icmp .ge 69, 3) := by decide +kernel
theorem dX11_makeChild_15 : decode cX11_makeChild 15 = .ok (.new 15, 3) := by decide +kernel
theorem dX11_makeChild_18 : decode cX11_makeChild 18 = .ok (.dup, 1) := by decide +kernel
theorem dX11_makeChild_19 : decode cX11_makeChild 19 = .ok (.aload_n 0, 1) := by decide +kernel
theorem dX11_makeChild_20 : decode cX11_makeChild 20 = .ok (.getfield 99, 3) := by decide +kernel
theorem dX11_makeChild_23 : decode cX11_makeChild 23 = .ok (.iload_n 2, 1) := by decide +kernel
theorem dX11_makeChild_24 : decode cX11_makeChild 24 = .ok (.aload_n 1, 1) := by decide +kernel
theorem dX11_makeChild_25 : decode cX11_makeChild 25 = .ok (.getfield 389, 3) := by decide +kernel
theorem dX11_makeChild_28 : decode cX11_makeChild 28 = .ok (.aload 4, 2) := by decide +kernel
theorem dX11_makeChild_30 : decode cX11_makeChild 30 = .ok (.getfield 292, 3) := by decide +kernel
theorem dX11_makeChild_33 : decode cX11_makeChild 33 = .ok (.invokespecial 104, 3) := by decide +kernel
theorem dX11_makeChild_36 : decode cX11_makeChild 36 = .ok (.astore 5, 2) := by decide +kernel
theorem dX11_makeChild_38 : decode cX11_makeChild 38 = .ok (.aload 5, 2) := by decide +kernel
theorem dX11_makeChild_40 : decode cX11_makeChild 40 = .ok (.aload_n 1, 1) := by decide +kernel
theorem dX11_makeChild_41 : decode cX11_makeChild 41 = .ok (.getfield 111, 3) := by decide +kernel
theorem dX11_makeChild_44 : decode cX11_makeChild 44 = .ok (.putfield 261, 3) := by decide +kernel
theorem dX11_makeChild_47 : decode cX11_makeChild 47 = .ok (.aload 5, 2) := by decide +kernel
theorem dX11_makeChild_49 : decode cX11_makeChild 49 = .ok (.aload_n 1, 1) := by decide +kernel
theorem dX11_makeChild_50 : decode cX11_makeChild 50 = .ok (.getfield 148, 3) := by decide +kernel
theorem dX11_makeChild_53 : decode cX11_makeChild 53 = .ok (.putfield 390, 3) := by decide +kernel
theorem dX11_makeChild_56 : decode cX11_makeChild 56 = .ok (.aload 5, 2) := by decide +kernel
theorem dX11_makeChild_58 : decode cX11_makeChild 58 = .ok (.aload 4, 2) := by decide +kernel
theorem dX11_makeChild_60 : decode cX11_makeChild 60 = .ok (.getfield 393, 3) := by decide +kernel
theorem dX11_makeChild_63 : decode cX11_makeChild 63 = .ok (.putfield 396, 3) := by decide +kernel
theorem dX11_makeChild_66 : decode cX11_makeChild 66 = .ok (.aload 5, 2) := by decide +kernel
theorem dX11_makeChild_68 : decode cX11_makeChild 68 = .ok (.iload_n 3, 1) := by decide +kernel
theorem dX11_makeChild_69 : decode cX11_makeChild 69 = .ok (.putfield 399, 3) := by decide +kernel
theorem dX11_makeChild_72 : decode cX11_makeChild 72 = .ok (.aload_n 0, 1) := by decide +kernel
theorem dX11_makeChild_73 : decode cX11_makeChild 73 = .ok (.aload 5, 2) := by decide +kernel
theorem dX11_makeChild_75 : decode cX11_makeChild 75 = .ok (.invokevirtual 107, 3) := by decide +kernel
theorem dX11_makeChild_78 : decode cX11_makeChild 78 = .ok (.goto 14, 3) := by decide +kernel
theorem dX11_makeChild_81 : decode cX11_makeChild 81 = .ok (.aload 4, 2) := by decide +kernel
theorem dX11_makeChild_83 : decode cX11_makeChild 83 = .ok (.dup, 1) := by decide +kernel
theorem dX11_makeChild_84 : decode cX11_makeChild 84 = .ok (.getfield 402, 3) := by decide +kernel
theorem dX11_makeChild_87 : decode cX11_makeChild 87 = .ok (.iconst 1, 1) := by decide +kernel
theorem dX11_makeChild_88 : decode cX11_makeChild 88 = .ok (.iadd, 1) := by decide +kernel
theorem dX11_makeChild_89 : decode cX11_makeChild 89 = .ok (.putfield 402, 3) := by decide +kernel
theorem dX11_makeChild_92 : decode cX11_makeChild 92 = .ok (.aload 4, 2) := by decide +kernel
theorem dX11_makeChild_94 : decode cX11_makeChild 94 = .ok (.dup, 1) := by decide +kernel
theorem dX11_makeChild_95 : decode cX11_makeChild 95 = .ok (.getfield 393, 3) := by decide +kernel
theorem dX11_makeChild_98 : decode cX11_makeChild 98 = .ok (.iconst 1, 1) := by decide +kernel
theorem dX11_makeChild_99 : decode cX11_makeChild 99 = .ok (.iadd, 1) := by decide +kernel
theorem dX11_makeChild_100 : decode cX11_makeChild 100 = .ok (.putfield 393, 3) := by decide +kernel
theorem dX11_makeChild_103 : decode cX11_makeChild 103 = .ok (.return_, 1) := by decide +kernel
theorem e_X11_makeChild_92 (d : Nat) {l4 : Int} {m : Mem} {v : Int} {m' : Mem} (h : X11_makeChild_92 l4 m = some (v, m')) : Ex (d + 3) fm_X11_makeChild 92 [(3, 0), (3, 0), (3, 0), (3, 0), (17, l4), (3, 0)] [] m (.inl (3, 0)) m' := by
  unfold X11_makeChild_92 at h
  refine x_aload dX11_makeChild_92 rfl (Or.inr (by decide)) (?_ : Ex _ _ 94 _ _ _ _ _)
  refine x_dup (by decide : (17 : Int) ≠ 2) dX11_makeChild_94 (?_ : Ex _ _ 95 _ _ _ _ _)
  obtain ⟨c1, h⟩ := chk_some h
  refine gt_7_5 c1 fl_RX11_393 dX11_makeChild_95 (?_ : Ex _ _ 98 _ _ _ _ _)
  refine x_iconst dX11_makeChild_98 rfl (by decide) (?_ : Ex _ _ 99 _ _ _ _ _)
  obtain ⟨c2, h⟩ := chk_some h
  refine x_iadd dX11_makeChild_99 c2 (?_ : Ex _ _ 100 _ _ _ _ _)
  obtain ⟨m3, hm3, h⟩ := st_some h
  refine pt_7_5  c1 fl_RX11_393 dX11_makeChild_100 (?_ : Ex _ _ 103 _ _ _ _ _)
  rw [← hm3]
  cases h
  exact x_retv dX11_makeChild_103
theorem e_X11_makeChild_0 (d : Nat) {l0 l1 l2 l3 : Int} {m : Mem} {v : Int} {m' : Mem} (h : X11_makeChild_0 l0 l1 l2 l3 m = some (v, m')) : Ex (d + 3) fm_X11_makeChild 0 [(21, l0), (20, l1), (0, l2), (0, l3), (3, 0), (3, 0)] [] m (.inl (3, 0)) m' := by
  unfold X11_makeChild_0 at h
  refine x_aload_n dX11_makeChild_0 rfl rfl (Or.inr (by decide)) (?_ : Ex _ _ 1 _ _ _ _ _)
  obtain ⟨c1, h⟩ := chk_some h
  refine gt_10_6 c1 fl_RX11_120 dX11_makeChild_1 (?_ : Ex _ _ 4 _ _ _ _ _)
  refine x_astore (ls2 := [(21, l0), (20, l1), (0, l2), (0, l3), (17, m l1 6), (3, 0)]) dX11_makeChild_4 (Nat.le_of_ble_eq_true rfl) (Or.inr (by decide)) rfl (?_ : Ex _ _ 6 _ _ _ _ _)
  refine x_aload_n dX11_makeChild_6 rfl rfl (Or.inr (by decide)) (?_ : Ex _ _ 7 _ _ _ _ _)
  obtain ⟨c2, h⟩ := chk_some h
  refine gt_11_5 c2 fl_RX11_99 dX11_makeChild_7 (?_ : Ex _ _ 10 _ _ _ _ _)
  refine x_bipush dX11_makeChild_10 kb_10 (by decide) (?_ : Ex _ _ 12 _ _ _ _ _)
  rcases ite_some h with ⟨b3, h⟩ | ⟨b3, h⟩
  · refine x_icmp_ge (tgt := 81) dX11_makeChild_12 rfl b3 (?_ : Ex _ _ 81 _ _ _ _ _)
    refine x_aload dX11_makeChild_81 rfl (Or.inr (by decide)) (?_ : Ex _ _ 83 _ _ _ _ _)
    refine x_dup (by decide : (17 : Int) ≠ 2) dX11_makeChild_83 (?_ : Ex _ _ 84 _ _ _ _ _)
    obtain ⟨c4, h⟩ := chk_some h
    refine gt_7_6 c4 fl_RX11_402 dX11_makeChild_84 (?_ : Ex _ _ 87 _ _ _ _ _)
    refine x_iconst dX11_makeChild_87 rfl (by decide) (?_ : Ex _ _ 88 _ _ _ _ _)
    obtain ⟨c5, h⟩ := chk_some h
    refine x_iadd dX11_makeChild_88 c5 (?_ : Ex _ _ 89 _ _ _ _ _)
    obtain ⟨m6, hm6, h⟩ := st_some h
    refine pt_7_6  c4 fl_RX11_402 dX11_makeChild_89 (?_ : Ex _ _ 92 _ _ _ _ _)
    rw [← hm6]
    refine Ex.wk (ls2 := [(3, 0), (3, 0), (3, 0), (3, 0), (17, m l1 6), (3, 0)]) ⟨Or.inl rfl, Or.inl rfl, Or.inl rfl, Or.inl rfl, Or.inr rfl, Or.inl rfl, trivial⟩ ?_
    exact e_X11_makeChild_92 d h
  · refine x_icmp_geN dX11_makeChild_12 (by decide) b3 (?_ : Ex _ _ 15 _ _ _ _ _)
    obtain ⟨i7, hi7, h⟩ := vl_some h
    obtain ⟨⟨c8, c9⟩, h⟩ := chk_some h
    obtain ⟨m10, hm10, h⟩ := st_some h
    refine nw_10 c8 c9 cl_RX11_15 dX11_makeChild_15 (?_ : Ex _ _ 18 _ _ _ _ _)
    rw [← hm10]
    refine x_dup (by decide : (20 : Int) ≠ 2) dX11_makeChild_18 (?_ : Ex _ _ 19 _ _ _ _ _)
    refine x_aload_n dX11_makeChild_19 rfl rfl (Or.inr (by decide)) (?_ : Ex _ _ 20 _ _ _ _ _)
    refine gt_11_5 c2 fl_RX11_99 dX11_makeChild_20 (?_ : Ex _ _ 23 _ _ _ _ _)
    refine x_iload_n dX11_makeChild_23 rfl rfl (?_ : Ex _ _ 24 _ _ _ _ _)
    refine x_aload_n dX11_makeChild_24 rfl rfl (Or.inr (by decide)) (?_ : Ex _ _ 25 _ _ _ _ _)
    refine gt_10_2 c1 fl_RX11_389 dX11_makeChild_25 (?_ : Ex _ _ 28 _ _ _ _ _)
    refine x_aload dX11_makeChild_28 rfl (Or.inr (by decide)) (?_ : Ex _ _ 30 _ _ _ _ _)
    obtain ⟨c11, h⟩ := chk_some h
    refine gt_7_8 c11 fl_RX11_292 dX11_makeChild_30 (?_ : Ex _ _ 33 _ _ _ _ _)
    obtain ⟨v12, m13, g14, h⟩ := cal_some h
    refine cI4 (e_X10_init d g14) (contV (?_ : Ex _ _ 36 _ _ _ _ _)) og_X10_init rfl ml_RX11_104 rfl rfl (by decide) c8 im_X10_init (Nat.le_of_ble_eq_true rfl) dX11_makeChild_33
    refine x_astore (ls2 := [(21, l0), (20, l1), (0, l2), (0, l3), (17, m l1 6), (20, i7)]) dX11_makeChild_36 (Nat.le_of_ble_eq_true rfl) (Or.inr (by decide)) rfl (?_ : Ex _ _ 38 _ _ _ _ _)
    refine x_aload dX11_makeChild_38 rfl (Or.inr (by decide)) (?_ : Ex _ _ 40 _ _ _ _ _)
    refine x_aload_n dX11_makeChild_40 rfl rfl (Or.inr (by decide)) (?_ : Ex _ _ 41 _ _ _ _ _)
    refine gt_10_0 c1 fl_RX11_111 dX11_makeChild_41 (?_ : Ex _ _ 44 _ _ _ _ _)
    obtain ⟨m15, hm15, h⟩ := st_some h
    refine pt_10_7  c8 fl_RX11_261 dX11_makeChild_44 (?_ : Ex _ _ 47 _ _ _ _ _)
    rw [← hm15]
    refine x_aload dX11_makeChild_47 rfl (Or.inr (by decide)) (?_ : Ex _ _ 49 _ _ _ _ _)
    refine x_aload_n dX11_makeChild_49 rfl rfl (Or.inr (by decide)) (?_ : Ex _ _ 50 _ _ _ _ _)
    refine gt_10_5 c1 fl_RX11_148 dX11_makeChild_50 (?_ : Ex _ _ 53 _ _ _ _ _)
    obtain ⟨m16, hm16, h⟩ := st_some h
    refine pt_10_8  c8 fl_RX11_390 dX11_makeChild_53 (?_ : Ex _ _ 56 _ _ _ _ _)
    rw [← hm16]
    refine x_aload dX11_makeChild_56 rfl (Or.inr (by decide)) (?_ : Ex _ _ 58 _ _ _ _ _)
    refine x_aload dX11_makeChild_58 rfl (Or.inr (by decide)) (?_ : Ex _ _ 60 _ _ _ _ _)
    refine gt_7_5 c11 fl_RX11_393 dX11_makeChild_60 (?_ : Ex _ _ 63 _ _ _ _ _)
    obtain ⟨m17, hm17, h⟩ := st_some h
    refine pt_10_9  c8 fl_RX11_396 dX11_makeChild_63 (?_ : Ex _ _ 66 _ _ _ _ _)
    rw [← hm17]
    refine x_aload dX11_makeChild_66 rfl (Or.inr (by decide)) (?_ : Ex _ _ 68 _ _ _ _ _)
    refine x_iload_n dX11_makeChild_68 rfl rfl (?_ : Ex _ _ 69 _ _ _ _ _)
    obtain ⟨m18, hm18, h⟩ := st_some h
    refine pt_10_10  c8 fl_RX11_399 dX11_makeChild_69 (?_ : Ex _ _ 72 _ _ _ _ _)
    rw [← hm18]
    refine x_aload_n dX11_makeChild_72 rfl rfl (Or.inr (by decide)) (?_ : Ex _ _ 73 _ _ _ _ _)
    refine x_aload dX11_makeChild_73 rfl (Or.inr (by decide)) (?_ : Ex _ _ 75 _ _ _ _ _)
    obtain ⟨v19, m20, g21, h⟩ := cal_some h
    refine cV1 (e_X11_addFlow (d + 2) g21) (contV (?_ : Ex _ _ 78 _ _ _ _ _)) og_X11_addFlow rfl ml_RX11_107 11 rfl rfl c2 im_X11_addFlow se_X11_addFlow (Nat.le_of_ble_eq_true rfl) dX11_makeChild_75
    refine x_goto (tgt := 92) dX11_makeChild_78 rfl (?_ : Ex _ _ 92 _ _ _ _ _)
    refine Ex.wk (ls2 := [(3, 0), (3, 0), (3, 0), (3, 0), (17, m l1 6), (3, 0)]) ⟨Or.inl rfl, Or.inl rfl, Or.inl rfl, Or.inl rfl, Or.inr rfl, Or.inl rfl, trivial⟩ ?_
    exact e_X11_makeChild_92 d h
theorem e_X11_makeChild (d : Nat) {a0 a1 a2 a3 : Int} {m : Mem} {v : Int} {m' : Mem} (h : X11_makeChild a0 a1 a2 a3 m = some (v, m')) : ExM (d + 3) fm_X11_makeChild [(21, a0), (20, a1), (0, a2), (0, a3)] m (.inl (3, 0)) m' := by
  exact ExM.of (by decide +kernel) (Nat.le_of_ble_eq_true rfl) (cat9 rfl) retV (e_X11_makeChild_0 d h)
theorem dX11_takeEffect_0 : decode cX11_takeEffect 0 = .ok (.aload_n 1, 1) := by decide +kernel
theorem dX11_takeEffect_1 : decode cX11_takeEffect 1 = .ok (.getfield 120, 3) := by decide +kernel
theorem dX11_takeEffect_4 : decode cX11_takeEffect 4 = .ok (.astore 5, 2) := by decide +kernel
theorem dX11_takeEffect_6 : decode cX11_takeEffect 6 = .ok (.iload_n 2, 1) := by decide +kernel
theorem dX11_takeEffect_7 : decode cX11_takeEffect 7 = .ok (.tableswitch 154 8 15 #[45, 81, 110, 124, 133, 154, 144, 45], 45) := by decide +kernel
theorem dX11_takeEffect_52 : decode cX11_takeEffect 52 = .ok (.aload 5, 2) := by decide +kernel
theorem dX11_takeEffect_54 : decode cX11_takeEffect 54 = .ok (.new 203, 3) := by decide +kernel
theorem dX11_takeEffect_57 : decode cX11_takeEffect 57 = .ok (.dup, 1) := by decide +kernel
theorem dX11_takeEffect_58 : decode cX11_takeEffect 58 = .ok (.aload_n 1, 1) := by decide +kernel
theorem dX11_takeEffect_59 : decode cX11_takeEffect 59 = .ok (.iload 4, 2) := by decide +kernel
theorem dX11_takeEffect_61 : decode cX11_takeEffect 61 = .ok (.aload_n 0, 1) := by decide +kernel
theorem dX11_takeEffect_62 : decode cX11_takeEffect 62 = .ok (.getfield 360, 3) := by decide +kernel
theorem dX11_takeEffect_65 : decode cX11_takeEffect 65 = .ok (.aload_n 0, 1) := by decide +kernel
theorem dX11_takeEffect_66 : decode cX11_takeEffect 66 = .ok (.getfield 211, 3) := by decide +kernel
theorem dX11_takeEffect_69 : decode cX11_takeEffect 69 = .ok (.invokespecial 363, 3) := by decide +kernel
theorem dX11_takeEffect_72 : decode cX11_takeEffect 72 = .ok (.invokevirtual 365, 3) := by decide +kernel
theorem dX11_takeEffect_75 : decode cX11_takeEffect 75 = .ok (.aload_n 0, 1) := by decide +kernel
theorem dX11_takeEffect_76 : decode cX11_takeEffect 76 = .ok (.dup, 1) := by decide +kernel
theorem dX11_takeEffect_77 : decode cX11_takeEffect 77 = .ok (.getfield 360, 3) := by decide +kernel
theorem dX11_takeEffect_80 : decode cX11_takeEffect 80 = .ok (.iconst 1, 1) := by decide +kernel
theorem dX11_takeEffect_81 : decode cX11_takeEffect 81 = .ok (.iadd, 1) := by decide +kernel
theorem dX11_takeEffect_82 : decode cX11_takeEffect 82 = .ok (.putfield 360, 3) := by decide +kernel
theorem dX11_takeEffect_85 : decode cX11_takeEffect 85 = .ok (.goto 76, 3) := by decide +kernel
theorem dX11_takeEffect_88 : decode cX11_takeEffect 88 = .ok (.iload_n 3, 1) := by decide +kernel
theorem dX11_takeEffect_89 : decode cX11_takeEffect 89 = .ok (.iconst 0, 1) := by decide +kernel
theorem dX11_takeEffect_90 : decode cX11_takeEffect 90 = .ok (.aload 5, 2) := by decide +kernel
theorem dX11_takeEffect_92 : decode cX11_takeEffect 92 = .ok (.getfield 368, 3) := by decide +kernel
theorem dX11_takeEffect_95 : decode cX11_takeEffect 95 = .ok (.iconst 1, 1) := by decide +kernel
theorem dX11_takeEffect_96 : decode cX11_takeEffect 96 = .ok (.isub, 1) := by decide +kernel
theorem dX11_takeEffect_97 : decode cX11_takeEffect 97 = .ok (.invokestatic 89, 3) := by decide +kernel
theorem dX11_takeEffect_100 : decode cX11_takeEffect 100 = .ok (.ifCond .eq 61, 3) := by decide +kernel
theorem dX11_takeEffect_103 : decode cX11_takeEffect 103 = .ok (.aload_n 0, 1) := by decide +kernel
theorem dX11_takeEffect_104 : decode cX11_takeEffect 104 = .ok (.aload 5, 2) := by decide +kernel
theorem dX11_takeEffect_106 : decode cX11_takeEffect 106 = .ok (.getfield 371, 3) := by decide +kernel
theorem dX11_takeEffect_109 : decode cX11_takeEffect 109 = .ok (.iload_n 3, 1) := by decide +kernel
theorem dX11_takeEffect_110 : decode cX11_takeEffect 110 = .ok (.aaload, 1) := by decide +kernel
theorem dX11_takeEffect_111 : decode cX11_takeEffect 111 = .ok (.invokevirtual 229, 3) := by decide +kernel
theorem dX11_takeEffect_114 : decode cX11_takeEffect 114 = .ok (.goto 47, 3) := by decide +kernel
theorem dX11_takeEffect_117 : decode cX11_takeEffect 117 = .ok (.aload 5, 2) := by decide +kernel
theorem dX11_takeEffect_119 : decode cX11_takeEffect 119 = .ok (.aload_n 0, 1) := by decide +kernel
theorem dX11_takeEffect_120 : decode cX11_takeEffect 120 = .ok (.getfield 211, 3) := by decide +kernel
theorem dX11_takeEffect_123 : decode cX11_takeEffect 123 = .ok (.iload_n 3, 1) := by decide +kernel
theorem dX11_takeEffect_124 : decode cX11_takeEffect 124 = .ok (.iadd, 1) := by decide +kernel
theorem dX11_takeEffect_125 : decode cX11_takeEffect 125 = .ok (.invokevirtual 375, 3) := by decide +kernel
theorem dX11_takeEffect_128 : decode cX11_takeEffect 128 = .ok (.goto 33, 3) := by decide +kernel
theorem dX11_takeEffect_131 : decode cX11_takeEffect 131 = .ok (.aload 5, 2) := by decide +kernel
theorem dX11_takeEffect_133 : decode cX11_takeEffect 133 = .ok (.iload_n 3, 1) := by decide +kernel
theorem dX11_takeEffect_134 : decode cX11_takeEffect 134 = .ok (.invokevirtual 378, 3) := by decide +kernel
theorem dX11_takeEffect_137 : decode cX11_takeEffect 137 = .ok (.goto 24, 3) := by decide +kernel
theorem dX11_takeEffect_140 : decode cX11_takeEffect 140 = .ok (.aload_n 0, 1) := by decide +kernel
theorem dX11_takeEffect_141 : decode cX11_takeEffect 141 = .ok (.aload_n 1, 1) := by decide +kernel
theorem dX11_takeEffect_142 : decode cX11_takeEffect 142 = .ok (.iload_n 3, 1) := by decide +kernel
theorem dX11_takeEffect_143 : decode cX11_takeEffect 143 = .ok (.iload 4, 2) := by decide +kernel
theorem dX11_takeEffect_145 : decode cX11_takeEffect 145 = .ok (.invokevirtual 381, 3) := by decide +kernel
theorem dX11_takeEffect_148 : decode cX11_takeEffect 148 = .ok (.goto 13, 3) := by decide +kernel
theorem dX11_takeEffect_151 : decode cX11_takeEffect 151 = .ok (.aload_n 1, 1) := by decide +kernel
theorem dX11_takeEffect_152 : decode cX11_takeEffect 152 = .ok (.iload_n 3, 1) := by decide +kernel
theorem dX11_takeEffect_153 : decode cX11_takeEffect 153 = .ok (.iload 4, 2) := by decide +kernel
theorem dX11_takeEffect_155 : decode cX11_takeEffect 155 = .ok (.invokevirtual 385, 3) := by decide +kernel
theorem dX11_takeEffect_158 : decode cX11_takeEffect 158 = .ok (.goto 3, 3) := by decide +kernel
theorem dX11_takeEffect_161 : decode cX11_takeEffect 161 = .ok (.return_, 1) := by decide +kernel
theorem e_X11_takeEffect_0 (d : Nat) {l0 l1 l2 l3 l4 : Int} {m : Mem} {v : Int} {m' : Mem} (h : X11_takeEffect_0 l0 l1 l2 l3 l4 m = some (v, m')) : Ex (d + 4) fm_X11_takeEffect 0 [(21, l0), (20, l1), (0, l2), (0, l3), (0, l4), (3, 0)] [] m (.inl (3, 0)) m' := by
  unfold X11_takeEffect_0 at h
  refine x_aload_n dX11_takeEffect_0 rfl rfl (Or.inr (by decide)) (?_ : Ex _ _ 1 _ _ _ _ _)
  obtain ⟨c1, h⟩ := chk_some h
  refine gt_10_6 c1 fl_RX11_120 dX11_takeEffect_1 (?_ : Ex _ _ 4 _ _ _ _ _)
  refine x_astore (ls2 := [(21, l0), (20, l1), (0, l2), (0, l3), (0, l4), (17, m l1 6)]) dX11_takeEffect_4 (Nat.le_of_ble_eq_true rfl) (Or.inr (by decide)) rfl (?_ : Ex _ _ 6 _ _ _ _ _)
  refine x_iload_n dX11_takeEffect_6 rfl rfl (?_ : Ex _ _ 7 _ _ _ _ _)
  rcases ite_some h with ⟨b2, h⟩ | ⟨b2, h⟩
  · refine y_tableAt (j := 8) (off := 45) (tgt := 52) b2 dX11_takeEffect_7 (by decide) (by decide) rfl rfl (?_ : Ex _ _ 52 _ _ _ _ _)
    refine x_aload dX11_takeEffect_52 rfl (Or.inr (by decide)) (?_ : Ex _ _ 54 _ _ _ _ _)
    obtain ⟨i3, hi3, h⟩ := vl_some h
    obtain ⟨⟨c4, c5⟩, h⟩ := chk_some h
    obtain ⟨m6, hm6, h⟩ := st_some h
    refine nw_0 c4 c5 cl_RX11_203 dX11_takeEffect_54 (?_ : Ex _ _ 57 _ _ _ _ _)
    rw [← hm6]
    refine x_dup (by decide : (10 : Int) ≠ 2) dX11_takeEffect_57 (?_ : Ex _ _ 58 _ _ _ _ _)
    refine x_aload_n dX11_takeEffect_58 rfl rfl (Or.inr (by decide)) (?_ : Ex _ _ 59 _ _ _ _ _)
    refine x_iload dX11_takeEffect_59 rfl (?_ : Ex _ _ 61 _ _ _ _ _)
    refine x_aload_n dX11_takeEffect_61 rfl rfl (Or.inr (by decide)) (?_ : Ex _ _ 62 _ _ _ _ _)
    obtain ⟨c7, h⟩ := chk_some h
    refine gt_11_6 c7 fl_RX11_360 dX11_takeEffect_62 (?_ : Ex _ _ 65 _ _ _ _ _)
    refine x_aload_n dX11_takeEffect_65 rfl rfl (Or.inr (by decide)) (?_ : Ex _ _ 66 _ _ _ _ _)
    refine gt_11_7 c7 fl_RX11_211 dX11_takeEffect_66 (?_ : Ex _ _ 69 _ _ _ _ _)
    obtain ⟨v8, m9, g10, h⟩ := cal_some h
    refine cI4 (e_X0_init (d + 3) g10) (contV (?_ : Ex _ _ 72 _ _ _ _ _)) og_X0_init rfl ml_RX11_363 rfl rfl (by decide) c4 im_X0_init (Nat.le_of_ble_eq_true rfl) dX11_takeEffect_69
    obtain ⟨c11, h⟩ := chk_some h
    obtain ⟨v12, m13, g14, h⟩ := cal_some h
    refine cV1 (e_X7_addActivity (d + 3) g14) (contV (?_ : Ex _ _ 75 _ _ _ _ _)) og_X7_addActivity rfl ml_RX11_365 7 rfl rfl c11 im_X7_addActivity se_X7_addActivity (Nat.le_of_ble_eq_true rfl) dX11_takeEffect_72
    refine x_aload_n dX11_takeEffect_75 rfl rfl (Or.inr (by decide)) (?_ : Ex _ _ 76 _ _ _ _ _)
    refine x_dup (by decide : (21 : Int) ≠ 2) dX11_takeEffect_76 (?_ : Ex _ _ 77 _ _ _ _ _)
    refine gt_11_6 c7 fl_RX11_360 dX11_takeEffect_77 (?_ : Ex _ _ 80 _ _ _ _ _)
    refine x_iconst dX11_takeEffect_80 rfl (by decide) (?_ : Ex _ _ 81 _ _ _ _ _)
    obtain ⟨c15, h⟩ := chk_some h
    refine x_iadd dX11_takeEffect_81 c15 (?_ : Ex _ _ 82 _ _ _ _ _)
    obtain ⟨m16, hm16, h⟩ := st_some h
    refine pt_11_6  c7 fl_RX11_360 dX11_takeEffect_82 (?_ : Ex _ _ 85 _ _ _ _ _)
    rw [← hm16]
    refine x_goto (tgt := 161) dX11_takeEffect_85 rfl (?_ : Ex _ _ 161 _ _ _ _ _)
    cases h
    exact x_retv dX11_takeEffect_161
  rcases ite_some h with ⟨b17, h⟩ | ⟨b17, h⟩
  · refine y_tableAt (j := 9) (off := 81) (tgt := 88) b17 dX11_takeEffect_7 (by decide) (by decide) rfl rfl (?_ : Ex _ _ 88 _ _ _ _ _)
    refine x_iload_n dX11_takeEffect_88 rfl rfl (?_ : Ex _ _ 89 _ _ _ _ _)
    refine x_iconst dX11_takeEffect_89 rfl (by decide) (?_ : Ex _ _ 90 _ _ _ _ _)
    refine x_aload dX11_takeEffect_90 rfl (Or.inr (by decide)) (?_ : Ex _ _ 92 _ _ _ _ _)
    obtain ⟨c18, h⟩ := chk_some h
    refine gt_7_3 c18 fl_RX11_368 dX11_takeEffect_92 (?_ : Ex _ _ 95 _ _ _ _ _)
    refine x_iconst dX11_takeEffect_95 rfl (by decide) (?_ : Ex _ _ 96 _ _ _ _ _)
    obtain ⟨c19, h⟩ := chk_some h
    refine x_isub dX11_takeEffect_96 c19 (?_ : Ex _ _ 97 _ _ _ _ _)
    obtain ⟨v20, m21, g22, h⟩ := cal_some h
    refine cS3 (e_X11_isWithin (d + 3) g22) (contN (by decide) (?_ : Ex _ _ 100 _ _ _ _ _)) og_X11_isWithin rfl ml_RX11_89 sm_X11_isWithin (Nat.le_of_ble_eq_true rfl) dX11_takeEffect_97
    rcases ite_some h with ⟨b23, h⟩ | ⟨b23, h⟩
    · refine x_if_eq (tgt := 161) dX11_takeEffect_100 rfl b23 (?_ : Ex _ _ 161 _ _ _ _ _)
      cases h
      exact x_retv dX11_takeEffect_161
    · refine x_if_eqN dX11_takeEffect_100 (by decide) b23 (?_ : Ex _ _ 103 _ _ _ _ _)
      refine x_aload_n dX11_takeEffect_103 rfl rfl (Or.inr (by decide)) (?_ : Ex _ _ 104 _ _ _ _ _)
      refine x_aload dX11_takeEffect_104 rfl (Or.inr (by decide)) (?_ : Ex _ _ 106 _ _ _ _ _)
      refine gt_7_1 c18 fl_RX11_371 dX11_takeEffect_106 (?_ : Ex _ _ 109 _ _ _ _ _)
      refine x_iload_n dX11_takeEffect_109 rfl rfl (?_ : Ex _ _ 110 _ _ _ _ _)
      obtain ⟨⟨c24, c25, c26⟩, h⟩ := chk_some h
      refine ad_0_80 c24 c25 c26 dX11_takeEffect_110 (?_ : Ex _ _ 111 _ _ _ _ _)
      obtain ⟨c27, h⟩ := chk_some h
      obtain ⟨v28, m29, g30, h⟩ := cal_some h
      refine cV1 (e_X11_takeOff (d + 2) g30) (contV (?_ : Ex _ _ 114 _ _ _ _ _)) og_X11_takeOff rfl ml_RX11_229 11 rfl rfl c27 im_X11_takeOff se_X11_takeOff (Nat.le_of_ble_eq_true rfl) dX11_takeEffect_111
      refine x_goto (tgt := 161) dX11_takeEffect_114 rfl (?_ : Ex _ _ 161 _ _ _ _ _)
      cases h
      exact x_retv dX11_takeEffect_161
  rcases ite_some h with ⟨b31, h⟩ | ⟨b31, h⟩
  · refine y_tableAt (j := 10) (off := 110) (tgt := 117) b31 dX11_takeEffect_7 (by decide) (by decide) rfl rfl (?_ : Ex _ _ 117 _ _ _ _ _)
    refine x_aload dX11_takeEffect_117 rfl (Or.inr (by decide)) (?_ : Ex _ _ 119 _ _ _ _ _)
    refine x_aload_n dX11_takeEffect_119 rfl rfl (Or.inr (by decide)) (?_ : Ex _ _ 120 _ _ _ _ _)
    obtain ⟨c32, h⟩ := chk_some h
    refine gt_11_7 c32 fl_RX11_211 dX11_takeEffect_120 (?_ : Ex _ _ 123 _ _ _ _ _)
    refine x_iload_n dX11_takeEffect_123 rfl rfl (?_ : Ex _ _ 124 _ _ _ _ _)
    obtain ⟨c33, h⟩ := chk_some h
    refine x_iadd dX11_takeEffect_124 c33 (?_ : Ex _ _ 125 _ _ _ _ _)
    obtain ⟨c34, h⟩ := chk_some h
    obtain ⟨v35, m36, g37, h⟩ := cal_some h
    refine cV1 (e_X7_addTimer (d + 3) g37) (contV (?_ : Ex _ _ 128 _ _ _ _ _)) og_X7_addTimer rfl ml_RX11_375 7 rfl rfl c34 im_X7_addTimer se_X7_addTimer (Nat.le_of_ble_eq_true rfl) dX11_takeEffect_125
    refine x_goto (tgt := 161) dX11_takeEffect_128 rfl (?_ : Ex _ _ 161 _ _ _ _ _)
    cases h
    exact x_retv dX11_takeEffect_161
  rcases ite_some h with ⟨b38, h⟩ | ⟨b38, h⟩
  · refine y_tableAt (j := 11) (off := 124) (tgt := 131) b38 dX11_takeEffect_7 (by decide) (by decide) rfl rfl (?_ : Ex _ _ 131 _ _ _ _ _)
    refine x_aload dX11_takeEffect_131 rfl (Or.inr (by decide)) (?_ : Ex _ _ 133 _ _ _ _ _)
    refine x_iload_n dX11_takeEffect_133 rfl rfl (?_ : Ex _ _ 134 _ _ _ _ _)
    obtain ⟨c39, h⟩ := chk_some h
    obtain ⟨v40, m41, g42, h⟩ := cal_some h
    refine cV1 (e_X7_dropTimer (d + 3) g42) (contV (?_ : Ex _ _ 137 _ _ _ _ _)) og_X7_dropTimer rfl ml_RX11_378 7 rfl rfl c39 im_X7_dropTimer se_X7_dropTimer (Nat.le_of_ble_eq_true rfl) dX11_takeEffect_134
    refine x_goto (tgt := 161) dX11_takeEffect_137 rfl (?_ : Ex _ _ 161 _ _ _ _ _)
    cases h
    exact x_retv dX11_takeEffect_161
  rcases ite_some h with ⟨b43, h⟩ | ⟨b43, h⟩
  · refine y_tableAt (j := 12) (off := 133) (tgt := 140) b43 dX11_takeEffect_7 (by decide) (by decide) rfl rfl (?_ : Ex _ _ 140 _ _ _ _ _)
    refine x_aload_n dX11_takeEffect_140 rfl rfl (Or.inr (by decide)) (?_ : Ex _ _ 141 _ _ _ _ _)
    refine x_aload_n dX11_takeEffect_141 rfl rfl (Or.inr (by decide)) (?_ : Ex _ _ 142 _ _ _ _ _)
    refine x_iload_n dX11_takeEffect_142 rfl rfl (?_ : Ex _ _ 143 _ _ _ _ _)
    refine x_iload dX11_takeEffect_143 rfl (?_ : Ex _ _ 145 _ _ _ _ _)
    obtain ⟨c44, h⟩ := chk_some h
    obtain ⟨v45, m46, g47, h⟩ := cal_some h
    refine cV3 (e_X11_makeChild d g47) (contV (?_ : Ex _ _ 148 _ _ _ _ _)) og_X11_makeChild rfl ml_RX11_381 11 rfl rfl c44 im_X11_makeChild se_X11_makeChild (Nat.le_of_ble_eq_true rfl) dX11_takeEffect_145
    refine x_goto (tgt := 161) dX11_takeEffect_148 rfl (?_ : Ex _ _ 161 _ _ _ _ _)
    cases h
    exact x_retv dX11_takeEffect_161
  rcases ite_some h with ⟨b48, h⟩ | ⟨b48, h⟩
  · refine y_tableAt (j := 13) (off := 154) (tgt := 161) b48 dX11_takeEffect_7 (by decide) (by decide) rfl rfl (?_ : Ex _ _ 161 _ _ _ _ _)
    cases h
    exact x_retv dX11_takeEffect_161
  rcases ite_some h with ⟨b49, h⟩ | ⟨b49, h⟩
  · refine y_tableAt (j := 14) (off := 144) (tgt := 151) b49 dX11_takeEffect_7 (by decide) (by decide) rfl rfl (?_ : Ex _ _ 151 _ _ _ _ _)
    refine x_aload_n dX11_takeEffect_151 rfl rfl (Or.inr (by decide)) (?_ : Ex _ _ 152 _ _ _ _ _)
    refine x_iload_n dX11_takeEffect_152 rfl rfl (?_ : Ex _ _ 153 _ _ _ _ _)
    refine x_iload dX11_takeEffect_153 rfl (?_ : Ex _ _ 155 _ _ _ _ _)
    obtain ⟨v50, m51, g52, h⟩ := cal_some h
    refine cV2 (e_X10_tell (d + 3) g52) (contV (?_ : Ex _ _ 158 _ _ _ _ _)) og_X10_tell rfl ml_RX11_385 10 rfl rfl c1 im_X10_tell se_X10_tell (Nat.le_of_ble_eq_true rfl) dX11_takeEffect_155
    refine x_goto (tgt := 161) dX11_takeEffect_158 rfl (?_ : Ex _ _ 161 _ _ _ _ _)
    cases h
    exact x_retv dX11_takeEffect_161
  rcases ite_some h with ⟨b53, h⟩ | ⟨b53, h⟩
  · refine y_tableAt (j := 15) (off := 45) (tgt := 52) b53 dX11_takeEffect_7 (by decide) (by decide) rfl rfl (?_ : Ex _ _ 52 _ _ _ _ _)
    refine x_aload dX11_takeEffect_52 rfl (Or.inr (by decide)) (?_ : Ex _ _ 54 _ _ _ _ _)
    obtain ⟨i54, hi54, h⟩ := vl_some h
    obtain ⟨⟨c55, c56⟩, h⟩ := chk_some h
    obtain ⟨m57, hm57, h⟩ := st_some h
    refine nw_0 c55 c56 cl_RX11_203 dX11_takeEffect_54 (?_ : Ex _ _ 57 _ _ _ _ _)
    rw [← hm57]
    refine x_dup (by decide : (10 : Int) ≠ 2) dX11_takeEffect_57 (?_ : Ex _ _ 58 _ _ _ _ _)
    refine x_aload_n dX11_takeEffect_58 rfl rfl (Or.inr (by decide)) (?_ : Ex _ _ 59 _ _ _ _ _)
    refine x_iload dX11_takeEffect_59 rfl (?_ : Ex _ _ 61 _ _ _ _ _)
    refine x_aload_n dX11_takeEffect_61 rfl rfl (Or.inr (by decide)) (?_ : Ex _ _ 62 _ _ _ _ _)
    obtain ⟨c58, h⟩ := chk_some h
    refine gt_11_6 c58 fl_RX11_360 dX11_takeEffect_62 (?_ : Ex _ _ 65 _ _ _ _ _)
    refine x_aload_n dX11_takeEffect_65 rfl rfl (Or.inr (by decide)) (?_ : Ex _ _ 66 _ _ _ _ _)
    refine gt_11_7 c58 fl_RX11_211 dX11_takeEffect_66 (?_ : Ex _ _ 69 _ _ _ _ _)
    obtain ⟨v59, m60, g61, h⟩ := cal_some h
    refine cI4 (e_X0_init (d + 3) g61) (contV (?_ : Ex _ _ 72 _ _ _ _ _)) og_X0_init rfl ml_RX11_363 rfl rfl (by decide) c55 im_X0_init (Nat.le_of_ble_eq_true rfl) dX11_takeEffect_69
    obtain ⟨c62, h⟩ := chk_some h
    obtain ⟨v63, m64, g65, h⟩ := cal_some h
    refine cV1 (e_X7_addActivity (d + 3) g65) (contV (?_ : Ex _ _ 75 _ _ _ _ _)) og_X7_addActivity rfl ml_RX11_365 7 rfl rfl c62 im_X7_addActivity se_X7_addActivity (Nat.le_of_ble_eq_true rfl) dX11_takeEffect_72
    refine x_aload_n dX11_takeEffect_75 rfl rfl (Or.inr (by decide)) (?_ : Ex _ _ 76 _ _ _ _ _)
    refine x_dup (by decide : (21 : Int) ≠ 2) dX11_takeEffect_76 (?_ : Ex _ _ 77 _ _ _ _ _)
    refine gt_11_6 c58 fl_RX11_360 dX11_takeEffect_77 (?_ : Ex _ _ 80 _ _ _ _ _)
    refine x_iconst dX11_takeEffect_80 rfl (by decide) (?_ : Ex _ _ 81 _ _ _ _ _)
    obtain ⟨c66, h⟩ := chk_some h
    refine x_iadd dX11_takeEffect_81 c66 (?_ : Ex _ _ 82 _ _ _ _ _)
    obtain ⟨m67, hm67, h⟩ := st_some h
    refine pt_11_6  c58 fl_RX11_360 dX11_takeEffect_82 (?_ : Ex _ _ 85 _ _ _ _ _)
    rw [← hm67]
    refine x_goto (tgt := 161) dX11_takeEffect_85 rfl (?_ : Ex _ _ 161 _ _ _ _ _)
    cases h
    exact x_retv dX11_takeEffect_161
  refine x_tableOut (tgt := 161) dX11_takeEffect_7 (by omega) rfl (?_ : Ex _ _ 161 _ _ _ _ _)
  cases h
  exact x_retv dX11_takeEffect_161
theorem e_X11_takeEffect (d : Nat) {a0 a1 a2 a3 a4 : Int} {m : Mem} {v : Int} {m' : Mem} (h : X11_takeEffect a0 a1 a2 a3 a4 m = some (v, m')) : ExM (d + 4) fm_X11_takeEffect [(21, a0), (20, a1), (0, a2), (0, a3), (0, a4)] m (.inl (3, 0)) m' := by
  exact ExM.of (by decide +kernel) (Nat.le_of_ble_eq_true rfl) (cat9 rfl) retV (e_X11_takeEffect_0 d h)
theorem dX11_putDown_0 : decode cX11_putDown 0 = .ok (.aload_n 1, 1) := by decide +kernel
theorem dX11_putDown_1 : decode cX11_putDown 1 = .ok (.getfield 120, 3) := by decide +kernel
theorem dX11_putDown_4 : decode cX11_putDown 4 = .ok (.astore_n 3, 1) := by decide +kernel
theorem dX11_putDown_5 : decode cX11_putDown 5 = .ok (.aload_n 0, 1) := by decide +kernel
theorem dX11_putDown_6 : decode cX11_putDown 6 = .ok (.getfield 36, 3) := by decide +kernel
theorem dX11_putDown_9 : decode cX11_putDown 9 = .ok (.getfield 165, 3) := by decide +kernel
theorem dX11_putDown_12 : decode cX11_putDown 12 = .ok (.astore 4, 2) := by decide +kernel
theorem dX11_putDown_14 : decode cX11_putDown 14 = .ok (.aload_n 3, 1) := by decide +kernel
theorem dX11_putDown_15 : decode cX11_putDown 15 = .ok (.getfield 144, 3) := by decide +kernel
theorem dX11_putDown_18 : decode cX11_putDown 18 = .ok (.getfield 268, 3) := by decide +kernel
theorem dX11_putDown_21 : decode cX11_putDown 21 = .ok (.iconst 1, 1) := by decide +kernel
theorem dX11_putDown_22 : decode cX11_putDown 22 = .ok (.iadd, 1) := by decide +kernel
theorem dX11_putDown_23 : decode cX11_putDown 23 = .ok (.aload 4, 2) := by decide +kernel
theorem dX11_putDown_25 : decode cX11_putDown 25 = .ok (.getfield 169, 3) := by decide +kernel
theorem dX11_putDown_28 : decode cX11_putDown 28 = .ok (.iadd, 1) := by decide +kernel
theorem dX11_putDown_29 : decode cX11_putDown 29 = .ok (.istore 5, 2) := by decide +kernel
theorem dX11_putDown_31 : decode cX11_putDown 31 = .ok (.iload 5, 2) := by decide +kernel
theorem dX11_putDown_33 : decode cX11_putDown 33 = .ok (.aload_n 0, 1) := by decide +kernel
theorem dX11_putDown_34 : decode cX11_putDown 34 = .ok (.getfield 36, 3) := by decide +kernel
theorem dX11_putDown_37 : decode cX11_putDown 37 = .ok (.invokevirtual 340, 3) := by decide +kernel
theorem dX11_putDown_40 : decode cX11_putDown 40 = .ok (.ifCond .eq 8, 3) := by decide +kernel
theorem dX11_putDown_43 : decode cX11_putDown 43 = .ok (.bipush 80, 2) := by decide +kernel
theorem dX11_putDown_45 : decode cX11_putDown 45 = .ok (.goto 5, 3) := by decide +kernel
theorem dX11_putDown_48 : decode cX11_putDown 48 = .ok (.bipush 77, 2) := by decide +kernel
theorem dX11_putDown_50 : decode cX11_putDown 50 = .ok (.if_icmp .le 11, 3) := by decide +kernel
theorem dX11_putDown_53 : decode cX11_putDown 53 = .ok (.aload 4, 2) := by decide +kernel
theorem dX11_putDown_55 : decode cX11_putDown 55 = .ok (.invokevirtual 343, 3) := by decide +kernel
theorem dX11_putDown_58 : decode cX11_putDown 58 = .ok (.goto 25, 3) := by decide +kernel
theorem dX11_putDown_61 : decode cX11_putDown 61 = .ok (.aload_n 3, 1) := by decide +kernel
theorem dX11_putDown_62 : decode cX11_putDown 62 = .ok (.aload_n 0, 1) := by decide +kernel
theorem dX11_putDown_63 : decode cX11_putDown 63 = .ok (.getfield 36, 3) := by decide +kernel
theorem dX11_putDown_66 : decode cX11_putDown 66 = .ok (.getfield 298, 3) := by decide +kernel
theorem dX11_putDown_69 : decode cX11_putDown 69 = .ok (.putfield 292, 3) := by decide +kernel
theorem dX11_putDown_72 : decode cX11_putDown 72 = .ok (.aload_n 3, 1) := by decide +kernel
theorem dX11_putDown_73 : decode cX11_putDown 73 = .ok (.aload_n 0, 1) := by decide +kernel
theorem dX11_putDown_74 : decode cX11_putDown 74 = .ok (.getfield 36, 3) := by decide +kernel
theorem dX11_putDown_77 : decode cX11_putDown 77 = .ok (.invokevirtual 346, 3) := by decide +kernel
theorem dX11_putDown_80 : decode cX11_putDown 80 = .ok (.putfield 295, 3) := by decide +kernel
theorem dX11_putDown_83 : decode cX11_putDown 83 = .ok (.aload_n 3, 1) := by decide +kernel
theorem dX11_putDown_84 : decode cX11_putDown 84 = .ok (.getfield 144, 3) := by decide +kernel
theorem dX11_putDown_87 : decode cX11_putDown 87 = .ok (.bipush 7, 2) := by decide +kernel
theorem dX11_putDown_89 : decode cX11_putDown 89 = .ok (.iload_n 2, 1) := by decide +kernel
theorem dX11_putDown_90 : decode cX11_putDown 90 = .ok (.iconst 0, 1) := by decide +kernel
theorem dX11_putDown_91 : decode cX11_putDown 91 = .ok (.invokevirtual 350, 3) := by decide +kernel
theorem dX11_putDown_94 : decode cX11_putDown 94 = .ok (.iconst 0, 1) := by decide +kernel
theorem dX11_putDown_95 : decode cX11_putDown 95 = .ok (.istore 6, 2) := by decide +kernel
theorem dX11_putDown_97 : decode cX11_putDown 97 = .ok (.iload 6, 2) := by decide +kernel
theorem dX11_putDown_99 : decode cX11_putDown 99 = .ok (.aload 4, 2) := by decide +kernel
theorem dX11_putDown_101 : decode cX11_putDown 101 = .ok (.getfield 169, 3) := by decide +kernel
theorem dX11_putDown_104 : decode cX11_putDown 104 = .ok (.if_icmp .ge 76, 3) := by decide +kernel
theorem dX11_putDown_107 : decode cX11_putDown 107 = .ok (.iload 6, 2) := by decide +kernel
theorem dX11_putDown_109 : decode cX11_putDown 109 = .ok (.bipush 80, 2) := by decide +kernel
theorem dX11_putDown_111 : decode cX11_putDown 111 = .ok (.if_icmp .ge 69, 3) := by decide +kernel
theorem dX11_putDown_114 : decode cX11_putDown 114 = .ok (.aload_n 3, 1) := by decide +kernel
theorem dX11_putDown_115 : decode cX11_putDown 115 = .ok (.getfield 144, 3) := by decide +kernel
theorem dX11_putDown_118 : decode cX11_putDown 118 = .ok (.aload 4, 2) := by decide +kernel
theorem dX11_putDown_120 : decode cX11_putDown 120 = .ok (.getfield 353, 3) := by decide +kernel
theorem dX11_putDown_123 : decode cX11_putDown 123 = .ok (.iload 6, 2) := by decide +kernel
theorem dX11_putDown_125 : decode cX11_putDown 125 = .ok (.iaload, 1) := by decide +kernel
theorem dX11_putDown_126 : decode cX11_putDown 126 = .ok (.aload 4, 2) := by decide +kernel
theorem dX11_putDown_128 : decode cX11_putDown 128 = .ok (.getfield 354, 3) := by decide +kernel
theorem dX11_putDown_131 : decode cX11_putDown 131 = .ok (.iload 6, 2) := by decide +kernel
theorem dX11_putDown_133 : decode cX11_putDown 133 = .ok (.iaload, 1) := by decide +kernel
theorem dX11_putDown_134 : decode cX11_putDown 134 = .ok (.aload 4, 2) := by decide +kernel
theorem dX11_putDown_136 : decode cX11_putDown 136 = .ok (.getfield 355, 3) := by decide +kernel
theorem dX11_putDown_139 : decode cX11_putDown 139 = .ok (.iload 6, 2) := by decide +kernel
theorem dX11_putDown_141 : decode cX11_putDown 141 = .ok (.iaload, 1) := by decide +kernel
theorem dX11_putDown_142 : decode cX11_putDown 142 = .ok (.invokevirtual 350, 3) := by decide +kernel
theorem dX11_putDown_145 : decode cX11_putDown 145 = .ok (.aload_n 0, 1) := by decide +kernel
theorem dX11_putDown_146 : decode cX11_putDown 146 = .ok (.aload_n 1, 1) := by decide +kernel
theorem dX11_putDown_147 : decode cX11_putDown 147 = .ok (.aload 4, 2) := by decide +kernel
theorem dX11_putDown_149 : decode cX11_putDown 149 = .ok (.getfield 353, 3) := by decide +kernel
theorem dX11_putDown_152 : decode cX11_putDown 152 = .ok (.iload 6, 2) := by decide +kernel
theorem dX11_putDown_154 : decode cX11_putDown 154 = .ok (.iaload, 1) := by decide +kernel
theorem dX11_putDown_155 : decode cX11_putDown 155 = .ok (.aload 4, 2) := by decide +kernel
theorem dX11_putDown_157 : decode cX11_putDown 157 = .ok (.getfield 354, 3) := by decide +kernel
theorem dX11_putDown_160 : decode cX11_putDown 160 = .ok (.iload 6, 2) := by decide +kernel
theorem dX11_putDown_162 : decode cX11_putDown 162 = .ok (.iaload, 1) := by decide +kernel
theorem dX11_putDown_163 : decode cX11_putDown 163 = .ok (.aload 4, 2) := by decide +kernel
theorem dX11_putDown_165 : decode cX11_putDown 165 = .ok (.getfield 355, 3) := by decide +kernel
theorem dX11_putDown_168 : decode cX11_putDown 168 = .ok (.iload 6, 2) := by decide +kernel
theorem dX11_putDown_170 : decode cX11_putDown 170 = .ok (.iaload, 1) := by decide +kernel
theorem dX11_putDown_171 : decode cX11_putDown 171 = .ok (.invokevirtual 356, 3) := by decide +kernel
theorem dX11_putDown_174 : decode cX11_putDown 174 = .ok (.iinc 6 1, 3) := by decide +kernel
theorem dX11_putDown_177 : decode cX11_putDown 177 = .ok (.goto (-80), 3) := by decide +kernel
theorem dX11_putDown_180 : decode cX11_putDown 180 = .ok (.return_, 1) := by decide +kernel
theorem e_X11_putDown_97 (d : Nat) : ∀ (n : Nat) {l0 l1 l3 l4 l6 : Int} {m : Mem} {v : Int} {m' : Mem}, X11_putDown_97 n l0 l1 l3 l4 l6 m = some (v, m') → Ex (d + 5) fm_X11_putDown 97 [(21, l0), (20, l1), (3, 0), (17, l3), (11, l4), (3, 0), (0, l6)] [] m (.inl (3, 0)) m' := by
  intro n
  induction n with
  | zero =>
    intro l0 l1 l3 l4 l6 m v m' h
    have h : (none : Option R2) = some _ := h
    cases h
  | succ n ih =>
    intro l0 l1 l3 l4 l6 m v m' h
    rw [X11_putDown_97] at h
    refine x_iload dX11_putDown_97 rfl (?_ : Ex _ _ 99 _ _ _ _ _)
    refine x_aload dX11_putDown_99 rfl (Or.inr (by decide)) (?_ : Ex _ _ 101 _ _ _ _ _)
    obtain ⟨c1, h⟩ := chk_some h
    refine gt_1_3 c1 fl_RX11_169 dX11_putDown_101 (?_ : Ex _ _ 104 _ _ _ _ _)
    rcases ite_some h with ⟨b2, h⟩ | ⟨b2, h⟩
    · refine x_icmp_ge (tgt := 180) dX11_putDown_104 rfl b2 (?_ : Ex _ _ 180 _ _ _ _ _)
      cases h
      exact x_retv dX11_putDown_180
    · refine x_icmp_geN dX11_putDown_104 (by decide) b2 (?_ : Ex _ _ 107 _ _ _ _ _)
      refine x_iload dX11_putDown_107 rfl (?_ : Ex _ _ 109 _ _ _ _ _)
      refine x_bipush dX11_putDown_109 kb_80 (by decide) (?_ : Ex _ _ 111 _ _ _ _ _)
      rcases ite_some h with ⟨b3, h⟩ | ⟨b3, h⟩
      · refine x_icmp_ge (tgt := 180) dX11_putDown_111 rfl b3 (?_ : Ex _ _ 180 _ _ _ _ _)
        cases h
        exact x_retv dX11_putDown_180
      · refine x_icmp_geN dX11_putDown_111 (by decide) b3 (?_ : Ex _ _ 114 _ _ _ _ _)
        refine x_aload_n dX11_putDown_114 rfl rfl (Or.inr (by decide)) (?_ : Ex _ _ 115 _ _ _ _ _)
        obtain ⟨c4, h⟩ := chk_some h
        refine gt_7_0 c4 fl_RX11_144 dX11_putDown_115 (?_ : Ex _ _ 118 _ _ _ _ _)
        refine x_aload dX11_putDown_118 rfl (Or.inr (by decide)) (?_ : Ex _ _ 120 _ _ _ _ _)
        refine gt_1_0 c1 fl_RX11_353 dX11_putDown_120 (?_ : Ex _ _ 123 _ _ _ _ _)
        refine x_iload dX11_putDown_123 rfl (?_ : Ex _ _ 125 _ _ _ _ _)
        obtain ⟨⟨c5, c6, c7⟩, h⟩ := chk_some h
        refine ld_i_80 c5 c6 c7 dX11_putDown_125 (?_ : Ex _ _ 126 _ _ _ _ _)
        refine x_aload dX11_putDown_126 rfl (Or.inr (by decide)) (?_ : Ex _ _ 128 _ _ _ _ _)
        refine gt_1_1 c1 fl_RX11_354 dX11_putDown_128 (?_ : Ex _ _ 131 _ _ _ _ _)
        refine x_iload dX11_putDown_131 rfl (?_ : Ex _ _ 133 _ _ _ _ _)
        obtain ⟨⟨c8, c9, c10⟩, h⟩ := chk_some h
        refine ld_i_80 c8 c9 c10 dX11_putDown_133 (?_ : Ex _ _ 134 _ _ _ _ _)
        refine x_aload dX11_putDown_134 rfl (Or.inr (by decide)) (?_ : Ex _ _ 136 _ _ _ _ _)
        refine gt_1_2 c1 fl_RX11_355 dX11_putDown_136 (?_ : Ex _ _ 139 _ _ _ _ _)
        refine x_iload dX11_putDown_139 rfl (?_ : Ex _ _ 141 _ _ _ _ _)
        obtain ⟨⟨c11, c12, c13⟩, h⟩ := chk_some h
        refine ld_i_80 c11 c12 c13 dX11_putDown_141 (?_ : Ex _ _ 142 _ _ _ _ _)
        obtain ⟨c14, h⟩ := chk_some h
        obtain ⟨v15, m16, g17, h⟩ := cal_some h
        refine cV3 (e_X3_put (d + 4) g17) (contV (?_ : Ex _ _ 145 _ _ _ _ _)) og_X3_put rfl ml_RX11_350 3 rfl rfl c14 im_X3_put se_X3_put (Nat.le_of_ble_eq_true rfl) dX11_putDown_142
        refine x_aload_n dX11_putDown_145 rfl rfl (Or.inr (by decide)) (?_ : Ex _ _ 146 _ _ _ _ _)
        refine x_aload_n dX11_putDown_146 rfl rfl (Or.inr (by decide)) (?_ : Ex _ _ 147 _ _ _ _ _)
        refine x_aload dX11_putDown_147 rfl (Or.inr (by decide)) (?_ : Ex _ _ 149 _ _ _ _ _)
        refine gt_1_0 c1 fl_RX11_353 dX11_putDown_149 (?_ : Ex _ _ 152 _ _ _ _ _)
        refine x_iload dX11_putDown_152 rfl (?_ : Ex _ _ 154 _ _ _ _ _)
        obtain ⟨⟨c18, c19, c20⟩, h⟩ := chk_some h
        refine ld_i_80 c18 c19 c20 dX11_putDown_154 (?_ : Ex _ _ 155 _ _ _ _ _)
        refine x_aload dX11_putDown_155 rfl (Or.inr (by decide)) (?_ : Ex _ _ 157 _ _ _ _ _)
        refine gt_1_1 c1 fl_RX11_354 dX11_putDown_157 (?_ : Ex _ _ 160 _ _ _ _ _)
        refine x_iload dX11_putDown_160 rfl (?_ : Ex _ _ 162 _ _ _ _ _)
        obtain ⟨⟨c21, c22, c23⟩, h⟩ := chk_some h
        refine ld_i_80 c21 c22 c23 dX11_putDown_162 (?_ : Ex _ _ 163 _ _ _ _ _)
        refine x_aload dX11_putDown_163 rfl (Or.inr (by decide)) (?_ : Ex _ _ 165 _ _ _ _ _)
        refine gt_1_2 c1 fl_RX11_355 dX11_putDown_165 (?_ : Ex _ _ 168 _ _ _ _ _)
        refine x_iload dX11_putDown_168 rfl (?_ : Ex _ _ 170 _ _ _ _ _)
        obtain ⟨⟨c24, c25, c26⟩, h⟩ := chk_some h
        refine ld_i_80 c24 c25 c26 dX11_putDown_170 (?_ : Ex _ _ 171 _ _ _ _ _)
        obtain ⟨c27, h⟩ := chk_some h
        obtain ⟨v28, m29, g30, h⟩ := cal_some h
        refine cV4 (e_X11_takeEffect d g30) (contV (?_ : Ex _ _ 174 _ _ _ _ _)) og_X11_takeEffect rfl ml_RX11_356 11 rfl rfl c27 im_X11_takeEffect se_X11_takeEffect (Nat.le_of_ble_eq_true rfl) dX11_putDown_171
        obtain ⟨c31, h⟩ := chk_some h
        refine x_iinc (ls2 := [(21, l0), (20, l1), (3, 0), (17, l3), (11, l4), (3, 0), (0, (l6 + 1))]) dX11_putDown_174 rfl c31 rfl (?_ : Ex _ _ 177 _ _ _ _ _)
        refine x_goto (tgt := 97) dX11_putDown_177 rfl (?_ : Ex _ _ 97 _ _ _ _ _)
        exact ih h
theorem e_X11_putDown_83 (d : Nat) {l0 l1 l2 l3 l4 : Int} {m : Mem} {v : Int} {m' : Mem} (h : X11_putDown_83 l0 l1 l2 l3 l4 m = some (v, m')) : Ex (d + 5) fm_X11_putDown 83 [(21, l0), (20, l1), (0, l2), (17, l3), (11, l4), (3, 0), (3, 0)] [] m (.inl (3, 0)) m' := by
  unfold X11_putDown_83 at h
  refine x_aload_n dX11_putDown_83 rfl rfl (Or.inr (by decide)) (?_ : Ex _ _ 84 _ _ _ _ _)
  obtain ⟨c1, h⟩ := chk_some h
  refine gt_7_0 c1 fl_RX11_144 dX11_putDown_84 (?_ : Ex _ _ 87 _ _ _ _ _)
  refine x_bipush dX11_putDown_87 kb_7 (by decide) (?_ : Ex _ _ 89 _ _ _ _ _)
  refine x_iload_n dX11_putDown_89 rfl rfl (?_ : Ex _ _ 90 _ _ _ _ _)
  refine x_iconst dX11_putDown_90 rfl (by decide) (?_ : Ex _ _ 91 _ _ _ _ _)
  obtain ⟨c2, h⟩ := chk_some h
  obtain ⟨v3, m4, g5, h⟩ := cal_some h
  refine cV3 (e_X3_put (d + 4) g5) (contV (?_ : Ex _ _ 94 _ _ _ _ _)) og_X3_put rfl ml_RX11_350 3 rfl rfl c2 im_X3_put se_X3_put (Nat.le_of_ble_eq_true rfl) dX11_putDown_91
  refine x_iconst dX11_putDown_94 rfl (by decide) (?_ : Ex _ _ 95 _ _ _ _ _)
  refine x_istore (ls2 := [(21, l0), (20, l1), (0, l2), (17, l3), (11, l4), (3, 0), (0, 0)]) dX11_putDown_95 (Nat.le_of_ble_eq_true rfl) rfl (?_ : Ex _ _ 97 _ _ _ _ _)
  refine Ex.wk (ls2 := [(21, l0), (20, l1), (3, 0), (17, l3), (11, l4), (3, 0), (0, 0)]) ⟨Or.inr rfl, Or.inr rfl, Or.inl rfl, Or.inr rfl, Or.inr rfl, Or.inl rfl, Or.inr rfl, trivial⟩ ?_
  exact e_X11_putDown_97 d fuel9 h
theorem e_X11_putDown_50 (d : Nat) {l0 l1 l2 l3 l4 s0 s1 : Int} {m : Mem} {v : Int} {m' : Mem} (h : X11_putDown_50 l0 l1 l2 l3 l4 s0 s1 m = some (v, m')) : Ex (d + 5) fm_X11_putDown 50 [(21, l0), (20, l1), (0, l2), (17, l3), (11, l4), (3, 0), (3, 0)] [(0, s0), (0, s1)] m (.inl (3, 0)) m' := by
  unfold X11_putDown_50 at h
  rcases ite_some h with ⟨b1, h⟩ | ⟨b1, h⟩
  · refine x_icmp_le (tgt := 61) dX11_putDown_50 rfl b1 (?_ : Ex _ _ 61 _ _ _ _ _)
    refine x_aload_n dX11_putDown_61 rfl rfl (Or.inr (by decide)) (?_ : Ex _ _ 62 _ _ _ _ _)
    refine x_aload_n dX11_putDown_62 rfl rfl (Or.inr (by decide)) (?_ : Ex _ _ 63 _ _ _ _ _)
    obtain ⟨c2, h⟩ := chk_some h
    refine gt_11_4 c2 fl_RX11_36 dX11_putDown_63 (?_ : Ex _ _ 66 _ _ _ _ _)
    obtain ⟨c3, h⟩ := chk_some h
    refine gt_4_2 c3 fl_RX11_298 dX11_putDown_66 (?_ : Ex _ _ 69 _ _ _ _ _)
    obtain ⟨c4, h⟩ := chk_some h
    obtain ⟨m5, hm5, h⟩ := st_some h
    refine pt_7_8  c4 fl_RX11_292 dX11_putDown_69 (?_ : Ex _ _ 72 _ _ _ _ _)
    rw [← hm5]
    refine x_aload_n dX11_putDown_72 rfl rfl (Or.inr (by decide)) (?_ : Ex _ _ 73 _ _ _ _ _)
    refine x_aload_n dX11_putDown_73 rfl rfl (Or.inr (by decide)) (?_ : Ex _ _ 74 _ _ _ _ _)
    refine gt_11_4 c2 fl_RX11_36 dX11_putDown_74 (?_ : Ex _ _ 77 _ _ _ _ _)
    obtain ⟨c6, h⟩ := chk_some h
    obtain ⟨v7, m8, g9, h⟩ := cal_some h
    refine cV0 (e_X4_waitingPlace (d + 4) g9) (contN (by decide) (?_ : Ex _ _ 80 _ _ _ _ _)) og_X4_waitingPlace rfl ml_RX11_346 4 rfl rfl c6 im_X4_waitingPlace se_X4_waitingPlace (Nat.le_of_ble_eq_true rfl) dX11_putDown_77
    obtain ⟨m10, hm10, h⟩ := st_some h
    refine pt_7_9  c4 fl_RX11_295 dX11_putDown_80 (?_ : Ex _ _ 83 _ _ _ _ _)
    rw [← hm10]
    exact e_X11_putDown_83 d h
  · refine x_icmp_leN dX11_putDown_50 (by decide) b1 (?_ : Ex _ _ 53 _ _ _ _ _)
    refine x_aload dX11_putDown_53 rfl (Or.inr (by decide)) (?_ : Ex _ _ 55 _ _ _ _ _)
    obtain ⟨c11, h⟩ := chk_some h
    obtain ⟨v12, m13, g14, h⟩ := cal_some h
    refine cV0 (e_X1_failTooLong (d + 3) g14) (contV (?_ : Ex _ _ 58 _ _ _ _ _)) og_X1_failTooLong rfl ml_RX11_343 1 rfl rfl c11 im_X1_failTooLong se_X1_failTooLong (Nat.le_of_ble_eq_true rfl) dX11_putDown_55
    refine x_goto (tgt := 83) dX11_putDown_58 rfl (?_ : Ex _ _ 83 _ _ _ _ _)
    exact e_X11_putDown_83 d h
theorem e_X11_putDown_0 (d : Nat) {l0 l1 l2 : Int} {m : Mem} {v : Int} {m' : Mem} (h : X11_putDown_0 l0 l1 l2 m = some (v, m')) : Ex (d + 5) fm_X11_putDown 0 [(21, l0), (20, l1), (0, l2), (3, 0), (3, 0), (3, 0), (3, 0)] [] m (.inl (3, 0)) m' := by
  unfold X11_putDown_0 at h
  refine x_aload_n dX11_putDown_0 rfl rfl (Or.inr (by decide)) (?_ : Ex _ _ 1 _ _ _ _ _)
  obtain ⟨c1, h⟩ := chk_some h
  refine gt_10_6 c1 fl_RX11_120 dX11_putDown_1 (?_ : Ex _ _ 4 _ _ _ _ _)
  refine x_astore_n (ls2 := [(21, l0), (20, l1), (0, l2), (17, m l1 6), (3, 0), (3, 0), (3, 0)]) dX11_putDown_4 rfl (Nat.le_of_ble_eq_true rfl) (Or.inr (by decide)) rfl (?_ : Ex _ _ 5 _ _ _ _ _)
  refine x_aload_n dX11_putDown_5 rfl rfl (Or.inr (by decide)) (?_ : Ex _ _ 6 _ _ _ _ _)
  obtain ⟨c2, h⟩ := chk_some h
  refine gt_11_4 c2 fl_RX11_36 dX11_putDown_6 (?_ : Ex _ _ 9 _ _ _ _ _)
  obtain ⟨c3, h⟩ := chk_some h
  refine gt_4_0 c3 fl_RX11_165 dX11_putDown_9 (?_ : Ex _ _ 12 _ _ _ _ _)
  refine x_astore (ls2 := [(21, l0), (20, l1), (0, l2), (17, m l1 6), (11, m (m l0 4) 0), (3, 0), (3, 0)]) dX11_putDown_12 (Nat.le_of_ble_eq_true rfl) (Or.inr (by decide)) rfl (?_ : Ex _ _ 14 _ _ _ _ _)
  refine x_aload_n dX11_putDown_14 rfl rfl (Or.inr (by decide)) (?_ : Ex _ _ 15 _ _ _ _ _)
  obtain ⟨c4, h⟩ := chk_some h
  refine gt_7_0 c4 fl_RX11_144 dX11_putDown_15 (?_ : Ex _ _ 18 _ _ _ _ _)
  obtain ⟨c5, h⟩ := chk_some h
  refine gt_3_3 c5 fl_RX11_268 dX11_putDown_18 (?_ : Ex _ _ 21 _ _ _ _ _)
  refine x_iconst dX11_putDown_21 rfl (by decide) (?_ : Ex _ _ 22 _ _ _ _ _)
  obtain ⟨c6, h⟩ := chk_some h
  refine x_iadd dX11_putDown_22 c6 (?_ : Ex _ _ 23 _ _ _ _ _)
  refine x_aload dX11_putDown_23 rfl (Or.inr (by decide)) (?_ : Ex _ _ 25 _ _ _ _ _)
  obtain ⟨c7, h⟩ := chk_some h
  refine gt_1_3 c7 fl_RX11_169 dX11_putDown_25 (?_ : Ex _ _ 28 _ _ _ _ _)
  obtain ⟨c8, h⟩ := chk_some h
  refine x_iadd dX11_putDown_28 c8 (?_ : Ex _ _ 29 _ _ _ _ _)
  refine x_istore (ls2 := [(21, l0), (20, l1), (0, l2), (17, m l1 6), (11, m (m l0 4) 0), (0, ((m (m (m l1 6) 0) 3 + 1) + m (m (m l0 4) 0) 3)), (3, 0)]) dX11_putDown_29 (Nat.le_of_ble_eq_true rfl) rfl (?_ : Ex _ _ 31 _ _ _ _ _)
  refine x_iload dX11_putDown_31 rfl (?_ : Ex _ _ 33 _ _ _ _ _)
  refine x_aload_n dX11_putDown_33 rfl rfl (Or.inr (by decide)) (?_ : Ex _ _ 34 _ _ _ _ _)
  refine gt_11_4 c2 fl_RX11_36 dX11_putDown_34 (?_ : Ex _ _ 37 _ _ _ _ _)
  obtain ⟨v9, m10, g11, h⟩ := cal_some h
  refine cV0 (e_X4_isOver (d + 4) g11) (contN (by decide) (?_ : Ex _ _ 40 _ _ _ _ _)) og_X4_isOver rfl ml_RX11_340 4 rfl rfl c3 im_X4_isOver se_X4_isOver (Nat.le_of_ble_eq_true rfl) dX11_putDown_37
  rcases ite_some h with ⟨b12, h⟩ | ⟨b12, h⟩
  · refine x_if_eq (tgt := 48) dX11_putDown_40 rfl b12 (?_ : Ex _ _ 48 _ _ _ _ _)
    refine x_bipush dX11_putDown_48 kb_77 (by decide) (?_ : Ex _ _ 50 _ _ _ _ _)
    refine Ex.wk (ls2 := [(21, l0), (20, l1), (0, l2), (17, m l1 6), (11, m (m l0 4) 0), (3, 0), (3, 0)]) ⟨Or.inr rfl, Or.inr rfl, Or.inr rfl, Or.inr rfl, Or.inr rfl, Or.inl rfl, Or.inl rfl, trivial⟩ ?_
    exact e_X11_putDown_50 d h
  · refine x_if_eqN dX11_putDown_40 (by decide) b12 (?_ : Ex _ _ 43 _ _ _ _ _)
    refine x_bipush dX11_putDown_43 kb_80 (by decide) (?_ : Ex _ _ 45 _ _ _ _ _)
    refine x_goto (tgt := 50) dX11_putDown_45 rfl (?_ : Ex _ _ 50 _ _ _ _ _)
    refine Ex.wk (ls2 := [(21, l0), (20, l1), (0, l2), (17, m l1 6), (11, m (m l0 4) 0), (3, 0), (3, 0)]) ⟨Or.inr rfl, Or.inr rfl, Or.inr rfl, Or.inr rfl, Or.inr rfl, Or.inl rfl, Or.inl rfl, trivial⟩ ?_
    exact e_X11_putDown_50 d h
theorem e_X11_putDown (d : Nat) {a0 a1 a2 : Int} {m : Mem} {v : Int} {m' : Mem} (h : X11_putDown a0 a1 a2 m = some (v, m')) : ExM (d + 5) fm_X11_putDown [(21, a0), (20, a1), (0, a2)] m (.inl (3, 0)) m' := by
  exact ExM.of (by decide +kernel) (Nat.le_of_ble_eq_true rfl) (cat9 rfl) retV (e_X11_putDown_0 d h)
theorem dX11_letGo_0 : decode cX11_letGo 0 = .ok (.aload_n 1, 1) := by decide +kernel
theorem dX11_letGo_1 : decode cX11_letGo 1 = .ok (.getfield 120, 3) := by decide +kernel
theorem dX11_letGo_4 : decode cX11_letGo 4 = .ok (.astore_n 3, 1) := by decide +kernel
theorem dX11_letGo_5 : decode cX11_letGo 5 = .ok (.iconst 0, 1) := by decide +kernel
theorem dX11_letGo_6 : decode cX11_letGo 6 = .ok (.istore 4, 2) := by decide +kernel
theorem dX11_letGo_8 : decode cX11_letGo 8 = .ok (.iload 4, 2) := by decide +kernel
theorem dX11_letGo_10 : decode cX11_letGo 10 = .ok (.aload_n 3, 1) := by decide +kernel
theorem dX11_letGo_11 : decode cX11_letGo 11 = .ok (.getfield 368, 3) := by decide +kernel
theorem dX11_letGo_14 : decode cX11_letGo 14 = .ok (.if_icmp .ge 20, 3) := by decide +kernel
theorem dX11_letGo_17 : decode cX11_letGo 17 = .ok (.aload_n 0, 1) := by decide +kernel
theorem dX11_letGo_18 : decode cX11_letGo 18 = .ok (.aload_n 3, 1) := by decide +kernel
theorem dX11_letGo_19 : decode cX11_letGo 19 = .ok (.getfield 371, 3) := by decide +kernel
theorem dX11_letGo_22 : decode cX11_letGo 22 = .ok (.iload 4, 2) := by decide +kernel
theorem dX11_letGo_24 : decode cX11_letGo 24 = .ok (.aaload, 1) := by decide +kernel
theorem dX11_letGo_25 : decode cX11_letGo 25 = .ok (.invokevirtual 229, 3) := by decide +kernel
theorem dX11_letGo_28 : decode cX11_letGo 28 = .ok (.iinc 4 1, 3) := by decide +kernel
theorem dX11_letGo_31 : decode cX11_letGo 31 = .ok (.goto (-23), 3) := by decide +kernel
theorem dX11_letGo_34 : decode cX11_letGo 34 = .ok (.iconst 0, 1) := by decide +kernel
theorem dX11_letGo_35 : decode cX11_letGo 35 = .ok (.istore 4, 2) := by decide +kernel
theorem dX11_letGo_37 : decode cX11_letGo 37 = .ok (.iload 4, 2) := by decide +kernel
theorem dX11_letGo_39 : decode cX11_letGo 39 = .ok (.aload_n 3, 1) := by decide +kernel
theorem dX11_letGo_40 : decode cX11_letGo 40 = .ok (.getfield 414, 3) := by decide +kernel
theorem dX11_letGo_43 : decode cX11_letGo 43 = .ok (.if_icmp .ge 15, 3) := by decide +kernel
theorem dX11_letGo_46 : decode cX11_letGo 46 = .ok (.aload_n 3, 1) := by decide +kernel
theorem dX11_letGo_47 : decode cX11_letGo 47 = .ok (.iload 4, 2) := by decide +kernel
theorem dX11_letGo_49 : decode cX11_letGo 49 = .ok (.invokevirtual 378, 3) := by decide +kernel
theorem dX11_letGo_52 : decode cX11_letGo 52 = .ok (.iinc 4 1, 3) := by decide +kernel
theorem dX11_letGo_55 : decode cX11_letGo 55 = .ok (.goto (-18), 3) := by decide +kernel
theorem dX11_letGo_58 : decode cX11_letGo 58 = .ok (.iconst 0, 1) := by decide +kernel
theorem dX11_letGo_59 : decode cX11_letGo 59 = .ok (.istore 4, 2) := by decide +kernel
theorem dX11_letGo_61 : decode cX11_letGo 61 = .ok (.iload 4, 2) := by decide +kernel
theorem dX11_letGo_63 : decode cX11_letGo 63 = .ok (.aload_n 0, 1) := by decide +kernel
theorem dX11_letGo_64 : decode cX11_letGo 64 = .ok (.getfield 99, 3) := by decide +kernel
theorem dX11_letGo_67 : decode cX11_letGo 67 = .ok (.if_icmp .ge 62, 3) := by decide +kernel
theorem dX11_letGo_70 : decode cX11_letGo 70 = .ok (.aload_n 0, 1) := by decide +kernel
theorem dX11_letGo_71 : decode cX11_letGo 71 = .ok (.getfield 17, 3) := by decide +kernel
theorem dX11_letGo_74 : decode cX11_letGo 74 = .ok (.iload 4, 2) := by decide +kernel
theorem dX11_letGo_76 : decode cX11_letGo 76 = .ok (.aaload, 1) := by decide +kernel
theorem dX11_letGo_77 : decode cX11_letGo 77 = .ok (.astore 5, 2) := by decide +kernel
theorem dX11_letGo_79 : decode cX11_letGo 79 = .ok (.aload 5, 2) := by decide +kernel
theorem dX11_letGo_81 : decode cX11_letGo 81 = .ok (.getfield 261, 3) := by decide +kernel
theorem dX11_letGo_84 : decode cX11_letGo 84 = .ok (.aload_n 1, 1) := by decide +kernel
theorem dX11_letGo_85 : decode cX11_letGo 85 = .ok (.getfield 111, 3) := by decide +kernel
theorem dX11_letGo_88 : decode cX11_letGo 88 = .ok (.if_icmp .ne 35, 3) := by decide +kernel
theorem dX11_letGo_91 : decode cX11_letGo 91 = .ok (.aload 5, 2) := by decide +kernel
theorem dX11_letGo_93 : decode cX11_letGo 93 = .ok (.getfield 390, 3) := by decide +kernel
theorem dX11_letGo_96 : decode cX11_letGo 96 = .ok (.aload_n 1, 1) := by decide +kernel
theorem dX11_letGo_97 : decode cX11_letGo 97 = .ok (.getfield 148, 3) := by decide +kernel
theorem dX11_letGo_100 : decode cX11_letGo 100 = .ok (.if_icmp .ne 23, 3) := by decide +kernel
theorem dX11_letGo_103 : decode cX11_letGo 103 = .ok (.aload 5, 2) := by decide +kernel
theorem dX11_letGo_105 : decode cX11_letGo 105 = .ok (.getfield 120, 3) := by decide +kernel
theorem dX11_letGo_108 : decode cX11_letGo 108 = .ok (.getfield 136, 3) := by decide +kernel
theorem dX11_letGo_111 : decode cX11_letGo 111 = .ok (.bipush 20, 2) := by decide +kernel
theorem dX11_letGo_113 : decode cX11_letGo 113 = .ok (.if_icmp .ne 10, 3) := by decide +kernel
theorem dX11_letGo_116 : decode cX11_letGo 116 = .ok (.aload_n 0, 1) := by decide +kernel
theorem dX11_letGo_117 : decode cX11_letGo 117 = .ok (.aload 5, 2) := by decide +kernel
theorem dX11_letGo_119 : decode cX11_letGo 119 = .ok (.iload_n 2, 1) := by decide +kernel
theorem dX11_letGo_120 : decode cX11_letGo 120 = .ok (.invokevirtual 417, 3) := by decide +kernel
theorem dX11_letGo_123 : decode cX11_letGo 123 = .ok (.iinc 4 1, 3) := by decide +kernel
theorem dX11_letGo_126 : decode cX11_letGo 126 = .ok (.goto (-65), 3) := by decide +kernel
theorem dX11_letGo_129 : decode cX11_letGo 129 = .ok (.return_, 1) := by decide +kernel
theorem e_X11_letGo_61 (d : Nat) {kr : Int → Int → Int → Mem → Option R2} (hkr : ∀ {a b c : Int} {m : Mem} {v : Int} {m' : Mem}, kr a b c m = some (v, m') → ExM (d + 3) fm_X11_letGo [(21, a), (20, b), (0, c)] m (.inl (3, 0)) m') : ∀ (n : Nat) {l0 l1 l2 l4 : Int} {m : Mem} {v : Int} {m' : Mem}, X11_letGo_61 kr n l0 l1 l2 l4 m = some (v, m') → Ex (d + 5) fm_X11_letGo 61 [(21, l0), (20, l1), (0, l2), (3, 0), (0, l4), (3, 0)] [] m (.inl (3, 0)) m' := by
  intro n
  induction n with
  | zero =>
    intro l0 l1 l2 l4 m v m' h
    have h : (none : Option R2) = some _ := h
    cases h
  | succ n ih =>
    intro l0 l1 l2 l4 m v m' h
    rw [X11_letGo_61] at h
    refine x_iload dX11_letGo_61 rfl (?_ : Ex _ _ 63 _ _ _ _ _)
    refine x_aload_n dX11_letGo_63 rfl rfl (Or.inr (by decide)) (?_ : Ex _ _ 64 _ _ _ _ _)
    obtain ⟨c1, h⟩ := chk_some h
    refine gt_11_5 c1 fl_RX11_99 dX11_letGo_64 (?_ : Ex _ _ 67 _ _ _ _ _)
    rcases ite_some h with ⟨b2, h⟩ | ⟨b2, h⟩
    · refine x_icmp_ge (tgt := 129) dX11_letGo_67 rfl b2 (?_ : Ex _ _ 129 _ _ _ _ _)
      cases h
      exact x_retv dX11_letGo_129
    · refine x_icmp_geN dX11_letGo_67 (by decide) b2 (?_ : Ex _ _ 70 _ _ _ _ _)
      refine x_aload_n dX11_letGo_70 rfl rfl (Or.inr (by decide)) (?_ : Ex _ _ 71 _ _ _ _ _)
      refine gt_11_1 c1 fl_RX11_17 dX11_letGo_71 (?_ : Ex _ _ 74 _ _ _ _ _)
      refine x_iload dX11_letGo_74 rfl (?_ : Ex _ _ 76 _ _ _ _ _)
      obtain ⟨⟨c3, c4, c5⟩, h⟩ := chk_some h
      refine ad_10_10 c3 c4 c5 dX11_letGo_76 (?_ : Ex _ _ 77 _ _ _ _ _)
      refine x_astore (ls2 := [(21, l0), (20, l1), (0, l2), (3, 0), (0, l4), (20, m (m l0 1) l4)]) dX11_letGo_77 (Nat.le_of_ble_eq_true rfl) (Or.inr (by decide)) rfl (?_ : Ex _ _ 79 _ _ _ _ _)
      refine x_aload dX11_letGo_79 rfl (Or.inr (by decide)) (?_ : Ex _ _ 81 _ _ _ _ _)
      obtain ⟨c6, h⟩ := chk_some h
      refine gt_10_7 c6 fl_RX11_261 dX11_letGo_81 (?_ : Ex _ _ 84 _ _ _ _ _)
      refine x_aload_n dX11_letGo_84 rfl rfl (Or.inr (by decide)) (?_ : Ex _ _ 85 _ _ _ _ _)
      obtain ⟨c7, h⟩ := chk_some h
      refine gt_10_0 c7 fl_RX11_111 dX11_letGo_85 (?_ : Ex _ _ 88 _ _ _ _ _)
      rcases ite_some h with ⟨b8, h⟩ | ⟨b8, h⟩
      · refine x_icmp_neN dX11_letGo_88 (by decide) (fun hh => hh b8) (?_ : Ex _ _ 91 _ _ _ _ _)
        refine x_aload dX11_letGo_91 rfl (Or.inr (by decide)) (?_ : Ex _ _ 93 _ _ _ _ _)
        refine gt_10_8 c6 fl_RX11_390 dX11_letGo_93 (?_ : Ex _ _ 96 _ _ _ _ _)
        refine x_aload_n dX11_letGo_96 rfl rfl (Or.inr (by decide)) (?_ : Ex _ _ 97 _ _ _ _ _)
        refine gt_10_5 c7 fl_RX11_148 dX11_letGo_97 (?_ : Ex _ _ 100 _ _ _ _ _)
        rcases ite_some h with ⟨b10, h⟩ | ⟨b10, h⟩
        · refine x_icmp_neN dX11_letGo_100 (by decide) (fun hh => hh b10) (?_ : Ex _ _ 103 _ _ _ _ _)
          refine x_aload dX11_letGo_103 rfl (Or.inr (by decide)) (?_ : Ex _ _ 105 _ _ _ _ _)
          refine gt_10_6 c6 fl_RX11_120 dX11_letGo_105 (?_ : Ex _ _ 108 _ _ _ _ _)
          obtain ⟨c12, h⟩ := chk_some h
          refine gt_7_7 c12 fl_RX11_136 dX11_letGo_108 (?_ : Ex _ _ 111 _ _ _ _ _)
          refine x_bipush dX11_letGo_111 kb_20 (by decide) (?_ : Ex _ _ 113 _ _ _ _ _)
          rcases ite_some h with ⟨b13, h⟩ | ⟨b13, h⟩
          · refine x_icmp_neN dX11_letGo_113 (by decide) (fun hh => hh b13) (?_ : Ex _ _ 116 _ _ _ _ _)
            refine x_aload_n dX11_letGo_116 rfl rfl (Or.inr (by decide)) (?_ : Ex _ _ 117 _ _ _ _ _)
            refine x_aload dX11_letGo_117 rfl (Or.inr (by decide)) (?_ : Ex _ _ 119 _ _ _ _ _)
            refine x_iload_n dX11_letGo_119 rfl rfl (?_ : Ex _ _ 120 _ _ _ _ _)
            obtain ⟨v15, m16, g17, h⟩ := cal_some h
            refine cV2 (e_X11_leaveChild d hkr g17) (contV (?_ : Ex _ _ 123 _ _ _ _ _)) og_X11_leaveChild rfl ml_RX11_417 11 rfl rfl c1 im_X11_leaveChild se_X11_leaveChild (Nat.le_of_ble_eq_true rfl) dX11_letGo_120
            obtain ⟨c18, h⟩ := chk_some h
            refine x_iinc (ls2 := [(21, l0), (20, l1), (0, l2), (3, 0), (0, (l4 + 1)), (20, m (m l0 1) l4)]) dX11_letGo_123 rfl c18 rfl (?_ : Ex _ _ 126 _ _ _ _ _)
            refine x_goto (tgt := 61) dX11_letGo_126 rfl (?_ : Ex _ _ 61 _ _ _ _ _)
            refine Ex.wk (ls2 := [(21, l0), (20, l1), (0, l2), (3, 0), (0, (l4 + 1)), (3, 0)]) ⟨Or.inr rfl, Or.inr rfl, Or.inr rfl, Or.inl rfl, Or.inr rfl, Or.inl rfl, trivial⟩ ?_
            exact ih h
          · refine x_icmp_ne (tgt := 123) dX11_letGo_113 rfl b13 (?_ : Ex _ _ 123 _ _ _ _ _)
            obtain ⟨c14, h⟩ := chk_some h
            refine x_iinc (ls2 := [(21, l0), (20, l1), (0, l2), (3, 0), (0, (l4 + 1)), (20, m (m l0 1) l4)]) dX11_letGo_123 rfl c14 rfl (?_ : Ex _ _ 126 _ _ _ _ _)
            refine x_goto (tgt := 61) dX11_letGo_126 rfl (?_ : Ex _ _ 61 _ _ _ _ _)
            refine Ex.wk (ls2 := [(21, l0), (20, l1), (0, l2), (3, 0), (0, (l4 + 1)), (3, 0)]) ⟨Or.inr rfl, Or.inr rfl, Or.inr rfl, Or.inl rfl, Or.inr rfl, Or.inl rfl, trivial⟩ ?_
            exact ih h
        · refine x_icmp_ne (tgt := 123) dX11_letGo_100 rfl b10 (?_ : Ex _ _ 123 _ _ _ _ _)
          obtain ⟨c11, h⟩ := chk_some h
          refine x_iinc (ls2 := [(21, l0), (20, l1), (0, l2), (3, 0), (0, (l4 + 1)), (20, m (m l0 1) l4)]) dX11_letGo_123 rfl c11 rfl (?_ : Ex _ _ 126 _ _ _ _ _)
          refine x_goto (tgt := 61) dX11_letGo_126 rfl (?_ : Ex _ _ 61 _ _ _ _ _)
          refine Ex.wk (ls2 := [(21, l0), (20, l1), (0, l2), (3, 0), (0, (l4 + 1)), (3, 0)]) ⟨Or.inr rfl, Or.inr rfl, Or.inr rfl, Or.inl rfl, Or.inr rfl, Or.inl rfl, trivial⟩ ?_
          exact ih h
      · refine x_icmp_ne (tgt := 123) dX11_letGo_88 rfl b8 (?_ : Ex _ _ 123 _ _ _ _ _)
        obtain ⟨c9, h⟩ := chk_some h
        refine x_iinc (ls2 := [(21, l0), (20, l1), (0, l2), (3, 0), (0, (l4 + 1)), (20, m (m l0 1) l4)]) dX11_letGo_123 rfl c9 rfl (?_ : Ex _ _ 126 _ _ _ _ _)
        refine x_goto (tgt := 61) dX11_letGo_126 rfl (?_ : Ex _ _ 61 _ _ _ _ _)
        refine Ex.wk (ls2 := [(21, l0), (20, l1), (0, l2), (3, 0), (0, (l4 + 1)), (3, 0)]) ⟨Or.inr rfl, Or.inr rfl, Or.inr rfl, Or.inl rfl, Or.inr rfl, Or.inl rfl, trivial⟩ ?_
        exact ih h
theorem e_X11_letGo_37 (d : Nat) {kr : Int → Int → Int → Mem → Option R2} (hkr : ∀ {a b c : Int} {m : Mem} {v : Int} {m' : Mem}, kr a b c m = some (v, m') → ExM (d + 3) fm_X11_letGo [(21, a), (20, b), (0, c)] m (.inl (3, 0)) m') {k61 : Int → Int → Int → Int → Mem → Option R2} (hk61 : ∀ {l0 l1 l2 l4 : Int} {m : Mem} {v : Int} {m' : Mem}, k61 l0 l1 l2 l4 m = some (v, m') → Ex (d + 5) fm_X11_letGo 61 [(21, l0), (20, l1), (0, l2), (3, 0), (0, l4), (3, 0)] [] m (.inl (3, 0)) m') : ∀ (n : Nat) {l0 l1 l2 l3 l4 : Int} {m : Mem} {v : Int} {m' : Mem}, X11_letGo_37 kr k61 n l0 l1 l2 l3 l4 m = some (v, m') → Ex (d + 5) fm_X11_letGo 37 [(21, l0), (20, l1), (0, l2), (17, l3), (0, l4), (3, 0)] [] m (.inl (3, 0)) m' := by
  intro n
  induction n with
  | zero =>
    intro l0 l1 l2 l3 l4 m v m' h
    have h : (none : Option R2) = some _ := h
    cases h
  | succ n ih =>
    intro l0 l1 l2 l3 l4 m v m' h
    rw [X11_letGo_37] at h
    refine x_iload dX11_letGo_37 rfl (?_ : Ex _ _ 39 _ _ _ _ _)
    refine x_aload_n dX11_letGo_39 rfl rfl (Or.inr (by decide)) (?_ : Ex _ _ 40 _ _ _ _ _)
    obtain ⟨c1, h⟩ := chk_some h
    refine gt_7_4 c1 fl_RX11_414 dX11_letGo_40 (?_ : Ex _ _ 43 _ _ _ _ _)
    rcases ite_some h with ⟨b2, h⟩ | ⟨b2, h⟩
    · refine x_icmp_ge (tgt := 58) dX11_letGo_43 rfl b2 (?_ : Ex _ _ 58 _ _ _ _ _)
      refine x_iconst dX11_letGo_58 rfl (by decide) (?_ : Ex _ _ 59 _ _ _ _ _)
      refine x_istore (ls2 := [(21, l0), (20, l1), (0, l2), (17, l3), (0, 0), (3, 0)]) dX11_letGo_59 (Nat.le_of_ble_eq_true rfl) rfl (?_ : Ex _ _ 61 _ _ _ _ _)
      refine Ex.wk (ls2 := [(21, l0), (20, l1), (0, l2), (3, 0), (0, 0), (3, 0)]) ⟨Or.inr rfl, Or.inr rfl, Or.inr rfl, Or.inl rfl, Or.inr rfl, Or.inl rfl, trivial⟩ ?_
      exact hk61 h
    · refine x_icmp_geN dX11_letGo_43 (by decide) b2 (?_ : Ex _ _ 46 _ _ _ _ _)
      refine x_aload_n dX11_letGo_46 rfl rfl (Or.inr (by decide)) (?_ : Ex _ _ 47 _ _ _ _ _)
      refine x_iload dX11_letGo_47 rfl (?_ : Ex _ _ 49 _ _ _ _ _)
      obtain ⟨v3, m4, g5, h⟩ := cal_some h
      refine cV1 (e_X7_dropTimer (d + 4) g5) (contV (?_ : Ex _ _ 52 _ _ _ _ _)) og_X7_dropTimer rfl ml_RX11_378 7 rfl rfl c1 im_X7_dropTimer se_X7_dropTimer (Nat.le_of_ble_eq_true rfl) dX11_letGo_49
      obtain ⟨c6, h⟩ := chk_some h
      refine x_iinc (ls2 := [(21, l0), (20, l1), (0, l2), (17, l3), (0, (l4 + 1)), (3, 0)]) dX11_letGo_52 rfl c6 rfl (?_ : Ex _ _ 55 _ _ _ _ _)
      refine x_goto (tgt := 37) dX11_letGo_55 rfl (?_ : Ex _ _ 37 _ _ _ _ _)
      exact ih h
theorem e_X11_letGo_8 (d : Nat) {kr : Int → Int → Int → Mem → Option R2} (hkr : ∀ {a b c : Int} {m : Mem} {v : Int} {m' : Mem}, kr a b c m = some (v, m') → ExM (d + 3) fm_X11_letGo [(21, a), (20, b), (0, c)] m (.inl (3, 0)) m') {k37 : Int → Int → Int → Int → Int → Mem → Option R2} (hk37 : ∀ {l0 l1 l2 l3 l4 : Int} {m : Mem} {v : Int} {m' : Mem}, k37 l0 l1 l2 l3 l4 m = some (v, m') → Ex (d + 5) fm_X11_letGo 37 [(21, l0), (20, l1), (0, l2), (17, l3), (0, l4), (3, 0)] [] m (.inl (3, 0)) m') : ∀ (n : Nat) {l0 l1 l2 l3 l4 : Int} {m : Mem} {v : Int} {m' : Mem}, X11_letGo_8 kr k37 n l0 l1 l2 l3 l4 m = some (v, m') → Ex (d + 5) fm_X11_letGo 8 [(21, l0), (20, l1), (0, l2), (17, l3), (0, l4), (3, 0)] [] m (.inl (3, 0)) m' := by
  intro n
  induction n with
  | zero =>
    intro l0 l1 l2 l3 l4 m v m' h
    have h : (none : Option R2) = some _ := h
    cases h
  | succ n ih =>
    intro l0 l1 l2 l3 l4 m v m' h
    rw [X11_letGo_8] at h
    refine x_iload dX11_letGo_8 rfl (?_ : Ex _ _ 10 _ _ _ _ _)
    refine x_aload_n dX11_letGo_10 rfl rfl (Or.inr (by decide)) (?_ : Ex _ _ 11 _ _ _ _ _)
    obtain ⟨c1, h⟩ := chk_some h
    refine gt_7_3 c1 fl_RX11_368 dX11_letGo_11 (?_ : Ex _ _ 14 _ _ _ _ _)
    rcases ite_some h with ⟨b2, h⟩ | ⟨b2, h⟩
    · refine x_icmp_ge (tgt := 34) dX11_letGo_14 rfl b2 (?_ : Ex _ _ 34 _ _ _ _ _)
      refine x_iconst dX11_letGo_34 rfl (by decide) (?_ : Ex _ _ 35 _ _ _ _ _)
      refine x_istore (ls2 := [(21, l0), (20, l1), (0, l2), (17, l3), (0, 0), (3, 0)]) dX11_letGo_35 (Nat.le_of_ble_eq_true rfl) rfl (?_ : Ex _ _ 37 _ _ _ _ _)
      exact hk37 h
    · refine x_icmp_geN dX11_letGo_14 (by decide) b2 (?_ : Ex _ _ 17 _ _ _ _ _)
      refine x_aload_n dX11_letGo_17 rfl rfl (Or.inr (by decide)) (?_ : Ex _ _ 18 _ _ _ _ _)
      refine x_aload_n dX11_letGo_18 rfl rfl (Or.inr (by decide)) (?_ : Ex _ _ 19 _ _ _ _ _)
      refine gt_7_1 c1 fl_RX11_371 dX11_letGo_19 (?_ : Ex _ _ 22 _ _ _ _ _)
      refine x_iload dX11_letGo_22 rfl (?_ : Ex _ _ 24 _ _ _ _ _)
      obtain ⟨⟨c3, c4, c5⟩, h⟩ := chk_some h
      refine ad_0_80 c3 c4 c5 dX11_letGo_24 (?_ : Ex _ _ 25 _ _ _ _ _)
      obtain ⟨c6, h⟩ := chk_some h
      obtain ⟨v7, m8, g9, h⟩ := cal_some h
      refine cV1 (e_X11_takeOff (d + 3) g9) (contV (?_ : Ex _ _ 28 _ _ _ _ _)) og_X11_takeOff rfl ml_RX11_229 11 rfl rfl c6 im_X11_takeOff se_X11_takeOff (Nat.le_of_ble_eq_true rfl) dX11_letGo_25
      obtain ⟨c10, h⟩ := chk_some h
      refine x_iinc (ls2 := [(21, l0), (20, l1), (0, l2), (17, l3), (0, (l4 + 1)), (3, 0)]) dX11_letGo_28 rfl c10 rfl (?_ : Ex _ _ 31 _ _ _ _ _)
      refine x_goto (tgt := 8) dX11_letGo_31 rfl (?_ : Ex _ _ 8 _ _ _ _ _)
      exact ih h
theorem e_X11_letGo_0 (d : Nat) {kr : Int → Int → Int → Mem → Option R2} (hkr : ∀ {a b c : Int} {m : Mem} {v : Int} {m' : Mem}, kr a b c m = some (v, m') → ExM (d + 3) fm_X11_letGo [(21, a), (20, b), (0, c)] m (.inl (3, 0)) m') {l0 l1 l2 : Int} {m : Mem} {v : Int} {m' : Mem} (h : X11_letGo_0 kr l0 l1 l2 m = some (v, m')) : Ex (d + 5) fm_X11_letGo 0 [(21, l0), (20, l1), (0, l2), (3, 0), (3, 0), (3, 0)] [] m (.inl (3, 0)) m' := by
  unfold X11_letGo_0 at h
  refine x_aload_n dX11_letGo_0 rfl rfl (Or.inr (by decide)) (?_ : Ex _ _ 1 _ _ _ _ _)
  obtain ⟨c1, h⟩ := chk_some h
  refine gt_10_6 c1 fl_RX11_120 dX11_letGo_1 (?_ : Ex _ _ 4 _ _ _ _ _)
  refine x_astore_n (ls2 := [(21, l0), (20, l1), (0, l2), (17, m l1 6), (3, 0), (3, 0)]) dX11_letGo_4 rfl (Nat.le_of_ble_eq_true rfl) (Or.inr (by decide)) rfl (?_ : Ex _ _ 5 _ _ _ _ _)
  refine x_iconst dX11_letGo_5 rfl (by decide) (?_ : Ex _ _ 6 _ _ _ _ _)
  refine x_istore (ls2 := [(21, l0), (20, l1), (0, l2), (17, m l1 6), (0, 0), (3, 0)]) dX11_letGo_6 (Nat.le_of_ble_eq_true rfl) rfl (?_ : Ex _ _ 8 _ _ _ _ _)
  exact e_X11_letGo_8 d hkr (fun h => e_X11_letGo_37 d hkr (fun h => e_X11_letGo_61 d hkr fuel9 h) fuel9 h) fuel9 h
theorem e_X11_letGo (d : Nat) : ∀ (n : Nat) {a0 a1 a2 : Int} {m : Mem} {v : Int} {m' : Mem}, X11_letGo n a0 a1 a2 m = some (v, m') → ExM (d + (2 * n + 3)) fm_X11_letGo [(21, a0), (20, a1), (0, a2)] m (.inl (3, 0)) m' := by
  intro n
  induction n with
  | zero =>
    intro a0 a1 a2 m v m' h
    have h : (none : Option R2) = some _ := h
    cases h
  | succ n ih =>
    intro a0 a1 a2 m v m' h
    rw [X11_letGo] at h
    exact ExM.of (by decide +kernel) (Nat.le_of_ble_eq_true rfl) (cat9 rfl) retV (e_X11_letGo_0 (d + 2 * n) (fun {a b c m v m'} hh => ih hh) h)
