/-! the machine does what the functions say, printed -/
theorem dX11_beginAgain_0 : decode cX11_beginAgain 0 = .ok (.aload_n 1, 1) := by decide +kernel
theorem dX11_beginAgain_1 : decode cX11_beginAgain 1 = .ok (.getfield 120, 3) := by decide +kernel
theorem dX11_beginAgain_4 : decode cX11_beginAgain 4 = .ok (.astore_n 3, 1) := by decide +kernel
theorem dX11_beginAgain_5 : decode cX11_beginAgain 5 = .ok (.aload_n 1, 1) := by decide +kernel
theorem dX11_beginAgain_6 : decode cX11_beginAgain 6 = .ok (.iload_n 2, 1) := by decide +kernel
theorem dX11_beginAgain_7 : decode cX11_beginAgain 7 = .ok (.invokevirtual 420, 3) := by decide +kernel
theorem dX11_beginAgain_10 : decode cX11_beginAgain 10 = .ok (.iconst 0, 1) := by decide +kernel
theorem dX11_beginAgain_11 : decode cX11_beginAgain 11 = .ok (.istore 4, 2) := by decide +kernel
theorem dX11_beginAgain_13 : decode cX11_beginAgain 13 = .ok (.iload 4, 2) := by decide +kernel
theorem dX11_beginAgain_15 : decode cX11_beginAgain 15 = .ok (.aload_n 3, 1) := by decide +kernel
theorem dX11_beginAgain_16 : decode cX11_beginAgain 16 = .ok (.getfield 144, 3) := by decide +kernel
theorem dX11_beginAgain_19 : decode cX11_beginAgain 19 = .ok (.getfield 268, 3) := by decide +kernel
theorem dX11_beginAgain_22 : decode cX11_beginAgain 22 = .ok (.if_icmp .ge 72, 3) := by decide +kernel
theorem dX11_beginAgain_25 : decode cX11_beginAgain 25 = .ok (.iload 4, 2) := by decide +kernel
theorem dX11_beginAgain_27 : decode cX11_beginAgain 27 = .ok (.bipush 80, 2) := by decide +kernel
theorem dX11_beginAgain_29 : decode cX11_beginAgain 29 = .ok (.if_icmp .ge 65, 3) := by decide +kernel
theorem dX11_beginAgain_32 : decode cX11_beginAgain 32 = .ok (.aload_n 3, 1) := by decide +kernel
theorem dX11_beginAgain_33 : decode cX11_beginAgain 33 = .ok (.getfield 144, 3) := by decide +kernel
theorem dX11_beginAgain_36 : decode cX11_beginAgain 36 = .ok (.getfield 275, 3) := by decide +kernel
theorem dX11_beginAgain_39 : decode cX11_beginAgain 39 = .ok (.iload 4, 2) := by decide +kernel
theorem dX11_beginAgain_41 : decode cX11_beginAgain 41 = .ok (.iaload, 1) := by decide +kernel
theorem dX11_beginAgain_42 : decode cX11_beginAgain 42 = .ok (.iconst 4, 1) := by decide +kernel
theorem dX11_beginAgain_43 : decode cX11_beginAgain 43 = .ok (.if_icmp .ne 45, 3) := by decide +kernel
theorem dX11_beginAgain_46 : decode cX11_beginAgain 46 = .ok (.aload_n 0, 1) := by decide +kernel
theorem dX11_beginAgain_47 : decode cX11_beginAgain 47 = .ok (.getfield 36, 3) := by decide +kernel
theorem dX11_beginAgain_50 : decode cX11_beginAgain 50 = .ok (.getfield 423, 3) := by decide +kernel
theorem dX11_beginAgain_53 : decode cX11_beginAgain 53 = .ok (.iload 4, 2) := by decide +kernel
theorem dX11_beginAgain_55 : decode cX11_beginAgain 55 = .ok (.baload, 1) := by decide +kernel
theorem dX11_beginAgain_56 : decode cX11_beginAgain 56 = .ok (.ifCond .ne 32, 3) := by decide +kernel
theorem dX11_beginAgain_59 : decode cX11_beginAgain 59 = .ok (.aload_n 1, 1) := by decide +kernel
theorem dX11_beginAgain_60 : decode cX11_beginAgain 60 = .ok (.getfield 120, 3) := by decide +kernel
theorem dX11_beginAgain_63 : decode cX11_beginAgain 63 = .ok (.iconst 4, 1) := by decide +kernel
theorem dX11_beginAgain_64 : decode cX11_beginAgain 64 = .ok (.aload_n 3, 1) := by decide +kernel
theorem dX11_beginAgain_65 : decode cX11_beginAgain 65 = .ok (.getfield 144, 3) := by decide +kernel
theorem dX11_beginAgain_68 : decode cX11_beginAgain 68 = .ok (.getfield 278, 3) := by decide +kernel
theorem dX11_beginAgain_71 : decode cX11_beginAgain 71 = .ok (.iload 4, 2) := by decide +kernel
theorem dX11_beginAgain_73 : decode cX11_beginAgain 73 = .ok (.iaload, 1) := by decide +kernel
theorem dX11_beginAgain_74 : decode cX11_beginAgain 74 = .ok (.aload_n 3, 1) := by decide +kernel
theorem dX11_beginAgain_75 : decode cX11_beginAgain 75 = .ok (.getfield 144, 3) := by decide +kernel
theorem dX11_beginAgain_78 : decode cX11_beginAgain 78 = .ok (.getfield 281, 3) := by decide +kernel
theorem dX11_beginAgain_81 : decode cX11_beginAgain 81 = .ok (.iload 4, 2) := by decide +kernel
theorem dX11_beginAgain_83 : decode cX11_beginAgain 83 = .ok (.iaload, 1) := by decide +kernel
theorem dX11_beginAgain_84 : decode cX11_beginAgain 84 = .ok (.invokevirtual 124, 3) := by decide +kernel
theorem dX11_beginAgain_87 : decode cX11_beginAgain 87 = .ok (.pop, 1) := by decide +kernel
theorem dX11_beginAgain_88 : decode cX11_beginAgain 88 = .ok (.iinc 4 1, 3) := by decide +kernel
theorem dX11_beginAgain_91 : decode cX11_beginAgain 91 = .ok (.goto (-78), 3) := by decide +kernel
theorem dX11_beginAgain_94 : decode cX11_beginAgain 94 = .ok (.aload_n 3, 1) := by decide +kernel
theorem dX11_beginAgain_95 : decode cX11_beginAgain 95 = .ok (.getfield 427, 3) := by decide +kernel
theorem dX11_beginAgain_98 : decode cX11_beginAgain 98 = .ok (.ifCond .eq 11, 3) := by decide +kernel
theorem dX11_beginAgain_101 : decode cX11_beginAgain 101 = .ok (.aload_n 1, 1) := by decide +kernel
theorem dX11_beginAgain_102 : decode cX11_beginAgain 102 = .ok (.getfield 120, 3) := by decide +kernel
theorem dX11_beginAgain_105 : decode cX11_beginAgain 105 = .ok (.invokevirtual 129, 3) := by decide +kernel
theorem dX11_beginAgain_108 : decode cX11_beginAgain 108 = .ok (.pop, 1) := by decide +kernel
theorem dX11_beginAgain_109 : decode cX11_beginAgain 109 = .ok (.return_, 1) := by decide +kernel
theorem e_X11_beginAgain_94 (d : Nat) {l1 l3 : Int} {m : Mem} {v : Int} {m' : Mem} (h : X11_beginAgain_94 l1 l3 m = some (v, m')) : Ex (d + 3) fm_X11_beginAgain 94 [(3, 0), (20, l1), (3, 0), (17, l3), (3, 0)] [] m (.inl (3, 0)) m' := by
  unfold X11_beginAgain_94 at h
  refine x_aload_n dX11_beginAgain_94 rfl rfl (Or.inr (by decide)) (?_ : Ex _ _ 95 _ _ _ _ _)
  obtain ⟨c1, h⟩ := chk_some h
  refine gt_7_10 c1 fl_RX11_427 dX11_beginAgain_95 (?_ : Ex _ _ 98 _ _ _ _ _)
  rcases ite_some h with ⟨b2, h⟩ | ⟨b2, h⟩
  · refine x_if_eq (tgt := 109) dX11_beginAgain_98 rfl b2 (?_ : Ex _ _ 109 _ _ _ _ _)
    cases h
    exact x_retv dX11_beginAgain_109
  · refine x_if_eqN dX11_beginAgain_98 (by decide) b2 (?_ : Ex _ _ 101 _ _ _ _ _)
    refine x_aload_n dX11_beginAgain_101 rfl rfl (Or.inr (by decide)) (?_ : Ex _ _ 102 _ _ _ _ _)
    obtain ⟨c3, h⟩ := chk_some h
    refine gt_10_6 c3 fl_RX11_120 dX11_beginAgain_102 (?_ : Ex _ _ 105 _ _ _ _ _)
    obtain ⟨c4, h⟩ := chk_some h
    obtain ⟨v5, m6, g7, h⟩ := cal_some h
    refine cV0 (e_X7_askCancel d g7) (contN (by decide) (?_ : Ex _ _ 108 _ _ _ _ _)) og_X7_askCancel rfl ml_RX11_129 7 rfl rfl c4 im_X7_askCancel se_X7_askCancel (Nat.le_of_ble_eq_true rfl) dX11_beginAgain_105
    refine x_pop (by decide : (0 : Int) ≠ 2) dX11_beginAgain_108 (?_ : Ex _ _ 109 _ _ _ _ _)
    cases h
    exact x_retv dX11_beginAgain_109
theorem e_X11_beginAgain_13 (d : Nat) {k94 : Int → Int → Mem → Option R2} (hk94 : ∀ {l1 l3 : Int} {m : Mem} {v : Int} {m' : Mem}, k94 l1 l3 m = some (v, m') → Ex (d + 3) fm_X11_beginAgain 94 [(3, 0), (20, l1), (3, 0), (17, l3), (3, 0)] [] m (.inl (3, 0)) m') : ∀ (n : Nat) {l0 l1 l3 l4 : Int} {m : Mem} {v : Int} {m' : Mem}, X11_beginAgain_13 k94 n l0 l1 l3 l4 m = some (v, m') → Ex (d + 3) fm_X11_beginAgain 13 [(21, l0), (20, l1), (3, 0), (17, l3), (0, l4)] [] m (.inl (3, 0)) m' := by
  intro n
  induction n with
  | zero =>
    intro l0 l1 l3 l4 m v m' h
    have h : (none : Option R2) = some _ := h
    cases h
  | succ n ih =>
    intro l0 l1 l3 l4 m v m' h
    rw [X11_beginAgain_13] at h
    refine x_iload dX11_beginAgain_13 rfl (?_ : Ex _ _ 15 _ _ _ _ _)
    refine x_aload_n dX11_beginAgain_15 rfl rfl (Or.inr (by decide)) (?_ : Ex _ _ 16 _ _ _ _ _)
    obtain ⟨c1, h⟩ := chk_some h
    refine gt_7_0 c1 fl_RX11_144 dX11_beginAgain_16 (?_ : Ex _ _ 19 _ _ _ _ _)
    obtain ⟨c2, h⟩ := chk_some h
    refine gt_3_3 c2 fl_RX11_268 dX11_beginAgain_19 (?_ : Ex _ _ 22 _ _ _ _ _)
    rcases ite_some h with ⟨b3, h⟩ | ⟨b3, h⟩
    · refine x_icmp_ge (tgt := 94) dX11_beginAgain_22 rfl b3 (?_ : Ex _ _ 94 _ _ _ _ _)
      refine Ex.wk (ls2 := [(3, 0), (20, l1), (3, 0), (17, l3), (3, 0)]) ⟨Or.inl rfl, Or.inr rfl, Or.inl rfl, Or.inr rfl, Or.inl rfl, trivial⟩ ?_
      exact hk94 h
    · refine x_icmp_geN dX11_beginAgain_22 (by decide) b3 (?_ : Ex _ _ 25 _ _ _ _ _)
      refine x_iload dX11_beginAgain_25 rfl (?_ : Ex _ _ 27 _ _ _ _ _)
      refine x_bipush dX11_beginAgain_27 kb_80 (by decide) (?_ : Ex _ _ 29 _ _ _ _ _)
      rcases ite_some h with ⟨b4, h⟩ | ⟨b4, h⟩
      · refine x_icmp_ge (tgt := 94) dX11_beginAgain_29 rfl b4 (?_ : Ex _ _ 94 _ _ _ _ _)
        refine Ex.wk (ls2 := [(3, 0), (20, l1), (3, 0), (17, l3), (3, 0)]) ⟨Or.inl rfl, Or.inr rfl, Or.inl rfl, Or.inr rfl, Or.inl rfl, trivial⟩ ?_
        exact hk94 h
      · refine x_icmp_geN dX11_beginAgain_29 (by decide) b4 (?_ : Ex _ _ 32 _ _ _ _ _)
        refine x_aload_n dX11_beginAgain_32 rfl rfl (Or.inr (by decide)) (?_ : Ex _ _ 33 _ _ _ _ _)
        refine gt_7_0 c1 fl_RX11_144 dX11_beginAgain_33 (?_ : Ex _ _ 36 _ _ _ _ _)
        refine gt_3_0 c2 fl_RX11_275 dX11_beginAgain_36 (?_ : Ex _ _ 39 _ _ _ _ _)
        refine x_iload dX11_beginAgain_39 rfl (?_ : Ex _ _ 41 _ _ _ _ _)
        obtain ⟨⟨c5, c6, c7⟩, h⟩ := chk_some h
        refine ld_i_80 c5 c6 c7 dX11_beginAgain_41 (?_ : Ex _ _ 42 _ _ _ _ _)
        refine x_iconst dX11_beginAgain_42 rfl (by decide) (?_ : Ex _ _ 43 _ _ _ _ _)
        rcases ite_some h with ⟨b8, h⟩ | ⟨b8, h⟩
        · refine x_icmp_neN dX11_beginAgain_43 (by decide) (fun hh => hh b8) (?_ : Ex _ _ 46 _ _ _ _ _)
          refine x_aload_n dX11_beginAgain_46 rfl rfl (Or.inr (by decide)) (?_ : Ex _ _ 47 _ _ _ _ _)
          obtain ⟨c10, h⟩ := chk_some h
          refine gt_11_4 c10 fl_RX11_36 dX11_beginAgain_47 (?_ : Ex _ _ 50 _ _ _ _ _)
          obtain ⟨c11, h⟩ := chk_some h
          refine gt_4_1 c11 fl_RX11_423 dX11_beginAgain_50 (?_ : Ex _ _ 53 _ _ _ _ _)
          refine x_iload dX11_beginAgain_53 rfl (?_ : Ex _ _ 55 _ _ _ _ _)
          obtain ⟨⟨c12, c13, c14⟩, h⟩ := chk_some h
          refine ld_b_80 c12 c13 c14 dX11_beginAgain_55 (?_ : Ex _ _ 56 _ _ _ _ _)
          rcases ite_some h with ⟨b15, h⟩ | ⟨b15, h⟩
          · refine x_if_neN dX11_beginAgain_56 (by decide) (fun hh => hh b15) (?_ : Ex _ _ 59 _ _ _ _ _)
            refine x_aload_n dX11_beginAgain_59 rfl rfl (Or.inr (by decide)) (?_ : Ex _ _ 60 _ _ _ _ _)
            obtain ⟨c17, h⟩ := chk_some h
            refine gt_10_6 c17 fl_RX11_120 dX11_beginAgain_60 (?_ : Ex _ _ 63 _ _ _ _ _)
            refine x_iconst dX11_beginAgain_63 rfl (by decide) (?_ : Ex _ _ 64 _ _ _ _ _)
            refine x_aload_n dX11_beginAgain_64 rfl rfl (Or.inr (by decide)) (?_ : Ex _ _ 65 _ _ _ _ _)
            refine gt_7_0 c1 fl_RX11_144 dX11_beginAgain_65 (?_ : Ex _ _ 68 _ _ _ _ _)
            refine gt_3_1 c2 fl_RX11_278 dX11_beginAgain_68 (?_ : Ex _ _ 71 _ _ _ _ _)
            refine x_iload dX11_beginAgain_71 rfl (?_ : Ex _ _ 73 _ _ _ _ _)
            obtain ⟨⟨c18, c19, c20⟩, h⟩ := chk_some h
            refine ld_i_80 c18 c19 c20 dX11_beginAgain_73 (?_ : Ex _ _ 74 _ _ _ _ _)
            refine x_aload_n dX11_beginAgain_74 rfl rfl (Or.inr (by decide)) (?_ : Ex _ _ 75 _ _ _ _ _)
            refine gt_7_0 c1 fl_RX11_144 dX11_beginAgain_75 (?_ : Ex _ _ 78 _ _ _ _ _)
            refine gt_3_2 c2 fl_RX11_281 dX11_beginAgain_78 (?_ : Ex _ _ 81 _ _ _ _ _)
            refine x_iload dX11_beginAgain_81 rfl (?_ : Ex _ _ 83 _ _ _ _ _)
            obtain ⟨⟨c21, c22, c23⟩, h⟩ := chk_some h
            refine ld_i_80 c21 c22 c23 dX11_beginAgain_83 (?_ : Ex _ _ 84 _ _ _ _ _)
            obtain ⟨c24, h⟩ := chk_some h
            obtain ⟨v25, m26, g27, h⟩ := cal_some h
            refine cV3 (e_X7_happen (d + 1) g27) (contN (by decide) (?_ : Ex _ _ 87 _ _ _ _ _)) og_X7_happen rfl ml_RX11_124 7 rfl rfl c24 im_X7_happen se_X7_happen (Nat.le_of_ble_eq_true rfl) dX11_beginAgain_84
            refine x_pop (by decide : (0 : Int) ≠ 2) dX11_beginAgain_87 (?_ : Ex _ _ 88 _ _ _ _ _)
            obtain ⟨c28, h⟩ := chk_some h
            refine x_iinc (ls2 := [(21, l0), (20, l1), (3, 0), (17, l3), (0, (l4 + 1))]) dX11_beginAgain_88 rfl c28 rfl (?_ : Ex _ _ 91 _ _ _ _ _)
            refine x_goto (tgt := 13) dX11_beginAgain_91 rfl (?_ : Ex _ _ 13 _ _ _ _ _)
            exact ih h
          · refine x_if_ne (tgt := 88) dX11_beginAgain_56 rfl b15 (?_ : Ex _ _ 88 _ _ _ _ _)
            obtain ⟨c16, h⟩ := chk_some h
            refine x_iinc (ls2 := [(21, l0), (20, l1), (3, 0), (17, l3), (0, (l4 + 1))]) dX11_beginAgain_88 rfl c16 rfl (?_ : Ex _ _ 91 _ _ _ _ _)
            refine x_goto (tgt := 13) dX11_beginAgain_91 rfl (?_ : Ex _ _ 13 _ _ _ _ _)
            exact ih h
        · refine x_icmp_ne (tgt := 88) dX11_beginAgain_43 rfl b8 (?_ : Ex _ _ 88 _ _ _ _ _)
          obtain ⟨c9, h⟩ := chk_some h
          refine x_iinc (ls2 := [(21, l0), (20, l1), (3, 0), (17, l3), (0, (l4 + 1))]) dX11_beginAgain_88 rfl c9 rfl (?_ : Ex _ _ 91 _ _ _ _ _)
          refine x_goto (tgt := 13) dX11_beginAgain_91 rfl (?_ : Ex _ _ 13 _ _ _ _ _)
          exact ih h
theorem e_X11_beginAgain_0 (d : Nat) {l0 l1 l2 : Int} {m : Mem} {v : Int} {m' : Mem} (h : X11_beginAgain_0 l0 l1 l2 m = some (v, m')) : Ex (d + 3) fm_X11_beginAgain 0 [(21, l0), (20, l1), (0, l2), (3, 0), (3, 0)] [] m (.inl (3, 0)) m' := by
  unfold X11_beginAgain_0 at h
  refine x_aload_n dX11_beginAgain_0 rfl rfl (Or.inr (by decide)) (?_ : Ex _ _ 1 _ _ _ _ _)
  obtain ⟨c1, h⟩ := chk_some h
  refine gt_10_6 c1 fl_RX11_120 dX11_beginAgain_1 (?_ : Ex _ _ 4 _ _ _ _ _)
  refine x_astore_n (ls2 := [(21, l0), (20, l1), (0, l2), (17, m l1 6), (3, 0)]) dX11_beginAgain_4 rfl (Nat.le_of_ble_eq_true rfl) (Or.inr (by decide)) rfl (?_ : Ex _ _ 5 _ _ _ _ _)
  refine x_aload_n dX11_beginAgain_5 rfl rfl (Or.inr (by decide)) (?_ : Ex _ _ 6 _ _ _ _ _)
  refine x_iload_n dX11_beginAgain_6 rfl rfl (?_ : Ex _ _ 7 _ _ _ _ _)
  obtain ⟨v2, m3, g4, h⟩ := cal_some h
  refine cV1 (e_X10_beginRun d g4) (contV (?_ : Ex _ _ 10 _ _ _ _ _)) og_X10_beginRun rfl ml_RX11_420 10 rfl rfl c1 im_X10_beginRun se_X10_beginRun (Nat.le_of_ble_eq_true rfl) dX11_beginAgain_7
  refine x_iconst dX11_beginAgain_10 rfl (by decide) (?_ : Ex _ _ 11 _ _ _ _ _)
  refine x_istore (ls2 := [(21, l0), (20, l1), (0, l2), (17, m l1 6), (0, 0)]) dX11_beginAgain_11 (Nat.le_of_ble_eq_true rfl) rfl (?_ : Ex _ _ 13 _ _ _ _ _)
  refine Ex.wk (ls2 := [(21, l0), (20, l1), (3, 0), (17, m l1 6), (0, 0)]) ⟨Or.inr rfl, Or.inr rfl, Or.inl rfl, Or.inr rfl, Or.inr rfl, trivial⟩ ?_
  exact e_X11_beginAgain_13 d (fun h => e_X11_beginAgain_94 d h) fuel9 h
theorem e_X11_beginAgain (d : Nat) {a0 a1 a2 : Int} {m : Mem} {v : Int} {m' : Mem} (h : X11_beginAgain a0 a1 a2 m = some (v, m')) : ExM (d + 3) fm_X11_beginAgain [(21, a0), (20, a1), (0, a2)] m (.inl (3, 0)) m' := by
  exact ExM.of (by decide +kernel) (Nat.le_of_ble_eq_true rfl) (cat9 rfl) retV (e_X11_beginAgain_0 d h)
theorem dX11_closeIfOver_0 : decode cX11_closeIfOver 0 = .ok (.aload_n 1, 1) := by decide +kernel
theorem dX11_closeIfOver_1 : decode cX11_closeIfOver 1 = .ok (.getfield 120, 3) := by decide +kernel
theorem dX11_closeIfOver_4 : decode cX11_closeIfOver 4 = .ok (.getfield 144, 3) := by decide +kernel
theorem dX11_closeIfOver_7 : decode cX11_closeIfOver 7 = .ok (.astore_n 2, 1) := by decide +kernel
theorem dX11_closeIfOver_8 : decode cX11_closeIfOver 8 = .ok (.aload_n 2, 1) := by decide +kernel
theorem dX11_closeIfOver_9 : decode cX11_closeIfOver 9 = .ok (.getfield 268, 3) := by decide +kernel
theorem dX11_closeIfOver_12 : decode cX11_closeIfOver 12 = .ok (.iconst 1, 1) := by decide +kernel
theorem dX11_closeIfOver_13 : decode cX11_closeIfOver 13 = .ok (.isub, 1) := by decide +kernel
theorem dX11_closeIfOver_14 : decode cX11_closeIfOver 14 = .ok (.istore_n 3, 1) := by decide +kernel
theorem dX11_closeIfOver_15 : decode cX11_closeIfOver 15 = .ok (.iload_n 3, 1) := by decide +kernel
theorem dX11_closeIfOver_16 : decode cX11_closeIfOver 16 = .ok (.iconst 0, 1) := by decide +kernel
theorem dX11_closeIfOver_17 : decode cX11_closeIfOver 17 = .ok (.bipush 79, 2) := by decide +kernel
theorem dX11_closeIfOver_19 : decode cX11_closeIfOver 19 = .ok (.invokestatic 89, 3) := by decide +kernel
theorem dX11_closeIfOver_22 : decode cX11_closeIfOver 22 = .ok (.ifCond .eq 14, 3) := by decide +kernel
theorem dX11_closeIfOver_25 : decode cX11_closeIfOver 25 = .ok (.aload_n 2, 1) := by decide +kernel
theorem dX11_closeIfOver_26 : decode cX11_closeIfOver 26 = .ok (.getfield 275, 3) := by decide +kernel
theorem dX11_closeIfOver_29 : decode cX11_closeIfOver 29 = .ok (.iload_n 3, 1) := by decide +kernel
theorem dX11_closeIfOver_30 : decode cX11_closeIfOver 30 = .ok (.iaload, 1) := by decide +kernel
theorem dX11_closeIfOver_31 : decode cX11_closeIfOver 31 = .ok (.bipush 16, 2) := by decide +kernel
theorem dX11_closeIfOver_33 : decode cX11_closeIfOver 33 = .ok (.if_icmp .eq 4, 3) := by decide +kernel
theorem dX11_closeIfOver_36 : decode cX11_closeIfOver 36 = .ok (.return_, 1) := by decide +kernel
theorem dX11_closeIfOver_37 : decode cX11_closeIfOver 37 = .ok (.aload_n 2, 1) := by decide +kernel
theorem dX11_closeIfOver_38 : decode cX11_closeIfOver 38 = .ok (.getfield 278, 3) := by decide +kernel
theorem dX11_closeIfOver_41 : decode cX11_closeIfOver 41 = .ok (.iload_n 3, 1) := by decide +kernel
theorem dX11_closeIfOver_42 : decode cX11_closeIfOver 42 = .ok (.iaload, 1) := by decide +kernel
theorem dX11_closeIfOver_43 : decode cX11_closeIfOver 43 = .ok (.istore 4, 2) := by decide +kernel
theorem dX11_closeIfOver_45 : decode cX11_closeIfOver 45 = .ok (.aload_n 2, 1) := by decide +kernel
theorem dX11_closeIfOver_46 : decode cX11_closeIfOver 46 = .ok (.getfield 281, 3) := by decide +kernel
theorem dX11_closeIfOver_49 : decode cX11_closeIfOver 49 = .ok (.iload_n 3, 1) := by decide +kernel
theorem dX11_closeIfOver_50 : decode cX11_closeIfOver 50 = .ok (.iaload, 1) := by decide +kernel
theorem dX11_closeIfOver_51 : decode cX11_closeIfOver 51 = .ok (.istore 5, 2) := by decide +kernel
theorem dX11_closeIfOver_53 : decode cX11_closeIfOver 53 = .ok (.aload_n 1, 1) := by decide +kernel
theorem dX11_closeIfOver_54 : decode cX11_closeIfOver 54 = .ok (.getfield 120, 3) := by decide +kernel
theorem dX11_closeIfOver_57 : decode cX11_closeIfOver 57 = .ok (.iload 4, 2) := by decide +kernel
theorem dX11_closeIfOver_59 : decode cX11_closeIfOver 59 = .ok (.invokevirtual 405, 3) := by decide +kernel
theorem dX11_closeIfOver_62 : decode cX11_closeIfOver 62 = .ok (.aload_n 0, 1) := by decide +kernel
theorem dX11_closeIfOver_63 : decode cX11_closeIfOver 63 = .ok (.aload_n 1, 1) := by decide +kernel
theorem dX11_closeIfOver_64 : decode cX11_closeIfOver 64 = .ok (.iconst 0, 1) := by decide +kernel
theorem dX11_closeIfOver_65 : decode cX11_closeIfOver 65 = .ok (.invokevirtual 408, 3) := by decide +kernel
theorem dX11_closeIfOver_68 : decode cX11_closeIfOver 68 = .ok (.iload 4, 2) := by decide +kernel
theorem dX11_closeIfOver_70 : decode cX11_closeIfOver 70 = .ok (.bipush 14, 2) := by decide +kernel
theorem dX11_closeIfOver_72 : decode cX11_closeIfOver 72 = .ok (.if_icmp .ne 13, 3) := by decide +kernel
theorem dX11_closeIfOver_75 : decode cX11_closeIfOver 75 = .ok (.aload_n 0, 1) := by decide +kernel
theorem dX11_closeIfOver_76 : decode cX11_closeIfOver 76 = .ok (.aload_n 1, 1) := by decide +kernel
theorem dX11_closeIfOver_77 : decode cX11_closeIfOver 77 = .ok (.iload 5, 2) := by decide +kernel
theorem dX11_closeIfOver_79 : decode cX11_closeIfOver 79 = .ok (.invokevirtual 411, 3) := by decide +kernel
theorem dX11_closeIfOver_82 : decode cX11_closeIfOver 82 = .ok (.goto 73, 3) := by decide +kernel
theorem dX11_closeIfOver_85 : decode cX11_closeIfOver 85 = .ok (.aload_n 1, 1) := by decide +kernel
theorem dX11_closeIfOver_86 : decode cX11_closeIfOver 86 = .ok (.getfield 261, 3) := by decide +kernel
theorem dX11_closeIfOver_89 : decode cX11_closeIfOver 89 = .ok (.iconst 0, 1) := by decide +kernel
theorem dX11_closeIfOver_90 : decode cX11_closeIfOver 90 = .ok (.aload_n 0, 1) := by decide +kernel
theorem dX11_closeIfOver_91 : decode cX11_closeIfOver 91 = .ok (.getfield 99, 3) := by decide +kernel
theorem dX11_closeIfOver_94 : decode cX11_closeIfOver 94 = .ok (.iconst 1, 1) := by decide +kernel
theorem dX11_closeIfOver_95 : decode cX11_closeIfOver 95 = .ok (.isub, 1) := by decide +kernel
theorem dX11_closeIfOver_96 : decode cX11_closeIfOver 96 = .ok (.invokestatic 89, 3) := by decide +kernel
theorem dX11_closeIfOver_99 : decode cX11_closeIfOver 99 = .ok (.ifCond .eq 56, 3) := by decide +kernel
theorem dX11_closeIfOver_102 : decode cX11_closeIfOver 102 = .ok (.aload_n 0, 1) := by decide +kernel
theorem dX11_closeIfOver_103 : decode cX11_closeIfOver 103 = .ok (.getfield 17, 3) := by decide +kernel
theorem dX11_closeIfOver_106 : decode cX11_closeIfOver 106 = .ok (.aload_n 1, 1) := by decide +kernel
theorem dX11_closeIfOver_107 : decode cX11_closeIfOver 107 = .ok (.getfield 261, 3) := by decide +kernel
theorem dX11_closeIfOver_110 : decode cX11_closeIfOver 110 = .ok (.aaload, 1) := by decide +kernel
theorem dX11_closeIfOver_111 : decode cX11_closeIfOver 111 = .ok (.getfield 148, 3) := by decide +kernel
theorem dX11_closeIfOver_114 : decode cX11_closeIfOver 114 = .ok (.aload_n 1, 1) := by decide +kernel
theorem dX11_closeIfOver_115 : decode cX11_closeIfOver 115 = .ok (.getfield 390, 3) := by decide +kernel
theorem dX11_closeIfOver_118 : decode cX11_closeIfOver 118 = .ok (.if_icmp .ne 37, 3) := by decide +kernel
theorem dX11_closeIfOver_121 : decode cX11_closeIfOver 121 = .ok (.aload_n 0, 1) := by decide +kernel
theorem dX11_closeIfOver_122 : decode cX11_closeIfOver 122 = .ok (.getfield 17, 3) := by decide +kernel
theorem dX11_closeIfOver_125 : decode cX11_closeIfOver 125 = .ok (.aload_n 1, 1) := by decide +kernel
theorem dX11_closeIfOver_126 : decode cX11_closeIfOver 126 = .ok (.getfield 261, 3) := by decide +kernel
theorem dX11_closeIfOver_129 : decode cX11_closeIfOver 129 = .ok (.aaload, 1) := by decide +kernel
theorem dX11_closeIfOver_130 : decode cX11_closeIfOver 130 = .ok (.getfield 120, 3) := by decide +kernel
theorem dX11_closeIfOver_133 : decode cX11_closeIfOver 133 = .ok (.iconst 5, 1) := by decide +kernel
theorem dX11_closeIfOver_134 : decode cX11_closeIfOver 134 = .ok (.aload_n 1, 1) := by decide +kernel
theorem dX11_closeIfOver_135 : decode cX11_closeIfOver 135 = .ok (.getfield 396, 3) := by decide +kernel
theorem dX11_closeIfOver_138 : decode cX11_closeIfOver 138 = .ok (.iload 4, 2) := by decide +kernel
theorem dX11_closeIfOver_140 : decode cX11_closeIfOver 140 = .ok (.bipush 21, 2) := by decide +kernel
theorem dX11_closeIfOver_142 : decode cX11_closeIfOver 142 = .ok (.if_icmp .ne 8, 3) := by decide +kernel
theorem dX11_closeIfOver_145 : decode cX11_closeIfOver 145 = .ok (.iload 5, 2) := by decide +kernel
theorem dX11_closeIfOver_147 : decode cX11_closeIfOver 147 = .ok (.goto 4, 3) := by decide +kernel
theorem dX11_closeIfOver_150 : decode cX11_closeIfOver 150 = .ok (.iconst (-1), 1) := by decide +kernel
theorem dX11_closeIfOver_151 : decode cX11_closeIfOver 151 = .ok (.invokevirtual 124, 3) := by decide +kernel
theorem dX11_closeIfOver_154 : decode cX11_closeIfOver 154 = .ok (.pop, 1) := by decide +kernel
theorem dX11_closeIfOver_155 : decode cX11_closeIfOver 155 = .ok (.return_, 1) := by decide +kernel
theorem e_X11_closeIfOver_151 (d : Nat) {s0 s1 s2 s3 : Int} {m : Mem} {v : Int} {m' : Mem} (h : X11_closeIfOver_151 s0 s1 s2 s3 m = some (v, m')) : Ex (d + 44) fm_X11_closeIfOver 151 [(3, 0), (3, 0), (3, 0), (3, 0), (3, 0), (3, 0)] [(0, s0), (0, s1), (0, s2), (17, s3)] m (.inl (3, 0)) m' := by
  unfold X11_closeIfOver_151 at h
  obtain ⟨c1, h⟩ := chk_some h
  obtain ⟨v2, m3, g4, h⟩ := cal_some h
  refine cV3 (e_X7_happen (d + 42) g4) (contN (by decide) (?_ : Ex _ _ 154 _ _ _ _ _)) og_X7_happen rfl ml_RX11_124 7 rfl rfl c1 im_X7_happen se_X7_happen (Nat.le_of_ble_eq_true rfl) dX11_closeIfOver_151
  refine x_pop (by decide : (0 : Int) ≠ 2) dX11_closeIfOver_154 (?_ : Ex _ _ 155 _ _ _ _ _)
  cases h
  exact x_retv dX11_closeIfOver_155
theorem e_X11_closeIfOver_0 (d : Nat) {l0 l1 : Int} {m : Mem} {v : Int} {m' : Mem} (h : X11_closeIfOver_0 l0 l1 m = some (v, m')) : Ex (d + 44) fm_X11_closeIfOver 0 [(21, l0), (20, l1), (3, 0), (3, 0), (3, 0), (3, 0)] [] m (.inl (3, 0)) m' := by
  unfold X11_closeIfOver_0 at h
  refine x_aload_n dX11_closeIfOver_0 rfl rfl (Or.inr (by decide)) (?_ : Ex _ _ 1 _ _ _ _ _)
  obtain ⟨c1, h⟩ := chk_some h
  refine gt_10_6 c1 fl_RX11_120 dX11_closeIfOver_1 (?_ : Ex _ _ 4 _ _ _ _ _)
  obtain ⟨c2, h⟩ := chk_some h
  refine gt_7_0 c2 fl_RX11_144 dX11_closeIfOver_4 (?_ : Ex _ _ 7 _ _ _ _ _)
  refine x_astore_n (ls2 := [(21, l0), (20, l1), (13, m (m l1 6) 0), (3, 0), (3, 0), (3, 0)]) dX11_closeIfOver_7 rfl (Nat.le_of_ble_eq_true rfl) (Or.inr (by decide)) rfl (?_ : Ex _ _ 8 _ _ _ _ _)
  refine x_aload_n dX11_closeIfOver_8 rfl rfl (Or.inr (by decide)) (?_ : Ex _ _ 9 _ _ _ _ _)
  obtain ⟨c3, h⟩ := chk_some h
  refine gt_3_3 c3 fl_RX11_268 dX11_closeIfOver_9 (?_ : Ex _ _ 12 _ _ _ _ _)
  refine x_iconst dX11_closeIfOver_12 rfl (by decide) (?_ : Ex _ _ 13 _ _ _ _ _)
  obtain ⟨c4, h⟩ := chk_some h
  refine x_isub dX11_closeIfOver_13 c4 (?_ : Ex _ _ 14 _ _ _ _ _)
  refine x_istore_n (ls2 := [(21, l0), (20, l1), (13, m (m l1 6) 0), (0, (m (m (m l1 6) 0) 3 - 1)), (3, 0), (3, 0)]) dX11_closeIfOver_14 rfl (Nat.le_of_ble_eq_true rfl) rfl (?_ : Ex _ _ 15 _ _ _ _ _)
  refine x_iload_n dX11_closeIfOver_15 rfl rfl (?_ : Ex _ _ 16 _ _ _ _ _)
  refine x_iconst dX11_closeIfOver_16 rfl (by decide) (?_ : Ex _ _ 17 _ _ _ _ _)
  refine x_bipush dX11_closeIfOver_17 kb_79 (by decide) (?_ : Ex _ _ 19 _ _ _ _ _)
  obtain ⟨v5, m6, g7, h⟩ := cal_some h
  refine cS3 (e_X11_isWithin (d + 43) g7) (contN (by decide) (?_ : Ex _ _ 22 _ _ _ _ _)) og_X11_isWithin rfl ml_RX11_89 sm_X11_isWithin (Nat.le_of_ble_eq_true rfl) dX11_closeIfOver_19
  rcases ite_some h with ⟨b8, h⟩ | ⟨b8, h⟩
  · refine x_if_eq (tgt := 36) dX11_closeIfOver_22 rfl b8 (?_ : Ex _ _ 36 _ _ _ _ _)
    cases h
    exact x_retv dX11_closeIfOver_36
  · refine x_if_eqN dX11_closeIfOver_22 (by decide) b8 (?_ : Ex _ _ 25 _ _ _ _ _)
    refine x_aload_n dX11_closeIfOver_25 rfl rfl (Or.inr (by decide)) (?_ : Ex _ _ 26 _ _ _ _ _)
    refine gt_3_0 c3 fl_RX11_275 dX11_closeIfOver_26 (?_ : Ex _ _ 29 _ _ _ _ _)
    refine x_iload_n dX11_closeIfOver_29 rfl rfl (?_ : Ex _ _ 30 _ _ _ _ _)
    obtain ⟨⟨c9, c10, c11⟩, h⟩ := chk_some h
    refine ld_i_80 c9 c10 c11 dX11_closeIfOver_30 (?_ : Ex _ _ 31 _ _ _ _ _)
    refine x_bipush dX11_closeIfOver_31 kb_16 (by decide) (?_ : Ex _ _ 33 _ _ _ _ _)
    rcases ite_some h with ⟨b12, h⟩ | ⟨b12, h⟩
    · refine x_icmp_eq (tgt := 37) dX11_closeIfOver_33 rfl b12 (?_ : Ex _ _ 37 _ _ _ _ _)
      refine x_aload_n dX11_closeIfOver_37 rfl rfl (Or.inr (by decide)) (?_ : Ex _ _ 38 _ _ _ _ _)
      refine gt_3_1 c3 fl_RX11_278 dX11_closeIfOver_38 (?_ : Ex _ _ 41 _ _ _ _ _)
      refine x_iload_n dX11_closeIfOver_41 rfl rfl (?_ : Ex _ _ 42 _ _ _ _ _)
      obtain ⟨⟨c13, c14, c15⟩, h⟩ := chk_some h
      refine ld_i_80 c13 c14 c15 dX11_closeIfOver_42 (?_ : Ex _ _ 43 _ _ _ _ _)
      refine x_istore (ls2 := [(21, l0), (20, l1), (13, m (m l1 6) 0), (0, (m (m (m l1 6) 0) 3 - 1)), (0, m6 (m6 (m (m l1 6) 0) 1) (m (m (m l1 6) 0) 3 - 1)), (3, 0)]) dX11_closeIfOver_43 (Nat.le_of_ble_eq_true rfl) rfl (?_ : Ex _ _ 45 _ _ _ _ _)
      refine x_aload_n dX11_closeIfOver_45 rfl rfl (Or.inr (by decide)) (?_ : Ex _ _ 46 _ _ _ _ _)
      refine gt_3_2 c3 fl_RX11_281 dX11_closeIfOver_46 (?_ : Ex _ _ 49 _ _ _ _ _)
      refine x_iload_n dX11_closeIfOver_49 rfl rfl (?_ : Ex _ _ 50 _ _ _ _ _)
      obtain ⟨⟨c16, c17, c18⟩, h⟩ := chk_some h
      refine ld_i_80 c16 c17 c18 dX11_closeIfOver_50 (?_ : Ex _ _ 51 _ _ _ _ _)
      refine x_istore (ls2 := [(21, l0), (20, l1), (13, m (m l1 6) 0), (0, (m (m (m l1 6) 0) 3 - 1)), (0, m6 (m6 (m (m l1 6) 0) 1) (m (m (m l1 6) 0) 3 - 1)), (0, m6 (m6 (m (m l1 6) 0) 2) (m (m (m l1 6) 0) 3 - 1))]) dX11_closeIfOver_51 (Nat.le_of_ble_eq_true rfl) rfl (?_ : Ex _ _ 53 _ _ _ _ _)
      refine x_aload_n dX11_closeIfOver_53 rfl rfl (Or.inr (by decide)) (?_ : Ex _ _ 54 _ _ _ _ _)
      refine gt_10_6 c1 fl_RX11_120 dX11_closeIfOver_54 (?_ : Ex _ _ 57 _ _ _ _ _)
      refine x_iload dX11_closeIfOver_57 rfl (?_ : Ex _ _ 59 _ _ _ _ _)
      obtain ⟨c19, h⟩ := chk_some h
      obtain ⟨v20, m21, g22, h⟩ := cal_some h
      refine cV1 (e_X7_stop (d + 43) g22) (contV (?_ : Ex _ _ 62 _ _ _ _ _)) og_X7_stop rfl ml_RX11_405 7 rfl rfl c19 im_X7_stop se_X7_stop (Nat.le_of_ble_eq_true rfl) dX11_closeIfOver_59
      refine x_aload_n dX11_closeIfOver_62 rfl rfl (Or.inr (by decide)) (?_ : Ex _ _ 63 _ _ _ _ _)
      refine x_aload_n dX11_closeIfOver_63 rfl rfl (Or.inr (by decide)) (?_ : Ex _ _ 64 _ _ _ _ _)
      refine x_iconst dX11_closeIfOver_64 rfl (by decide) (?_ : Ex _ _ 65 _ _ _ _ _)
      obtain ⟨c23, h⟩ := chk_some h
      obtain ⟨v24, m25, g26, h⟩ := cal_some h
      refine cV2 (e_X11_letGo d 20 g26) (contV (?_ : Ex _ _ 68 _ _ _ _ _)) og_X11_letGo rfl ml_RX11_408 11 rfl rfl c23 im_X11_letGo se_X11_letGo (Nat.le_of_ble_eq_true rfl) dX11_closeIfOver_65
      refine x_iload dX11_closeIfOver_68 rfl (?_ : Ex _ _ 70 _ _ _ _ _)
      refine x_bipush dX11_closeIfOver_70 kb_14 (by decide) (?_ : Ex _ _ 72 _ _ _ _ _)
      rcases ite_some h with ⟨b27, h⟩ | ⟨b27, h⟩
      · refine x_icmp_neN dX11_closeIfOver_72 (by decide) (fun hh => hh b27) (?_ : Ex _ _ 75 _ _ _ _ _)
        refine x_aload_n dX11_closeIfOver_75 rfl rfl (Or.inr (by decide)) (?_ : Ex _ _ 76 _ _ _ _ _)
        refine x_aload_n dX11_closeIfOver_76 rfl rfl (Or.inr (by decide)) (?_ : Ex _ _ 77 _ _ _ _ _)
        refine x_iload dX11_closeIfOver_77 rfl (?_ : Ex _ _ 79 _ _ _ _ _)
        obtain ⟨v41, m42, g43, h⟩ := cal_some h
        refine cV2 (e_X11_beginAgain (d + 40) g43) (contV (?_ : Ex _ _ 82 _ _ _ _ _)) og_X11_beginAgain rfl ml_RX11_411 11 rfl rfl c23 im_X11_beginAgain se_X11_beginAgain (Nat.le_of_ble_eq_true rfl) dX11_closeIfOver_79
        refine x_goto (tgt := 155) dX11_closeIfOver_82 rfl (?_ : Ex _ _ 155 _ _ _ _ _)
        cases h
        exact x_retv dX11_closeIfOver_155
      · refine x_icmp_ne (tgt := 85) dX11_closeIfOver_72 rfl b27 (?_ : Ex _ _ 85 _ _ _ _ _)
        refine x_aload_n dX11_closeIfOver_85 rfl rfl (Or.inr (by decide)) (?_ : Ex _ _ 86 _ _ _ _ _)
        refine gt_10_7 c1 fl_RX11_261 dX11_closeIfOver_86 (?_ : Ex _ _ 89 _ _ _ _ _)
        refine x_iconst dX11_closeIfOver_89 rfl (by decide) (?_ : Ex _ _ 90 _ _ _ _ _)
        refine x_aload_n dX11_closeIfOver_90 rfl rfl (Or.inr (by decide)) (?_ : Ex _ _ 91 _ _ _ _ _)
        refine gt_11_5 c23 fl_RX11_99 dX11_closeIfOver_91 (?_ : Ex _ _ 94 _ _ _ _ _)
        refine x_iconst dX11_closeIfOver_94 rfl (by decide) (?_ : Ex _ _ 95 _ _ _ _ _)
        obtain ⟨c28, h⟩ := chk_some h
        refine x_isub dX11_closeIfOver_95 c28 (?_ : Ex _ _ 96 _ _ _ _ _)
        obtain ⟨v29, m30, g31, h⟩ := cal_some h
        refine cS3 (e_X11_isWithin (d + 43) g31) (contN (by decide) (?_ : Ex _ _ 99 _ _ _ _ _)) og_X11_isWithin rfl ml_RX11_89 sm_X11_isWithin (Nat.le_of_ble_eq_true rfl) dX11_closeIfOver_96
        rcases ite_some h with ⟨b32, h⟩ | ⟨b32, h⟩
        · refine x_if_eq (tgt := 155) dX11_closeIfOver_99 rfl b32 (?_ : Ex _ _ 155 _ _ _ _ _)
          cases h
          exact x_retv dX11_closeIfOver_155
        · refine x_if_eqN dX11_closeIfOver_99 (by decide) b32 (?_ : Ex _ _ 102 _ _ _ _ _)
          refine x_aload_n dX11_closeIfOver_102 rfl rfl (Or.inr (by decide)) (?_ : Ex _ _ 103 _ _ _ _ _)
          refine gt_11_1 c23 fl_RX11_17 dX11_closeIfOver_103 (?_ : Ex _ _ 106 _ _ _ _ _)
          refine x_aload_n dX11_closeIfOver_106 rfl rfl (Or.inr (by decide)) (?_ : Ex _ _ 107 _ _ _ _ _)
          refine gt_10_7 c1 fl_RX11_261 dX11_closeIfOver_107 (?_ : Ex _ _ 110 _ _ _ _ _)
          obtain ⟨⟨c33, c34, c35⟩, h⟩ := chk_some h
          refine ad_10_10 c33 c34 c35 dX11_closeIfOver_110 (?_ : Ex _ _ 111 _ _ _ _ _)
          obtain ⟨c36, h⟩ := chk_some h
          refine gt_10_5 c36 fl_RX11_148 dX11_closeIfOver_111 (?_ : Ex _ _ 114 _ _ _ _ _)
          refine x_aload_n dX11_closeIfOver_114 rfl rfl (Or.inr (by decide)) (?_ : Ex _ _ 115 _ _ _ _ _)
          refine gt_10_8 c1 fl_RX11_390 dX11_closeIfOver_115 (?_ : Ex _ _ 118 _ _ _ _ _)
          rcases ite_some h with ⟨b37, h⟩ | ⟨b37, h⟩
          · refine x_icmp_neN dX11_closeIfOver_118 (by decide) (fun hh => hh b37) (?_ : Ex _ _ 121 _ _ _ _ _)
            refine x_aload_n dX11_closeIfOver_121 rfl rfl (Or.inr (by decide)) (?_ : Ex _ _ 122 _ _ _ _ _)
            refine gt_11_1 c23 fl_RX11_17 dX11_closeIfOver_122 (?_ : Ex _ _ 125 _ _ _ _ _)
            refine x_aload_n dX11_closeIfOver_125 rfl rfl (Or.inr (by decide)) (?_ : Ex _ _ 126 _ _ _ _ _)
            refine gt_10_7 c1 fl_RX11_261 dX11_closeIfOver_126 (?_ : Ex _ _ 129 _ _ _ _ _)
            obtain ⟨⟨c38, c39⟩, h⟩ := chk_some h
            refine ad_10_10 c33 c38 c39 dX11_closeIfOver_129 (?_ : Ex _ _ 130 _ _ _ _ _)
            refine gt_10_6 c36 fl_RX11_120 dX11_closeIfOver_130 (?_ : Ex _ _ 133 _ _ _ _ _)
            refine x_iconst dX11_closeIfOver_133 rfl (by decide) (?_ : Ex _ _ 134 _ _ _ _ _)
            refine x_aload_n dX11_closeIfOver_134 rfl rfl (Or.inr (by decide)) (?_ : Ex _ _ 135 _ _ _ _ _)
            refine gt_10_9 c1 fl_RX11_396 dX11_closeIfOver_135 (?_ : Ex _ _ 138 _ _ _ _ _)
            refine x_iload dX11_closeIfOver_138 rfl (?_ : Ex _ _ 140 _ _ _ _ _)
            refine x_bipush dX11_closeIfOver_140 kb_21 (by decide) (?_ : Ex _ _ 142 _ _ _ _ _)
            rcases ite_some h with ⟨b40, h⟩ | ⟨b40, h⟩
            · refine x_icmp_neN dX11_closeIfOver_142 (by decide) (fun hh => hh b40) (?_ : Ex _ _ 145 _ _ _ _ _)
              refine x_iload dX11_closeIfOver_145 rfl (?_ : Ex _ _ 147 _ _ _ _ _)
              refine x_goto (tgt := 151) dX11_closeIfOver_147 rfl (?_ : Ex _ _ 151 _ _ _ _ _)
              refine Ex.wk (ls2 := [(3, 0), (3, 0), (3, 0), (3, 0), (3, 0), (3, 0)]) ⟨Or.inl rfl, Or.inl rfl, Or.inl rfl, Or.inl rfl, Or.inl rfl, Or.inl rfl, trivial⟩ ?_
              exact e_X11_closeIfOver_151 d h
            · refine x_icmp_ne (tgt := 150) dX11_closeIfOver_142 rfl b40 (?_ : Ex _ _ 150 _ _ _ _ _)
              refine x_iconst dX11_closeIfOver_150 rfl (by decide) (?_ : Ex _ _ 151 _ _ _ _ _)
              refine Ex.wk (ls2 := [(3, 0), (3, 0), (3, 0), (3, 0), (3, 0), (3, 0)]) ⟨Or.inl rfl, Or.inl rfl, Or.inl rfl, Or.inl rfl, Or.inl rfl, Or.inl rfl, trivial⟩ ?_
              exact e_X11_closeIfOver_151 d h
          · refine x_icmp_ne (tgt := 155) dX11_closeIfOver_118 rfl b37 (?_ : Ex _ _ 155 _ _ _ _ _)
            cases h
            exact x_retv dX11_closeIfOver_155
    · refine x_icmp_eqN dX11_closeIfOver_33 (by decide) b12 (?_ : Ex _ _ 36 _ _ _ _ _)
      cases h
      exact x_retv dX11_closeIfOver_36
theorem e_X11_closeIfOver (d : Nat) {a0 a1 : Int} {m : Mem} {v : Int} {m' : Mem} (h : X11_closeIfOver a0 a1 m = some (v, m')) : ExM (d + 44) fm_X11_closeIfOver [(21, a0), (20, a1)] m (.inl (3, 0)) m' := by
  exact ExM.of (by decide +kernel) (Nat.le_of_ble_eq_true rfl) (cat9 rfl) retV (e_X11_closeIfOver_0 d h)
theorem dX11_decide_0 : decode cX11_decide 0 = .ok (.aload_n 0, 1) := by decide +kernel
theorem dX11_decide_1 : decode cX11_decide 1 = .ok (.iload_n 1, 1) := by decide +kernel
theorem dX11_decide_2 : decode cX11_decide 2 = .ok (.invokevirtual 114, 3) := by decide +kernel
theorem dX11_decide_5 : decode cX11_decide 5 = .ok (.astore_n 3, 1) := by decide +kernel
theorem dX11_decide_6 : decode cX11_decide 6 = .ok (.aload_n 0, 1) := by decide +kernel
theorem dX11_decide_7 : decode cX11_decide 7 = .ok (.aload_n 3, 1) := by decide +kernel
theorem dX11_decide_8 : decode cX11_decide 8 = .ok (.iload_n 2, 1) := by decide +kernel
theorem dX11_decide_9 : decode cX11_decide 9 = .ok (.invokevirtual 132, 3) := by decide +kernel
theorem dX11_decide_12 : decode cX11_decide 12 = .ok (.astore 4, 2) := by decide +kernel
theorem dX11_decide_14 : decode cX11_decide 14 = .ok (.aload_n 3, 1) := by decide +kernel
theorem dX11_decide_15 : decode cX11_decide 15 = .ok (.getfield 120, 3) := by decide +kernel
theorem dX11_decide_18 : decode cX11_decide 18 = .ok (.astore 5, 2) := by decide +kernel
theorem dX11_decide_20 : decode cX11_decide 20 = .ok (.aload 5, 2) := by decide +kernel
theorem dX11_decide_22 : decode cX11_decide 22 = .ok (.getfield 136, 3) := by decide +kernel
theorem dX11_decide_25 : decode cX11_decide 25 = .ok (.bipush 20, 2) := by decide +kernel
theorem dX11_decide_27 : decode cX11_decide 27 = .ok (.if_icmp .eq 13, 3) := by decide +kernel
theorem dX11_decide_30 : decode cX11_decide 30 = .ok (.new 71, 3) := by decide +kernel
theorem dX11_decide_33 : decode cX11_decide 33 = .ok (.dup, 1) := by decide +kernel
theorem dX11_decide_34 : decode cX11_decide 34 = .ok (.ldc 139, 2) := by decide +kernel
theorem dX11_decide_36 : decode cX11_decide 36 = .ok (.invokespecial 75, 3) := by decide +kernel
theorem dX11_decide_39 : decode cX11_decide 39 = .ok (.athrow, 1) := by decide +kernel
theorem dX11_decide_40 : decode cX11_decide 40 = .ok (.aload 5, 2) := by decide +kernel
theorem dX11_decide_42 : decode cX11_decide 42 = .ok (.invokevirtual 141, 3) := by decide +kernel
theorem dX11_decide_45 : decode cX11_decide 45 = .ok (.ifCond .ne 5, 3) := by decide +kernel
theorem dX11_decide_48 : decode cX11_decide 48 = .ok (.iconst (-1), 1) := by decide +kernel
theorem dX11_decide_49 : decode cX11_decide 49 = .ok (.ireturn, 1) := by decide +kernel
theorem dX11_decide_50 : decode cX11_decide 50 = .ok (.aload_n 0, 1) := by decide +kernel
theorem dX11_decide_51 : decode cX11_decide 51 = .ok (.getfield 36, 3) := by decide +kernel
theorem dX11_decide_54 : decode cX11_decide 54 = .ok (.aload 4, 2) := by decide +kernel
theorem dX11_decide_56 : decode cX11_decide 56 = .ok (.aload 5, 2) := by decide +kernel
theorem dX11_decide_58 : decode cX11_decide 58 = .ok (.getfield 144, 3) := by decide +kernel
theorem dX11_decide_61 : decode cX11_decide 61 = .ok (.aload_n 3, 1) := by decide +kernel
theorem dX11_decide_62 : decode cX11_decide 62 = .ok (.getfield 148, 3) := by decide +kernel
theorem dX11_decide_65 : decode cX11_decide 65 = .ok (.iconst 1, 1) := by decide +kernel
theorem dX11_decide_66 : decode cX11_decide 66 = .ok (.invokevirtual 151, 3) := by decide +kernel
theorem dX11_decide_69 : decode cX11_decide 69 = .ok (.ifCond .ne 6, 3) := by decide +kernel
theorem dX11_decide_72 : decode cX11_decide 72 = .ok (.bipush (-2), 2) := by decide +kernel
theorem dX11_decide_74 : decode cX11_decide 74 = .ok (.ireturn, 1) := by decide +kernel
theorem dX11_decide_75 : decode cX11_decide 75 = .ok (.aload_n 0, 1) := by decide +kernel
theorem dX11_decide_76 : decode cX11_decide 76 = .ok (.aload_n 3, 1) := by decide +kernel
theorem dX11_decide_77 : decode cX11_decide 77 = .ok (.iload_n 2, 1) := by decide +kernel
theorem dX11_decide_78 : decode cX11_decide 78 = .ok (.invokevirtual 155, 3) := by decide +kernel
theorem dX11_decide_81 : decode cX11_decide 81 = .ok (.aload_n 0, 1) := by decide +kernel
theorem dX11_decide_82 : decode cX11_decide 82 = .ok (.aload_n 3, 1) := by decide +kernel
theorem dX11_decide_83 : decode cX11_decide 83 = .ok (.invokevirtual 159, 3) := by decide +kernel
theorem dX11_decide_86 : decode cX11_decide 86 = .ok (.aload 5, 2) := by decide +kernel
theorem dX11_decide_88 : decode cX11_decide 88 = .ok (.invokevirtual 162, 3) := by decide +kernel
theorem dX11_decide_91 : decode cX11_decide 91 = .ok (.aload_n 0, 1) := by decide +kernel
theorem dX11_decide_92 : decode cX11_decide 92 = .ok (.getfield 36, 3) := by decide +kernel
theorem dX11_decide_95 : decode cX11_decide 95 = .ok (.getfield 165, 3) := by decide +kernel
theorem dX11_decide_98 : decode cX11_decide 98 = .ok (.getfield 169, 3) := by decide +kernel
theorem dX11_decide_101 : decode cX11_decide 101 = .ok (.ireturn, 1) := by decide +kernel
theorem e_X11_decide_0 (d : Nat) {l0 l1 l2 : Int} {m : Mem} {e v : Int} {m' : Mem} (h : X11_decide_0 l0 l1 l2 m = some (e, v, m')) : Ex (d + 45) fm_X11_decide 0 [(21, l0), (0, l1), (0, l2), (3, 0), (3, 0), (3, 0)] [] m (rr9 0 e v) m' := by
  unfold X11_decide_0 at h
  refine x_aload_n dX11_decide_0 rfl rfl (Or.inr (by decide)) (?_ : Ex _ _ 1 _ _ _ _ _)
  refine x_iload_n dX11_decide_1 rfl rfl (?_ : Ex _ _ 2 _ _ _ _ _)
  obtain ⟨c1, h⟩ := chk_some h
  rcases calX_some h with ⟨v2, m3, g4, h⟩ | ⟨e34, v2, m3, x33, g4, h⟩
  · refine cV1 (e_X11_flowOf (d + 43) g4) (cont0 (by decide) (?_ : Ex _ _ 5 _ _ _ _ _)) og_X11_flowOf rfl ml_RX11_114 11 rfl rfl c1 im_X11_flowOf se_X11_flowOf (Nat.le_of_ble_eq_true rfl) dX11_decide_2
    refine x_astore_n (ls2 := [(21, l0), (0, l1), (0, l2), (20, v2), (3, 0), (3, 0)]) dX11_decide_5 rfl (Nat.le_of_ble_eq_true rfl) (Or.inr (by decide)) rfl (?_ : Ex _ _ 6 _ _ _ _ _)
    refine x_aload_n dX11_decide_6 rfl rfl (Or.inr (by decide)) (?_ : Ex _ _ 7 _ _ _ _ _)
    refine x_aload_n dX11_decide_7 rfl rfl (Or.inr (by decide)) (?_ : Ex _ _ 8 _ _ _ _ _)
    refine x_iload_n dX11_decide_8 rfl rfl (?_ : Ex _ _ 9 _ _ _ _ _)
    rcases calX_some h with ⟨v5, m6, g7, h⟩ | ⟨e32, v5, m6, x31, g7, h⟩
    · refine cV2 (e_X11_programOf (d + 42) g7) (cont0 (by decide) (?_ : Ex _ _ 12 _ _ _ _ _)) og_X11_programOf rfl ml_RX11_132 11 rfl rfl c1 im_X11_programOf se_X11_programOf (Nat.le_of_ble_eq_true rfl) dX11_decide_9
      refine x_astore (ls2 := [(21, l0), (0, l1), (0, l2), (20, v2), (15, v5), (3, 0)]) dX11_decide_12 (Nat.le_of_ble_eq_true rfl) (Or.inr (by decide)) rfl (?_ : Ex _ _ 14 _ _ _ _ _)
      refine x_aload_n dX11_decide_14 rfl rfl (Or.inr (by decide)) (?_ : Ex _ _ 15 _ _ _ _ _)
      obtain ⟨c8, h⟩ := chk_some h
      refine gt_10_6 c8 fl_RX11_120 dX11_decide_15 (?_ : Ex _ _ 18 _ _ _ _ _)
      refine x_astore (ls2 := [(21, l0), (0, l1), (0, l2), (20, v2), (15, v5), (17, m6 v2 6)]) dX11_decide_18 (Nat.le_of_ble_eq_true rfl) (Or.inr (by decide)) rfl (?_ : Ex _ _ 20 _ _ _ _ _)
      refine x_aload dX11_decide_20 rfl (Or.inr (by decide)) (?_ : Ex _ _ 22 _ _ _ _ _)
      obtain ⟨c9, h⟩ := chk_some h
      refine gt_7_7 c9 fl_RX11_136 dX11_decide_22 (?_ : Ex _ _ 25 _ _ _ _ _)
      refine x_bipush dX11_decide_25 kb_20 (by decide) (?_ : Ex _ _ 27 _ _ _ _ _)
      rcases ite_some h with ⟨b10, h⟩ | ⟨b10, h⟩
      · refine x_icmp_eq (tgt := 40) dX11_decide_27 rfl b10 (?_ : Ex _ _ 40 _ _ _ _ _)
        refine x_aload dX11_decide_40 rfl (Or.inr (by decide)) (?_ : Ex _ _ 42 _ _ _ _ _)
        obtain ⟨v11, m12, g13, h⟩ := cal_some h
        refine cV0 (e_X7_hasNews (d + 44) g13) (contN (by decide) (?_ : Ex _ _ 45 _ _ _ _ _)) og_X7_hasNews rfl ml_RX11_141 7 rfl rfl c9 im_X7_hasNews se_X7_hasNews (Nat.le_of_ble_eq_true rfl) dX11_decide_42
        rcases ite_some h with ⟨b14, h⟩ | ⟨b14, h⟩
        · refine x_if_neN dX11_decide_45 (by decide) (fun hh => hh b14) (?_ : Ex _ _ 48 _ _ _ _ _)
          refine x_iconst dX11_decide_48 rfl (by decide) (?_ : Ex _ _ 49 _ _ _ _ _)
          cases h
          exact y_retX dX11_decide_49 (by decide)
        · refine x_if_ne (tgt := 50) dX11_decide_45 rfl b14 (?_ : Ex _ _ 50 _ _ _ _ _)
          refine x_aload_n dX11_decide_50 rfl rfl (Or.inr (by decide)) (?_ : Ex _ _ 51 _ _ _ _ _)
          refine gt_11_4 c1 fl_RX11_36 dX11_decide_51 (?_ : Ex _ _ 54 _ _ _ _ _)
          refine x_aload dX11_decide_54 rfl (Or.inr (by decide)) (?_ : Ex _ _ 56 _ _ _ _ _)
          refine x_aload dX11_decide_56 rfl (Or.inr (by decide)) (?_ : Ex _ _ 58 _ _ _ _ _)
          refine gt_7_0 c9 fl_RX11_144 dX11_decide_58 (?_ : Ex _ _ 61 _ _ _ _ _)
          refine x_aload_n dX11_decide_61 rfl rfl (Or.inr (by decide)) (?_ : Ex _ _ 62 _ _ _ _ _)
          refine gt_10_5 c8 fl_RX11_148 dX11_decide_62 (?_ : Ex _ _ 65 _ _ _ _ _)
          refine x_iconst dX11_decide_65 rfl (by decide) (?_ : Ex _ _ 66 _ _ _ _ _)
          obtain ⟨c15, h⟩ := chk_some h
          obtain ⟨v16, m17, g18, h⟩ := cal_some h
          refine cV4 (e_X4_play (d + 39) g18) (contN (by decide) (?_ : Ex _ _ 69 _ _ _ _ _)) og_X4_play rfl ml_RX11_151 4 rfl rfl c15 im_X4_play se_X4_play (Nat.le_of_ble_eq_true rfl) dX11_decide_66
          rcases ite_some h with ⟨b19, h⟩ | ⟨b19, h⟩
          · refine x_if_neN dX11_decide_69 (by decide) (fun hh => hh b19) (?_ : Ex _ _ 72 _ _ _ _ _)
            refine x_bipush dX11_decide_72 kb_n2 (by decide) (?_ : Ex _ _ 74 _ _ _ _ _)
            cases h
            exact y_retX dX11_decide_74 (by decide)
          · refine x_if_ne (tgt := 75) dX11_decide_69 rfl b19 (?_ : Ex _ _ 75 _ _ _ _ _)
            refine x_aload_n dX11_decide_75 rfl rfl (Or.inr (by decide)) (?_ : Ex _ _ 76 _ _ _ _ _)
            refine x_aload_n dX11_decide_76 rfl rfl (Or.inr (by decide)) (?_ : Ex _ _ 77 _ _ _ _ _)
            refine x_iload_n dX11_decide_77 rfl rfl (?_ : Ex _ _ 78 _ _ _ _ _)
            obtain ⟨v20, m21, g22, h⟩ := cal_some h
            refine cV2 (e_X11_putDown (d + 39) g22) (contV (?_ : Ex _ _ 81 _ _ _ _ _)) og_X11_putDown rfl ml_RX11_155 11 rfl rfl c1 im_X11_putDown se_X11_putDown (Nat.le_of_ble_eq_true rfl) dX11_decide_78
            refine x_aload_n dX11_decide_81 rfl rfl (Or.inr (by decide)) (?_ : Ex _ _ 82 _ _ _ _ _)
            refine x_aload_n dX11_decide_82 rfl rfl (Or.inr (by decide)) (?_ : Ex _ _ 83 _ _ _ _ _)
            obtain ⟨v23, m24, g25, h⟩ := cal_some h
            refine cV1 (e_X11_closeIfOver d g25) (contV (?_ : Ex _ _ 86 _ _ _ _ _)) og_X11_closeIfOver rfl ml_RX11_159 11 rfl rfl c1 im_X11_closeIfOver se_X11_closeIfOver (Nat.le_of_ble_eq_true rfl) dX11_decide_83
            refine x_aload dX11_decide_86 rfl (Or.inr (by decide)) (?_ : Ex _ _ 88 _ _ _ _ _)
            obtain ⟨v26, m27, g28, h⟩ := cal_some h
            refine cV0 (e_X7_tellUnmade (d + 42) g28) (contV (?_ : Ex _ _ 91 _ _ _ _ _)) og_X7_tellUnmade rfl ml_RX11_162 7 rfl rfl c9 im_X7_tellUnmade se_X7_tellUnmade (Nat.le_of_ble_eq_true rfl) dX11_decide_88
            refine x_aload_n dX11_decide_91 rfl rfl (Or.inr (by decide)) (?_ : Ex _ _ 92 _ _ _ _ _)
            refine gt_11_4 c1 fl_RX11_36 dX11_decide_92 (?_ : Ex _ _ 95 _ _ _ _ _)
            obtain ⟨c29, h⟩ := chk_some h
            refine gt_4_0 c29 fl_RX11_165 dX11_decide_95 (?_ : Ex _ _ 98 _ _ _ _ _)
            obtain ⟨c30, h⟩ := chk_some h
            refine gt_1_3 c30 fl_RX11_169 dX11_decide_98 (?_ : Ex _ _ 101 _ _ _ _ _)
            cases h
            exact y_retX dX11_decide_101 (by decide)
      · refine x_icmp_eqN dX11_decide_27 (by decide) b10 (?_ : Ex _ _ 30 _ _ _ _ _)
        cases h
        exact y_throw (by decide) to_RX11_71_139 rfl (Nat.le_of_ble_eq_true rfl) dX11_decide_30 dX11_decide_33 dX11_decide_34 dX11_decide_36 dX11_decide_39 rfl rfl rfl rfl
    · cases h
      exact cV2 (e_X11_programOf (d + 42) g7) (contE x31 rfl) og_X11_programOf rfl ml_RX11_132 11 rfl rfl c1 im_X11_programOf se_X11_programOf (Nat.le_of_ble_eq_true rfl) dX11_decide_9
  · cases h
    exact cV1 (e_X11_flowOf (d + 43) g4) (contE x33 rfl) og_X11_flowOf rfl ml_RX11_114 11 rfl rfl c1 im_X11_flowOf se_X11_flowOf (Nat.le_of_ble_eq_true rfl) dX11_decide_2
theorem e_X11_decide (d : Nat) {a0 a1 a2 : Int} {m : Mem} {e v : Int} {m' : Mem} (h : X11_decide a0 a1 a2 m = some (e, v, m')) : ExM (d + 45) fm_X11_decide [(21, a0), (0, a1), (0, a2)] m (rr9 0 e v) m' := by
  exact ExM.of (by decide +kernel) (Nat.le_of_ble_eq_true rfl) (cat9 rfl) retIX (e_X11_decide_0 d h)
theorem dX11_handOf_0 : decode cX11_handOf 0 = .ok (.iload_n 1, 1) := by decide +kernel
theorem dX11_handOf_1 : decode cX11_handOf 1 = .ok (.iconst 0, 1) := by decide +kernel
theorem dX11_handOf_2 : decode cX11_handOf 2 = .ok (.iconst 3, 1) := by decide +kernel
theorem dX11_handOf_3 : decode cX11_handOf 3 = .ok (.invokestatic 89, 3) := by decide +kernel
theorem dX11_handOf_6 : decode cX11_handOf 6 = .ok (.ifCond .ne 14, 3) := by decide +kernel
theorem dX11_handOf_9 : decode cX11_handOf 9 = .ok (.new 92, 3) := by decide +kernel
theorem dX11_handOf_12 : decode cX11_handOf 12 = .ok (.dup, 1) := by decide +kernel
theorem dX11_handOf_13 : decode cX11_handOf 13 = .ok (.ldc_w 334, 3) := by decide +kernel
theorem dX11_handOf_16 : decode cX11_handOf 16 = .ok (.invokespecial 96, 3) := by decide +kernel
theorem dX11_handOf_19 : decode cX11_handOf 19 = .ok (.athrow, 1) := by decide +kernel
theorem dX11_handOf_20 : decode cX11_handOf 20 = .ok (.aload_n 0, 1) := by decide +kernel
theorem dX11_handOf_21 : decode cX11_handOf 21 = .ok (.getfield 29, 3) := by decide +kernel
theorem dX11_handOf_24 : decode cX11_handOf 24 = .ok (.iload_n 1, 1) := by decide +kernel
theorem dX11_handOf_25 : decode cX11_handOf 25 = .ok (.aaload, 1) := by decide +kernel
theorem dX11_handOf_26 : decode cX11_handOf 26 = .ok (.areturn, 1) := by decide +kernel
theorem e_X11_handOf_0 (d : Nat) {l0 l1 : Int} {m : Mem} {e v : Int} {m' : Mem} (h : X11_handOf_0 l0 l1 m = some (e, v, m')) : Ex (d + 1) fm_X11_handOf 0 [(21, l0), (0, l1)] [] m (rr9 19 e v) m' := by
  unfold X11_handOf_0 at h
  refine x_iload_n dX11_handOf_0 rfl rfl (?_ : Ex _ _ 1 _ _ _ _ _)
  refine x_iconst dX11_handOf_1 rfl (by decide) (?_ : Ex _ _ 2 _ _ _ _ _)
  refine x_iconst dX11_handOf_2 rfl (by decide) (?_ : Ex _ _ 3 _ _ _ _ _)
  obtain ⟨v1, m2, g3, h⟩ := cal_some h
  refine cS3 (e_X11_isWithin d g3) (contN (by decide) (?_ : Ex _ _ 6 _ _ _ _ _)) og_X11_isWithin rfl ml_RX11_89 sm_X11_isWithin (Nat.le_of_ble_eq_true rfl) dX11_handOf_3
  rcases ite_some h with ⟨b4, h⟩ | ⟨b4, h⟩
  · refine x_if_neN dX11_handOf_6 (by decide) (fun hh => hh b4) (?_ : Ex _ _ 9 _ _ _ _ _)
    cases h
    exact y_throwW (by decide) to_RX11_92_334 rfl (Nat.le_of_ble_eq_true rfl) dX11_handOf_9 dX11_handOf_12 dX11_handOf_13 dX11_handOf_16 dX11_handOf_19 rfl rfl rfl rfl
  · refine x_if_ne (tgt := 20) dX11_handOf_6 rfl b4 (?_ : Ex _ _ 20 _ _ _ _ _)
    refine x_aload_n dX11_handOf_20 rfl rfl (Or.inr (by decide)) (?_ : Ex _ _ 21 _ _ _ _ _)
    obtain ⟨c5, h⟩ := chk_some h
    refine gt_11_3 c5 fl_RX11_29 dX11_handOf_21 (?_ : Ex _ _ 24 _ _ _ _ _)
    refine x_iload_n dX11_handOf_24 rfl rfl (?_ : Ex _ _ 25 _ _ _ _ _)
    obtain ⟨⟨c6, c7, c8⟩, h⟩ := chk_some h
    refine ad_9_4 c6 c7 c8 dX11_handOf_25 (?_ : Ex _ _ 26 _ _ _ _ _)
    cases h
    exact y_retX dX11_handOf_26 (by decide)
theorem e_X11_handOf (d : Nat) {a0 a1 : Int} {m : Mem} {e v : Int} {m' : Mem} (h : X11_handOf a0 a1 m = some (e, v, m')) : ExM (d + 1) fm_X11_handOf [(21, a0), (0, a1)] m (rr9 19 e v) m' := by
  exact ExM.of (by decide +kernel) (Nat.le_of_ble_eq_true rfl) (cat9 rfl) (retRX (by decide)) (e_X11_handOf_0 d h)
theorem dX11_checkQueue_0 : decode cX11_checkQueue 0 = .ok (.iload_n 0, 1) := by decide +kernel
theorem dX11_checkQueue_1 : decode cX11_checkQueue 1 = .ok (.iconst 0, 1) := by decide +kernel
theorem dX11_checkQueue_2 : decode cX11_checkQueue 2 = .ok (.iconst 1, 1) := by decide +kernel
theorem dX11_checkQueue_3 : decode cX11_checkQueue 3 = .ok (.invokestatic 89, 3) := by decide +kernel
theorem dX11_checkQueue_6 : decode cX11_checkQueue 6 = .ok (.ifCond .ne 14, 3) := by decide +kernel
theorem dX11_checkQueue_9 : decode cX11_checkQueue 9 = .ok (.new 92, 3) := by decide +kernel
theorem dX11_checkQueue_12 : decode cX11_checkQueue 12 = .ok (.dup, 1) := by decide +kernel
theorem dX11_checkQueue_13 : decode cX11_checkQueue 13 = .ok (.ldc_w 332, 3) := by decide +kernel
theorem dX11_checkQueue_16 : decode cX11_checkQueue 16 = .ok (.invokespecial 96, 3) := by decide +kernel
theorem dX11_checkQueue_19 : decode cX11_checkQueue 19 = .ok (.athrow, 1) := by decide +kernel
theorem dX11_checkQueue_20 : decode cX11_checkQueue 20 = .ok (.return_, 1) := by decide +kernel
theorem e_X11_checkQueue_0 (d : Nat) {l0 : Int} {m : Mem} {e v : Int} {m' : Mem} (h : X11_checkQueue_0 l0 m = some (e, v, m')) : Ex (d + 1) fm_X11_checkQueue 0 [(0, l0)] [] m (rr9 3 e v) m' := by
  unfold X11_checkQueue_0 at h
  refine x_iload_n dX11_checkQueue_0 rfl rfl (?_ : Ex _ _ 1 _ _ _ _ _)
  refine x_iconst dX11_checkQueue_1 rfl (by decide) (?_ : Ex _ _ 2 _ _ _ _ _)
  refine x_iconst dX11_checkQueue_2 rfl (by decide) (?_ : Ex _ _ 3 _ _ _ _ _)
  obtain ⟨v1, m2, g3, h⟩ := cal_some h
  refine cS3 (e_X11_isWithin d g3) (contN (by decide) (?_ : Ex _ _ 6 _ _ _ _ _)) og_X11_isWithin rfl ml_RX11_89 sm_X11_isWithin (Nat.le_of_ble_eq_true rfl) dX11_checkQueue_3
  rcases ite_some h with ⟨b4, h⟩ | ⟨b4, h⟩
  · refine x_if_neN dX11_checkQueue_6 (by decide) (fun hh => hh b4) (?_ : Ex _ _ 9 _ _ _ _ _)
    cases h
    exact y_throwW (by decide) to_RX11_92_332 rfl (Nat.le_of_ble_eq_true rfl) dX11_checkQueue_9 dX11_checkQueue_12 dX11_checkQueue_13 dX11_checkQueue_16 dX11_checkQueue_19 rfl rfl rfl rfl
  · refine x_if_ne (tgt := 20) dX11_checkQueue_6 rfl b4 (?_ : Ex _ _ 20 _ _ _ _ _)
    cases h
    exact y_retvX dX11_checkQueue_20
theorem e_X11_checkQueue (d : Nat) {a0 : Int} {m : Mem} {e v : Int} {m' : Mem} (h : X11_checkQueue a0 m = some (e, v, m')) : ExM (d + 1) fm_X11_checkQueue [(0, a0)] m (rr9 3 e v) m' := by
  exact ExM.of (by decide +kernel) (Nat.le_of_ble_eq_true rfl) (cat9 rfl) retVX (e_X11_checkQueue_0 d h)
theorem dX11_lineOf_0 : decode cX11_lineOf 0 = .ok (.iload_n 1, 1) := by decide +kernel
theorem dX11_lineOf_1 : decode cX11_lineOf 1 = .ok (.invokestatic 243, 3) := by decide +kernel
theorem dX11_lineOf_4 : decode cX11_lineOf 4 = .ok (.aload_n 0, 1) := by decide +kernel
theorem dX11_lineOf_5 : decode cX11_lineOf 5 = .ok (.getfield 23, 3) := by decide +kernel
theorem dX11_lineOf_8 : decode cX11_lineOf 8 = .ok (.iload_n 1, 1) := by decide +kernel
theorem dX11_lineOf_9 : decode cX11_lineOf 9 = .ok (.aaload, 1) := by decide +kernel
theorem dX11_lineOf_10 : decode cX11_lineOf 10 = .ok (.areturn, 1) := by decide +kernel
theorem e_X11_lineOf_0 (d : Nat) {l0 l1 : Int} {m : Mem} {e v : Int} {m' : Mem} (h : X11_lineOf_0 l0 l1 m = some (e, v, m')) : Ex (d + 2) fm_X11_lineOf 0 [(21, l0), (0, l1)] [] m (rr9 16 e v) m' := by
  unfold X11_lineOf_0 at h
  refine x_iload_n dX11_lineOf_0 rfl rfl (?_ : Ex _ _ 1 _ _ _ _ _)
  rcases calX_some h with ⟨v1, m2, g3, h⟩ | ⟨e9, v1, m2, x8, g3, h⟩
  · refine cS1 (e_X11_checkQueue d g3) (cont0V (?_ : Ex _ _ 4 _ _ _ _ _)) og_X11_checkQueue rfl ml_RX11_243 sm_X11_checkQueue (Nat.le_of_ble_eq_true rfl) dX11_lineOf_1
    refine x_aload_n dX11_lineOf_4 rfl rfl (Or.inr (by decide)) (?_ : Ex _ _ 5 _ _ _ _ _)
    obtain ⟨c4, h⟩ := chk_some h
    refine gt_11_2 c4 fl_RX11_23 dX11_lineOf_5 (?_ : Ex _ _ 8 _ _ _ _ _)
    refine x_iload_n dX11_lineOf_8 rfl rfl (?_ : Ex _ _ 9 _ _ _ _ _)
    obtain ⟨⟨c5, c6, c7⟩, h⟩ := chk_some h
    refine ad_6_2 c5 c6 c7 dX11_lineOf_9 (?_ : Ex _ _ 10 _ _ _ _ _)
    cases h
    exact y_retX dX11_lineOf_10 (by decide)
  · cases h
    exact cS1 (e_X11_checkQueue d g3) (contE x8 rfl) og_X11_checkQueue rfl ml_RX11_243 sm_X11_checkQueue (Nat.le_of_ble_eq_true rfl) dX11_lineOf_1
theorem e_X11_lineOf (d : Nat) {a0 a1 : Int} {m : Mem} {e v : Int} {m' : Mem} (h : X11_lineOf a0 a1 m = some (e, v, m')) : ExM (d + 2) fm_X11_lineOf [(21, a0), (0, a1)] m (rr9 16 e v) m' := by
  exact ExM.of (by decide +kernel) (Nat.le_of_ble_eq_true rfl) (cat9 rfl) (retRX (by decide)) (e_X11_lineOf_0 d h)
theorem dX11_nextOn_0 : decode cX11_nextOn 0 = .ok (.aconst_null, 1) := by decide +kernel
theorem dX11_nextOn_1 : decode cX11_nextOn 1 = .ok (.astore_n 3, 1) := by decide +kernel
theorem dX11_nextOn_2 : decode cX11_nextOn 2 = .ok (.iconst 0, 1) := by decide +kernel
theorem dX11_nextOn_3 : decode cX11_nextOn 3 = .ok (.istore 4, 2) := by decide +kernel
theorem dX11_nextOn_5 : decode cX11_nextOn 5 = .ok (.iload 4, 2) := by decide +kernel
theorem dX11_nextOn_7 : decode cX11_nextOn 7 = .ok (.aload_n 0, 1) := by decide +kernel
theorem dX11_nextOn_8 : decode cX11_nextOn 8 = .ok (.getfield 99, 3) := by decide +kernel
theorem dX11_nextOn_11 : decode cX11_nextOn 11 = .ok (.if_icmp .ge 76, 3) := by decide +kernel
theorem dX11_nextOn_14 : decode cX11_nextOn 14 = .ok (.aload_n 0, 1) := by decide +kernel
theorem dX11_nextOn_15 : decode cX11_nextOn 15 = .ok (.getfield 17, 3) := by decide +kernel
theorem dX11_nextOn_18 : decode cX11_nextOn 18 = .ok (.iload 4, 2) := by decide +kernel
theorem dX11_nextOn_20 : decode cX11_nextOn 20 = .ok (.aaload, 1) := by decide +kernel
theorem dX11_nextOn_21 : decode cX11_nextOn 21 = .ok (.getfield 120, 3) := by decide +kernel
theorem dX11_nextOn_24 : decode cX11_nextOn 24 = .ok (.astore 5, 2) := by decide +kernel
theorem dX11_nextOn_26 : decode cX11_nextOn 26 = .ok (.iconst 0, 1) := by decide +kernel
theorem dX11_nextOn_27 : decode cX11_nextOn 27 = .ok (.istore 6, 2) := by decide +kernel
theorem dX11_nextOn_29 : decode cX11_nextOn 29 = .ok (.iload 6, 2) := by decide +kernel
theorem dX11_nextOn_31 : decode cX11_nextOn 31 = .ok (.aload 5, 2) := by decide +kernel
theorem dX11_nextOn_33 : decode cX11_nextOn 33 = .ok (.getfield 368, 3) := by decide +kernel
theorem dX11_nextOn_36 : decode cX11_nextOn 36 = .ok (.if_icmp .ge 45, 3) := by decide +kernel
theorem dX11_nextOn_39 : decode cX11_nextOn 39 = .ok (.aload 5, 2) := by decide +kernel
theorem dX11_nextOn_41 : decode cX11_nextOn 41 = .ok (.getfield 371, 3) := by decide +kernel
theorem dX11_nextOn_44 : decode cX11_nextOn 44 = .ok (.iload 6, 2) := by decide +kernel
theorem dX11_nextOn_46 : decode cX11_nextOn 46 = .ok (.aaload, 1) := by decide +kernel
theorem dX11_nextOn_47 : decode cX11_nextOn 47 = .ok (.astore 7, 2) := by decide +kernel
theorem dX11_nextOn_49 : decode cX11_nextOn 49 = .ok (.aload 7, 2) := by decide +kernel
theorem dX11_nextOn_51 : decode cX11_nextOn 51 = .ok (.iload_n 2, 1) := by decide +kernel
theorem dX11_nextOn_52 : decode cX11_nextOn 52 = .ok (.invokevirtual 430, 3) := by decide +kernel
theorem dX11_nextOn_55 : decode cX11_nextOn 55 = .ok (.ifCond .eq 20, 3) := by decide +kernel
theorem dX11_nextOn_58 : decode cX11_nextOn 58 = .ok (.aload_n 3, 1) := by decide +kernel
theorem dX11_nextOn_59 : decode cX11_nextOn 59 = .ok (.ifnull 13, 3) := by decide +kernel
theorem dX11_nextOn_62 : decode cX11_nextOn 62 = .ok (.aload_n 1, 1) := by decide +kernel
theorem dX11_nextOn_63 : decode cX11_nextOn 63 = .ok (.aload 7, 2) := by decide +kernel
theorem dX11_nextOn_65 : decode cX11_nextOn 65 = .ok (.aload_n 3, 1) := by decide +kernel
theorem dX11_nextOn_66 : decode cX11_nextOn 66 = .ok (.invokevirtual 434, 3) := by decide +kernel
theorem dX11_nextOn_69 : decode cX11_nextOn 69 = .ok (.ifCond .eq 6, 3) := by decide +kernel
theorem dX11_nextOn_72 : decode cX11_nextOn 72 = .ok (.aload 7, 2) := by decide +kernel
theorem dX11_nextOn_74 : decode cX11_nextOn 74 = .ok (.astore_n 3, 1) := by decide +kernel
theorem dX11_nextOn_75 : decode cX11_nextOn 75 = .ok (.iinc 6 1, 3) := by decide +kernel
theorem dX11_nextOn_78 : decode cX11_nextOn 78 = .ok (.goto (-49), 3) := by decide +kernel
theorem dX11_nextOn_81 : decode cX11_nextOn 81 = .ok (.iinc 4 1, 3) := by decide +kernel
theorem dX11_nextOn_84 : decode cX11_nextOn 84 = .ok (.goto (-79), 3) := by decide +kernel
theorem dX11_nextOn_87 : decode cX11_nextOn 87 = .ok (.aload_n 3, 1) := by decide +kernel
theorem dX11_nextOn_88 : decode cX11_nextOn 88 = .ok (.areturn, 1) := by decide +kernel
theorem e_X11_nextOn_29 (d : Nat) {k5 : Int → Int → Int → Int → Int → Mem → Option R2} (hk5 : ∀ {l0 l1 l2 l3 l4 : Int} {m : Mem} {v : Int} {m' : Mem}, k5 l0 l1 l2 l3 l4 m = some (v, m') → Ex (d + 2) fm_X11_nextOn 5 [(21, l0), (16, l1), (0, l2), (10, l3), (0, l4), (3, 0), (3, 0), (3, 0)] [] m (.inl (10, v)) m') : ∀ (n : Nat) {l0 l1 l2 l3 l4 l5 l6 : Int} {m : Mem} {v : Int} {m' : Mem}, X11_nextOn_29 k5 n l0 l1 l2 l3 l4 l5 l6 m = some (v, m') → Ex (d + 2) fm_X11_nextOn 29 [(21, l0), (16, l1), (0, l2), (10, l3), (0, l4), (17, l5), (0, l6), (3, 0)] [] m (.inl (10, v)) m' := by
  intro n
  induction n with
  | zero =>
    intro l0 l1 l2 l3 l4 l5 l6 m v m' h
    have h : (none : Option R2) = some _ := h
    cases h
  | succ n ih =>
    intro l0 l1 l2 l3 l4 l5 l6 m v m' h
    rw [X11_nextOn_29] at h
    refine x_iload dX11_nextOn_29 rfl (?_ : Ex _ _ 31 _ _ _ _ _)
    refine x_aload dX11_nextOn_31 rfl (Or.inr (by decide)) (?_ : Ex _ _ 33 _ _ _ _ _)
    obtain ⟨c1, h⟩ := chk_some h
    refine gt_7_3 c1 fl_RX11_368 dX11_nextOn_33 (?_ : Ex _ _ 36 _ _ _ _ _)
    rcases ite_some h with ⟨b2, h⟩ | ⟨b2, h⟩
    · refine x_icmp_ge (tgt := 81) dX11_nextOn_36 rfl b2 (?_ : Ex _ _ 81 _ _ _ _ _)
      obtain ⟨c3, h⟩ := chk_some h
      refine x_iinc (ls2 := [(21, l0), (16, l1), (0, l2), (10, l3), (0, (l4 + 1)), (17, l5), (0, l6), (3, 0)]) dX11_nextOn_81 rfl c3 rfl (?_ : Ex _ _ 84 _ _ _ _ _)
      refine x_goto (tgt := 5) dX11_nextOn_84 rfl (?_ : Ex _ _ 5 _ _ _ _ _)
      refine Ex.wk (ls2 := [(21, l0), (16, l1), (0, l2), (10, l3), (0, (l4 + 1)), (3, 0), (3, 0), (3, 0)]) ⟨Or.inr rfl, Or.inr rfl, Or.inr rfl, Or.inr rfl, Or.inr rfl, Or.inl rfl, Or.inl rfl, Or.inl rfl, trivial⟩ ?_
      exact hk5 h
    · refine x_icmp_geN dX11_nextOn_36 (by decide) b2 (?_ : Ex _ _ 39 _ _ _ _ _)
      refine x_aload dX11_nextOn_39 rfl (Or.inr (by decide)) (?_ : Ex _ _ 41 _ _ _ _ _)
      refine gt_7_1 c1 fl_RX11_371 dX11_nextOn_41 (?_ : Ex _ _ 44 _ _ _ _ _)
      refine x_iload dX11_nextOn_44 rfl (?_ : Ex _ _ 46 _ _ _ _ _)
      obtain ⟨⟨c4, c5, c6⟩, h⟩ := chk_some h
      refine ad_0_80 c4 c5 c6 dX11_nextOn_46 (?_ : Ex _ _ 47 _ _ _ _ _)
      refine x_astore (ls2 := [(21, l0), (16, l1), (0, l2), (10, l3), (0, l4), (17, l5), (0, l6), (10, m (m l5 1) l6)]) dX11_nextOn_47 (Nat.le_of_ble_eq_true rfl) (Or.inr (by decide)) rfl (?_ : Ex _ _ 49 _ _ _ _ _)
      refine x_aload dX11_nextOn_49 rfl (Or.inr (by decide)) (?_ : Ex _ _ 51 _ _ _ _ _)
      refine x_iload_n dX11_nextOn_51 rfl rfl (?_ : Ex _ _ 52 _ _ _ _ _)
      obtain ⟨c7, h⟩ := chk_some h
      obtain ⟨v8, m9, g10, h⟩ := cal_some h
      refine cV1 (e_X0_isReadyOn (d + 1) g10) (contN (by decide) (?_ : Ex _ _ 55 _ _ _ _ _)) og_X0_isReadyOn rfl ml_RX11_430 0 rfl rfl c7 im_X0_isReadyOn se_X0_isReadyOn (Nat.le_of_ble_eq_true rfl) dX11_nextOn_52
      rcases ite_some h with ⟨b11, h⟩ | ⟨b11, h⟩
      · refine x_if_eq (tgt := 75) dX11_nextOn_55 rfl b11 (?_ : Ex _ _ 75 _ _ _ _ _)
        obtain ⟨c12, h⟩ := chk_some h
        refine x_iinc (ls2 := [(21, l0), (16, l1), (0, l2), (10, l3), (0, l4), (17, l5), (0, (l6 + 1)), (10, m (m l5 1) l6)]) dX11_nextOn_75 rfl c12 rfl (?_ : Ex _ _ 78 _ _ _ _ _)
        refine x_goto (tgt := 29) dX11_nextOn_78 rfl (?_ : Ex _ _ 29 _ _ _ _ _)
        refine Ex.wk (ls2 := [(21, l0), (16, l1), (0, l2), (10, l3), (0, l4), (17, l5), (0, (l6 + 1)), (3, 0)]) ⟨Or.inr rfl, Or.inr rfl, Or.inr rfl, Or.inr rfl, Or.inr rfl, Or.inr rfl, Or.inr rfl, Or.inl rfl, trivial⟩ ?_
        exact ih h
      · refine x_if_eqN dX11_nextOn_55 (by decide) b11 (?_ : Ex _ _ 58 _ _ _ _ _)
        refine x_aload_n dX11_nextOn_58 rfl rfl (Or.inr (by decide)) (?_ : Ex _ _ 59 _ _ _ _ _)
        rcases ite_some h with ⟨b13, h⟩ | ⟨b13, h⟩
        · refine y_ifnull (tgt := 72) (by decide) b13 dX11_nextOn_59 rfl (?_ : Ex _ _ 72 _ _ _ _ _)
          refine x_aload dX11_nextOn_72 rfl (Or.inr (by decide)) (?_ : Ex _ _ 74 _ _ _ _ _)
          refine x_astore_n (ls2 := [(21, l0), (16, l1), (0, l2), (10, m (m l5 1) l6), (0, l4), (17, l5), (0, l6), (10, m (m l5 1) l6)]) dX11_nextOn_74 rfl (Nat.le_of_ble_eq_true rfl) (Or.inr (by decide)) rfl (?_ : Ex _ _ 75 _ _ _ _ _)
          obtain ⟨c14, h⟩ := chk_some h
          refine x_iinc (ls2 := [(21, l0), (16, l1), (0, l2), (10, m (m l5 1) l6), (0, l4), (17, l5), (0, (l6 + 1)), (10, m (m l5 1) l6)]) dX11_nextOn_75 rfl c14 rfl (?_ : Ex _ _ 78 _ _ _ _ _)
          refine x_goto (tgt := 29) dX11_nextOn_78 rfl (?_ : Ex _ _ 29 _ _ _ _ _)
          refine Ex.wk (ls2 := [(21, l0), (16, l1), (0, l2), (10, m (m l5 1) l6), (0, l4), (17, l5), (0, (l6 + 1)), (3, 0)]) ⟨Or.inr rfl, Or.inr rfl, Or.inr rfl, Or.inr rfl, Or.inr rfl, Or.inr rfl, Or.inr rfl, Or.inl rfl, trivial⟩ ?_
          exact ih h
        · refine x_ifnullN (by decide) b13 dX11_nextOn_59 (?_ : Ex _ _ 62 _ _ _ _ _)
          refine x_aload_n dX11_nextOn_62 rfl rfl (Or.inr (by decide)) (?_ : Ex _ _ 63 _ _ _ _ _)
          refine x_aload dX11_nextOn_63 rfl (Or.inr (by decide)) (?_ : Ex _ _ 65 _ _ _ _ _)
          refine x_aload_n dX11_nextOn_65 rfl rfl (Or.inr (by decide)) (?_ : Ex _ _ 66 _ _ _ _ _)
          obtain ⟨c15, h⟩ := chk_some h
          obtain ⟨v16, m17, g18, h⟩ := cal_some h
          refine cV2 (e_X6_prefers d g18) (contN (by decide) (?_ : Ex _ _ 69 _ _ _ _ _)) og_X6_prefers rfl ml_RX11_434 6 rfl rfl c15 im_X6_prefers se_X6_prefers (Nat.le_of_ble_eq_true rfl) dX11_nextOn_66
          rcases ite_some h with ⟨b19, h⟩ | ⟨b19, h⟩
          · refine x_if_eq (tgt := 75) dX11_nextOn_69 rfl b19 (?_ : Ex _ _ 75 _ _ _ _ _)
            obtain ⟨c20, h⟩ := chk_some h
            refine x_iinc (ls2 := [(21, l0), (16, l1), (0, l2), (10, l3), (0, l4), (17, l5), (0, (l6 + 1)), (10, m (m l5 1) l6)]) dX11_nextOn_75 rfl c20 rfl (?_ : Ex _ _ 78 _ _ _ _ _)
            refine x_goto (tgt := 29) dX11_nextOn_78 rfl (?_ : Ex _ _ 29 _ _ _ _ _)
            refine Ex.wk (ls2 := [(21, l0), (16, l1), (0, l2), (10, l3), (0, l4), (17, l5), (0, (l6 + 1)), (3, 0)]) ⟨Or.inr rfl, Or.inr rfl, Or.inr rfl, Or.inr rfl, Or.inr rfl, Or.inr rfl, Or.inr rfl, Or.inl rfl, trivial⟩ ?_
            exact ih h
          · refine x_if_eqN dX11_nextOn_69 (by decide) b19 (?_ : Ex _ _ 72 _ _ _ _ _)
            refine x_aload dX11_nextOn_72 rfl (Or.inr (by decide)) (?_ : Ex _ _ 74 _ _ _ _ _)
            refine x_astore_n (ls2 := [(21, l0), (16, l1), (0, l2), (10, m (m l5 1) l6), (0, l4), (17, l5), (0, l6), (10, m (m l5 1) l6)]) dX11_nextOn_74 rfl (Nat.le_of_ble_eq_true rfl) (Or.inr (by decide)) rfl (?_ : Ex _ _ 75 _ _ _ _ _)
            obtain ⟨c21, h⟩ := chk_some h
            refine x_iinc (ls2 := [(21, l0), (16, l1), (0, l2), (10, m (m l5 1) l6), (0, l4), (17, l5), (0, (l6 + 1)), (10, m (m l5 1) l6)]) dX11_nextOn_75 rfl c21 rfl (?_ : Ex _ _ 78 _ _ _ _ _)
            refine x_goto (tgt := 29) dX11_nextOn_78 rfl (?_ : Ex _ _ 29 _ _ _ _ _)
            refine Ex.wk (ls2 := [(21, l0), (16, l1), (0, l2), (10, m (m l5 1) l6), (0, l4), (17, l5), (0, (l6 + 1)), (3, 0)]) ⟨Or.inr rfl, Or.inr rfl, Or.inr rfl, Or.inr rfl, Or.inr rfl, Or.inr rfl, Or.inr rfl, Or.inl rfl, trivial⟩ ?_
            exact ih h
theorem e_X11_nextOn_5 (d : Nat) : ∀ (n : Nat) {l0 l1 l2 l3 l4 : Int} {m : Mem} {v : Int} {m' : Mem}, X11_nextOn_5 n l0 l1 l2 l3 l4 m = some (v, m') → Ex (d + 2) fm_X11_nextOn 5 [(21, l0), (16, l1), (0, l2), (10, l3), (0, l4), (3, 0), (3, 0), (3, 0)] [] m (.inl (10, v)) m' := by
  intro n
  induction n with
  | zero =>
    intro l0 l1 l2 l3 l4 m v m' h
    have h : (none : Option R2) = some _ := h
    cases h
  | succ n ih =>
    intro l0 l1 l2 l3 l4 m v m' h
    rw [X11_nextOn_5] at h
    refine x_iload dX11_nextOn_5 rfl (?_ : Ex _ _ 7 _ _ _ _ _)
    refine x_aload_n dX11_nextOn_7 rfl rfl (Or.inr (by decide)) (?_ : Ex _ _ 8 _ _ _ _ _)
    obtain ⟨c1, h⟩ := chk_some h
    refine gt_11_5 c1 fl_RX11_99 dX11_nextOn_8 (?_ : Ex _ _ 11 _ _ _ _ _)
    rcases ite_some h with ⟨b2, h⟩ | ⟨b2, h⟩
    · refine x_icmp_ge (tgt := 87) dX11_nextOn_11 rfl b2 (?_ : Ex _ _ 87 _ _ _ _ _)
      refine x_aload_n dX11_nextOn_87 rfl rfl (Or.inr (by decide)) (?_ : Ex _ _ 88 _ _ _ _ _)
      cases h
      exact x_ret dX11_nextOn_88 (by decide : (10 : Int) ≠ 3)
    · refine x_icmp_geN dX11_nextOn_11 (by decide) b2 (?_ : Ex _ _ 14 _ _ _ _ _)
      refine x_aload_n dX11_nextOn_14 rfl rfl (Or.inr (by decide)) (?_ : Ex _ _ 15 _ _ _ _ _)
      refine gt_11_1 c1 fl_RX11_17 dX11_nextOn_15 (?_ : Ex _ _ 18 _ _ _ _ _)
      refine x_iload dX11_nextOn_18 rfl (?_ : Ex _ _ 20 _ _ _ _ _)
      obtain ⟨⟨c3, c4, c5⟩, h⟩ := chk_some h
      refine ad_10_10 c3 c4 c5 dX11_nextOn_20 (?_ : Ex _ _ 21 _ _ _ _ _)
      obtain ⟨c6, h⟩ := chk_some h
      refine gt_10_6 c6 fl_RX11_120 dX11_nextOn_21 (?_ : Ex _ _ 24 _ _ _ _ _)
      refine x_astore (ls2 := [(21, l0), (16, l1), (0, l2), (10, l3), (0, l4), (17, m (m (m l0 1) l4) 6), (3, 0), (3, 0)]) dX11_nextOn_24 (Nat.le_of_ble_eq_true rfl) (Or.inr (by decide)) rfl (?_ : Ex _ _ 26 _ _ _ _ _)
      refine x_iconst dX11_nextOn_26 rfl (by decide) (?_ : Ex _ _ 27 _ _ _ _ _)
      refine x_istore (ls2 := [(21, l0), (16, l1), (0, l2), (10, l3), (0, l4), (17, m (m (m l0 1) l4) 6), (0, 0), (3, 0)]) dX11_nextOn_27 (Nat.le_of_ble_eq_true rfl) rfl (?_ : Ex _ _ 29 _ _ _ _ _)
      exact e_X11_nextOn_29 d ih fuel9 h
theorem e_X11_nextOn_0 (d : Nat) {l0 l1 l2 : Int} {m : Mem} {v : Int} {m' : Mem} (h : X11_nextOn_0 l0 l1 l2 m = some (v, m')) : Ex (d + 2) fm_X11_nextOn 0 [(21, l0), (16, l1), (0, l2), (3, 0), (3, 0), (3, 0), (3, 0), (3, 0)] [] m (.inl (10, v)) m' := by
  unfold X11_nextOn_0 at h
  refine x_null 10 (by decide) dX11_nextOn_0 (?_ : Ex _ _ 1 _ _ _ _ _)
  refine x_astore_n (ls2 := [(21, l0), (16, l1), (0, l2), (10, 0), (3, 0), (3, 0), (3, 0), (3, 0)]) dX11_nextOn_1 rfl (Nat.le_of_ble_eq_true rfl) (Or.inr (by decide)) rfl (?_ : Ex _ _ 2 _ _ _ _ _)
  refine x_iconst dX11_nextOn_2 rfl (by decide) (?_ : Ex _ _ 3 _ _ _ _ _)
  refine x_istore (ls2 := [(21, l0), (16, l1), (0, l2), (10, 0), (0, 0), (3, 0), (3, 0), (3, 0)]) dX11_nextOn_3 (Nat.le_of_ble_eq_true rfl) rfl (?_ : Ex _ _ 5 _ _ _ _ _)
  exact e_X11_nextOn_5 d fuel9 h
theorem e_X11_nextOn (d : Nat) {a0 a1 a2 : Int} {m : Mem} {v : Int} {m' : Mem} (h : X11_nextOn a0 a1 a2 m = some (v, m')) : ExM (d + 2) fm_X11_nextOn [(21, a0), (16, a1), (0, a2)] m (.inl (10, v)) m' := by
  exact ExM.of (by decide +kernel) (Nat.le_of_ble_eq_true rfl) (cat9 rfl) (retR (by decide)) (e_X11_nextOn_0 d h)
theorem dX11_take_0 : decode cX11_take 0 = .ok (.aload_n 0, 1) := by decide +kernel
theorem dX11_take_1 : decode cX11_take 1 = .ok (.iload_n 1, 1) := by decide +kernel
theorem dX11_take_2 : decode cX11_take 2 = .ok (.invokevirtual 181, 3) := by decide +kernel
theorem dX11_take_5 : decode cX11_take 5 = .ok (.astore_n 3, 1) := by decide +kernel
theorem dX11_take_6 : decode cX11_take 6 = .ok (.aload_n 0, 1) := by decide +kernel
theorem dX11_take_7 : decode cX11_take 7 = .ok (.iload_n 2, 1) := by decide +kernel
theorem dX11_take_8 : decode cX11_take 8 = .ok (.invokevirtual 172, 3) := by decide +kernel
theorem dX11_take_11 : decode cX11_take 11 = .ok (.astore 4, 2) := by decide +kernel
theorem dX11_take_13 : decode cX11_take 13 = .ok (.aload_n 3, 1) := by decide +kernel
theorem dX11_take_14 : decode cX11_take 14 = .ok (.getfield 185, 3) := by decide +kernel
theorem dX11_take_17 : decode cX11_take 17 = .ok (.ifCond .eq 10, 3) := by decide +kernel
theorem dX11_take_20 : decode cX11_take 20 = .ok (.aload_n 3, 1) := by decide +kernel
theorem dX11_take_21 : decode cX11_take 21 = .ok (.getfield 189, 3) := by decide +kernel
theorem dX11_take_24 : decode cX11_take 24 = .ok (.ifnull 13, 3) := by decide +kernel
theorem dX11_take_27 : decode cX11_take 27 = .ok (.new 71, 3) := by decide +kernel
theorem dX11_take_30 : decode cX11_take 30 = .ok (.dup, 1) := by decide +kernel
theorem dX11_take_31 : decode cX11_take 31 = .ok (.ldc 193, 2) := by decide +kernel
theorem dX11_take_33 : decode cX11_take 33 = .ok (.invokespecial 75, 3) := by decide +kernel
theorem dX11_take_36 : decode cX11_take 36 = .ok (.athrow, 1) := by decide +kernel
theorem dX11_take_37 : decode cX11_take 37 = .ok (.aload 4, 2) := by decide +kernel
theorem dX11_take_39 : decode cX11_take 39 = .ok (.getfield 195, 3) := by decide +kernel
theorem dX11_take_42 : decode cX11_take 42 = .ok (.aload 4, 2) := by decide +kernel
theorem dX11_take_44 : decode cX11_take 44 = .ok (.getfield 178, 3) := by decide +kernel
theorem dX11_take_47 : decode cX11_take 47 = .ok (.if_icmp .lt 5, 3) := by decide +kernel
theorem dX11_take_50 : decode cX11_take 50 = .ok (.iconst (-1), 1) := by decide +kernel
theorem dX11_take_51 : decode cX11_take 51 = .ok (.ireturn, 1) := by decide +kernel
theorem dX11_take_52 : decode cX11_take 52 = .ok (.aload_n 0, 1) := by decide +kernel
theorem dX11_take_53 : decode cX11_take 53 = .ok (.aload 4, 2) := by decide +kernel
theorem dX11_take_55 : decode cX11_take 55 = .ok (.iload_n 2, 1) := by decide +kernel
theorem dX11_take_56 : decode cX11_take 56 = .ok (.invokevirtual 198, 3) := by decide +kernel
theorem dX11_take_59 : decode cX11_take 59 = .ok (.astore 5, 2) := by decide +kernel
theorem dX11_take_61 : decode cX11_take 61 = .ok (.aload 5, 2) := by decide +kernel
theorem dX11_take_63 : decode cX11_take 63 = .ok (.ifnonnull 5, 3) := by decide +kernel
theorem dX11_take_66 : decode cX11_take 66 = .ok (.iconst (-1), 1) := by decide +kernel
theorem dX11_take_67 : decode cX11_take 67 = .ok (.ireturn, 1) := by decide +kernel
theorem dX11_take_68 : decode cX11_take 68 = .ok (.aload 4, 2) := by decide +kernel
theorem dX11_take_70 : decode cX11_take 70 = .ok (.aload 5, 2) := by decide +kernel
theorem dX11_take_72 : decode cX11_take 72 = .ok (.getfield 202, 3) := by decide +kernel
theorem dX11_take_75 : decode cX11_take 75 = .ok (.invokevirtual 207, 3) := by decide +kernel
theorem dX11_take_78 : decode cX11_take 78 = .ok (.aload 5, 2) := by decide +kernel
theorem dX11_take_80 : decode cX11_take 80 = .ok (.aload_n 0, 1) := by decide +kernel
theorem dX11_take_81 : decode cX11_take 81 = .ok (.getfield 211, 3) := by decide +kernel
theorem dX11_take_84 : decode cX11_take 84 = .ok (.bipush 10, 2) := by decide +kernel
theorem dX11_take_86 : decode cX11_take 86 = .ok (.iadd, 1) := by decide +kernel
theorem dX11_take_87 : decode cX11_take 87 = .ok (.invokevirtual 214, 3) := by decide +kernel
theorem dX11_take_90 : decode cX11_take 90 = .ok (.aload_n 3, 1) := by decide +kernel
theorem dX11_take_91 : decode cX11_take 91 = .ok (.aload 5, 2) := by decide +kernel
theorem dX11_take_93 : decode cX11_take 93 = .ok (.putfield 189, 3) := by decide +kernel
theorem dX11_take_96 : decode cX11_take 96 = .ok (.aload 5, 2) := by decide +kernel
theorem dX11_take_98 : decode cX11_take 98 = .ok (.getfield 217, 3) := by decide +kernel
theorem dX11_take_101 : decode cX11_take 101 = .ok (.ireturn, 1) := by decide +kernel
theorem e_X11_take_0 (d : Nat) {l0 l1 l2 : Int} {m : Mem} {e v : Int} {m' : Mem} (h : X11_take_0 l0 l1 l2 m = some (e, v, m')) : Ex (d + 3) fm_X11_take 0 [(21, l0), (0, l1), (0, l2), (3, 0), (3, 0), (3, 0)] [] m (rr9 0 e v) m' := by
  unfold X11_take_0 at h
  refine x_aload_n dX11_take_0 rfl rfl (Or.inr (by decide)) (?_ : Ex _ _ 1 _ _ _ _ _)
  refine x_iload_n dX11_take_1 rfl rfl (?_ : Ex _ _ 2 _ _ _ _ _)
  obtain ⟨c1, h⟩ := chk_some h
  rcases calX_some h with ⟨v2, m3, g4, h⟩ | ⟨e29, v2, m3, x28, g4, h⟩
  · refine cV1 (e_X11_handOf (d + 1) g4) (cont0 (by decide) (?_ : Ex _ _ 5 _ _ _ _ _)) og_X11_handOf rfl ml_RX11_181 11 rfl rfl c1 im_X11_handOf se_X11_handOf (Nat.le_of_ble_eq_true rfl) dX11_take_2
    refine x_astore_n (ls2 := [(21, l0), (0, l1), (0, l2), (19, v2), (3, 0), (3, 0)]) dX11_take_5 rfl (Nat.le_of_ble_eq_true rfl) (Or.inr (by decide)) rfl (?_ : Ex _ _ 6 _ _ _ _ _)
    refine x_aload_n dX11_take_6 rfl rfl (Or.inr (by decide)) (?_ : Ex _ _ 7 _ _ _ _ _)
    refine x_iload_n dX11_take_7 rfl rfl (?_ : Ex _ _ 8 _ _ _ _ _)
    rcases calX_some h with ⟨v5, m6, g7, h⟩ | ⟨e27, v5, m6, x26, g7, h⟩
    · refine cV1 (e_X11_lineOf d g7) (cont0 (by decide) (?_ : Ex _ _ 11 _ _ _ _ _)) og_X11_lineOf rfl ml_RX11_172 11 rfl rfl c1 im_X11_lineOf se_X11_lineOf (Nat.le_of_ble_eq_true rfl) dX11_take_8
      refine x_astore (ls2 := [(21, l0), (0, l1), (0, l2), (19, v2), (16, v5), (3, 0)]) dX11_take_11 (Nat.le_of_ble_eq_true rfl) (Or.inr (by decide)) rfl (?_ : Ex _ _ 13 _ _ _ _ _)
      refine x_aload_n dX11_take_13 rfl rfl (Or.inr (by decide)) (?_ : Ex _ _ 14 _ _ _ _ _)
      obtain ⟨c8, h⟩ := chk_some h
      refine gt_9_0 c8 fl_RX11_185 dX11_take_14 (?_ : Ex _ _ 17 _ _ _ _ _)
      rcases ite_some h with ⟨b9, h⟩ | ⟨b9, h⟩
      · refine x_if_eq (tgt := 27) dX11_take_17 rfl b9 (?_ : Ex _ _ 27 _ _ _ _ _)
        cases h
        exact y_throw (by decide) to_RX11_71_193 rfl (Nat.le_of_ble_eq_true rfl) dX11_take_27 dX11_take_30 dX11_take_31 dX11_take_33 dX11_take_36 rfl rfl rfl rfl
      · refine x_if_eqN dX11_take_17 (by decide) b9 (?_ : Ex _ _ 20 _ _ _ _ _)
        refine x_aload_n dX11_take_20 rfl rfl (Or.inr (by decide)) (?_ : Ex _ _ 21 _ _ _ _ _)
        refine gt_9_1 c8 fl_RX11_189 dX11_take_21 (?_ : Ex _ _ 24 _ _ _ _ _)
        rcases ite_some h with ⟨b10, h⟩ | ⟨b10, h⟩
        · refine y_ifnull (tgt := 37) (by decide) b10 dX11_take_24 rfl (?_ : Ex _ _ 37 _ _ _ _ _)
          refine x_aload dX11_take_37 rfl (Or.inr (by decide)) (?_ : Ex _ _ 39 _ _ _ _ _)
          obtain ⟨c11, h⟩ := chk_some h
          refine gt_6_2 c11 fl_RX11_195 dX11_take_39 (?_ : Ex _ _ 42 _ _ _ _ _)
          refine x_aload dX11_take_42 rfl (Or.inr (by decide)) (?_ : Ex _ _ 44 _ _ _ _ _)
          refine gt_6_1 c11 fl_RX11_178 dX11_take_44 (?_ : Ex _ _ 47 _ _ _ _ _)
          rcases ite_some h with ⟨b12, h⟩ | ⟨b12, h⟩
          · refine x_icmp_lt (tgt := 52) dX11_take_47 rfl b12 (?_ : Ex _ _ 52 _ _ _ _ _)
            refine x_aload_n dX11_take_52 rfl rfl (Or.inr (by decide)) (?_ : Ex _ _ 53 _ _ _ _ _)
            refine x_aload dX11_take_53 rfl (Or.inr (by decide)) (?_ : Ex _ _ 55 _ _ _ _ _)
            refine x_iload_n dX11_take_55 rfl rfl (?_ : Ex _ _ 56 _ _ _ _ _)
            obtain ⟨v13, m14, g15, h⟩ := cal_some h
            refine cV2 (e_X11_nextOn d g15) (contN (by decide) (?_ : Ex _ _ 59 _ _ _ _ _)) og_X11_nextOn rfl ml_RX11_198 11 rfl rfl c1 im_X11_nextOn se_X11_nextOn (Nat.le_of_ble_eq_true rfl) dX11_take_56
            refine x_astore (ls2 := [(21, l0), (0, l1), (0, l2), (19, v2), (16, v5), (10, v13)]) dX11_take_59 (Nat.le_of_ble_eq_true rfl) (Or.inr (by decide)) rfl (?_ : Ex _ _ 61 _ _ _ _ _)
            refine x_aload dX11_take_61 rfl (Or.inr (by decide)) (?_ : Ex _ _ 63 _ _ _ _ _)
            rcases ite_some h with ⟨b16, h⟩ | ⟨b16, h⟩
            · refine y_ifnonnullN (by decide) b16 dX11_take_63 (?_ : Ex _ _ 66 _ _ _ _ _)
              refine x_iconst dX11_take_66 rfl (by decide) (?_ : Ex _ _ 67 _ _ _ _ _)
              cases h
              exact y_retX dX11_take_67 (by decide)
            · refine x_ifnonnull (tgt := 68) (by decide) b16 dX11_take_63 rfl (?_ : Ex _ _ 68 _ _ _ _ _)
              refine x_aload dX11_take_68 rfl (Or.inr (by decide)) (?_ : Ex _ _ 70 _ _ _ _ _)
              refine x_aload dX11_take_70 rfl (Or.inr (by decide)) (?_ : Ex _ _ 72 _ _ _ _ _)
              obtain ⟨c17, h⟩ := chk_some h
              refine gt_0_3 c17 fl_RX11_202 dX11_take_72 (?_ : Ex _ _ 75 _ _ _ _ _)
              obtain ⟨v18, m19, g20, h⟩ := cal_some h
              refine cV1 (e_X6_countTaken (d + 2) g20) (contV (?_ : Ex _ _ 78 _ _ _ _ _)) og_X6_countTaken rfl ml_RX11_207 6 rfl rfl c11 im_X6_countTaken se_X6_countTaken (Nat.le_of_ble_eq_true rfl) dX11_take_75
              refine x_aload dX11_take_78 rfl (Or.inr (by decide)) (?_ : Ex _ _ 80 _ _ _ _ _)
              refine x_aload_n dX11_take_80 rfl rfl (Or.inr (by decide)) (?_ : Ex _ _ 81 _ _ _ _ _)
              refine gt_11_7 c1 fl_RX11_211 dX11_take_81 (?_ : Ex _ _ 84 _ _ _ _ _)
              refine x_bipush dX11_take_84 kb_10 (by decide) (?_ : Ex _ _ 86 _ _ _ _ _)
              obtain ⟨c21, h⟩ := chk_some h
              refine x_iadd dX11_take_86 c21 (?_ : Ex _ _ 87 _ _ _ _ _)
              obtain ⟨v22, m23, g24, h⟩ := cal_some h
              refine cV1 (e_X0_lease (d + 2) g24) (contV (?_ : Ex _ _ 90 _ _ _ _ _)) og_X0_lease rfl ml_RX11_214 0 rfl rfl c17 im_X0_lease se_X0_lease (Nat.le_of_ble_eq_true rfl) dX11_take_87
              refine x_aload_n dX11_take_90 rfl rfl (Or.inr (by decide)) (?_ : Ex _ _ 91 _ _ _ _ _)
              refine x_aload dX11_take_91 rfl (Or.inr (by decide)) (?_ : Ex _ _ 93 _ _ _ _ _)
              obtain ⟨m25, hm25, h⟩ := st_some h
              refine pt_9_1  c8 fl_RX11_189 dX11_take_93 (?_ : Ex _ _ 96 _ _ _ _ _)
              rw [← hm25]
              refine x_aload dX11_take_96 rfl (Or.inr (by decide)) (?_ : Ex _ _ 98 _ _ _ _ _)
              refine gt_0_5 c17 fl_RX11_217 dX11_take_98 (?_ : Ex _ _ 101 _ _ _ _ _)
              cases h
              exact y_retX dX11_take_101 (by decide)
          · refine x_icmp_ltN dX11_take_47 (by decide) b12 (?_ : Ex _ _ 50 _ _ _ _ _)
            refine x_iconst dX11_take_50 rfl (by decide) (?_ : Ex _ _ 51 _ _ _ _ _)
            cases h
            exact y_retX dX11_take_51 (by decide)
        · refine x_ifnullN (by decide) b10 dX11_take_24 (?_ : Ex _ _ 27 _ _ _ _ _)
          cases h
          exact y_throw (by decide) to_RX11_71_193 rfl (Nat.le_of_ble_eq_true rfl) dX11_take_27 dX11_take_30 dX11_take_31 dX11_take_33 dX11_take_36 rfl rfl rfl rfl
    · cases h
      exact cV1 (e_X11_lineOf d g7) (contE x26 rfl) og_X11_lineOf rfl ml_RX11_172 11 rfl rfl c1 im_X11_lineOf se_X11_lineOf (Nat.le_of_ble_eq_true rfl) dX11_take_8
  · cases h
    exact cV1 (e_X11_handOf (d + 1) g4) (contE x28 rfl) og_X11_handOf rfl ml_RX11_181 11 rfl rfl c1 im_X11_handOf se_X11_handOf (Nat.le_of_ble_eq_true rfl) dX11_take_2
theorem e_X11_take (d : Nat) {a0 a1 a2 : Int} {m : Mem} {e v : Int} {m' : Mem} (h : X11_take a0 a1 a2 m = some (e, v, m')) : ExM (d + 3) fm_X11_take [(21, a0), (0, a1), (0, a2)] m (rr9 0 e v) m' := by
  exact ExM.of (by decide +kernel) (Nat.le_of_ble_eq_true rfl) (cat9 rfl) retIX (e_X11_take_0 d h)
theorem dX11_has_0 : decode cX11_has 0 = .ok (.aload_n 0, 1) := by decide +kernel
theorem dX11_has_1 : decode cX11_has 1 = .ok (.iload_n 1, 1) := by decide +kernel
theorem dX11_has_2 : decode cX11_has 2 = .ok (.invokevirtual 181, 3) := by decide +kernel
theorem dX11_has_5 : decode cX11_has 5 = .ok (.getfield 189, 3) := by decide +kernel
theorem dX11_has_8 : decode cX11_has 8 = .ok (.astore_n 2, 1) := by decide +kernel
theorem dX11_has_9 : decode cX11_has 9 = .ok (.aload_n 2, 1) := by decide +kernel
theorem dX11_has_10 : decode cX11_has 10 = .ok (.ifnonnull 7, 3) := by decide +kernel
theorem dX11_has_13 : decode cX11_has 13 = .ok (.iconst (-1), 1) := by decide +kernel
theorem dX11_has_14 : decode cX11_has 14 = .ok (.goto 7, 3) := by decide +kernel
theorem dX11_has_17 : decode cX11_has 17 = .ok (.aload_n 2, 1) := by decide +kernel
theorem dX11_has_18 : decode cX11_has 18 = .ok (.getfield 217, 3) := by decide +kernel
theorem dX11_has_21 : decode cX11_has 21 = .ok (.ireturn, 1) := by decide +kernel
theorem e_X11_has_0 (d : Nat) {l0 l1 : Int} {m : Mem} {e v : Int} {m' : Mem} (h : X11_has_0 l0 l1 m = some (e, v, m')) : Ex (d + 2) fm_X11_has 0 [(21, l0), (0, l1), (3, 0)] [] m (rr9 0 e v) m' := by
  unfold X11_has_0 at h
  refine x_aload_n dX11_has_0 rfl rfl (Or.inr (by decide)) (?_ : Ex _ _ 1 _ _ _ _ _)
  refine x_iload_n dX11_has_1 rfl rfl (?_ : Ex _ _ 2 _ _ _ _ _)
  obtain ⟨c1, h⟩ := chk_some h
  rcases calX_some h with ⟨v2, m3, g4, h⟩ | ⟨e9, v2, m3, x8, g4, h⟩
  · refine cV1 (e_X11_handOf d g4) (cont0 (by decide) (?_ : Ex _ _ 5 _ _ _ _ _)) og_X11_handOf rfl ml_RX11_181 11 rfl rfl c1 im_X11_handOf se_X11_handOf (Nat.le_of_ble_eq_true rfl) dX11_has_2
    obtain ⟨c5, h⟩ := chk_some h
    refine gt_9_1 c5 fl_RX11_189 dX11_has_5 (?_ : Ex _ _ 8 _ _ _ _ _)
    refine x_astore_n (ls2 := [(21, l0), (0, l1), (10, m3 v2 1)]) dX11_has_8 rfl (Nat.le_of_ble_eq_true rfl) (Or.inr (by decide)) rfl (?_ : Ex _ _ 9 _ _ _ _ _)
    refine x_aload_n dX11_has_9 rfl rfl (Or.inr (by decide)) (?_ : Ex _ _ 10 _ _ _ _ _)
    rcases ite_some h with ⟨b6, h⟩ | ⟨b6, h⟩
    · refine y_ifnonnullN (by decide) b6 dX11_has_10 (?_ : Ex _ _ 13 _ _ _ _ _)
      refine x_iconst dX11_has_13 rfl (by decide) (?_ : Ex _ _ 14 _ _ _ _ _)
      refine x_goto (tgt := 21) dX11_has_14 rfl (?_ : Ex _ _ 21 _ _ _ _ _)
      cases h
      exact y_retX dX11_has_21 (by decide)
    · refine x_ifnonnull (tgt := 17) (by decide) b6 dX11_has_10 rfl (?_ : Ex _ _ 17 _ _ _ _ _)
      refine x_aload_n dX11_has_17 rfl rfl (Or.inr (by decide)) (?_ : Ex _ _ 18 _ _ _ _ _)
      obtain ⟨c7, h⟩ := chk_some h
      refine gt_0_5 c7 fl_RX11_217 dX11_has_18 (?_ : Ex _ _ 21 _ _ _ _ _)
      cases h
      exact y_retX dX11_has_21 (by decide)
  · cases h
    exact cV1 (e_X11_handOf d g4) (contE x8 rfl) og_X11_handOf rfl ml_RX11_181 11 rfl rfl c1 im_X11_handOf se_X11_handOf (Nat.le_of_ble_eq_true rfl) dX11_has_2
theorem e_X11_has (d : Nat) {a0 a1 : Int} {m : Mem} {e v : Int} {m' : Mem} (h : X11_has a0 a1 m = some (e, v, m')) : ExM (d + 2) fm_X11_has [(21, a0), (0, a1)] m (rr9 0 e v) m' := by
  exact ExM.of (by decide +kernel) (Nat.le_of_ble_eq_true rfl) (cat9 rfl) retIX (e_X11_has_0 d h)
theorem dX11_activityOf_0 : decode cX11_activityOf 0 = .ok (.aload_n 0, 1) := by decide +kernel
theorem dX11_activityOf_1 : decode cX11_activityOf 1 = .ok (.getfield 189, 3) := by decide +kernel
theorem dX11_activityOf_4 : decode cX11_activityOf 4 = .ok (.ifnonnull 14, 3) := by decide +kernel
theorem dX11_activityOf_7 : decode cX11_activityOf 7 = .ok (.new 71, 3) := by decide +kernel
theorem dX11_activityOf_10 : decode cX11_activityOf 10 = .ok (.dup, 1) := by decide +kernel
theorem dX11_activityOf_11 : decode cX11_activityOf 11 = .ok (.ldc_w 336, 3) := by decide +kernel
theorem dX11_activityOf_14 : decode cX11_activityOf 14 = .ok (.invokespecial 75, 3) := by decide +kernel
theorem dX11_activityOf_17 : decode cX11_activityOf 17 = .ok (.athrow, 1) := by decide +kernel
theorem dX11_activityOf_18 : decode cX11_activityOf 18 = .ok (.aload_n 0, 1) := by decide +kernel
theorem dX11_activityOf_19 : decode cX11_activityOf 19 = .ok (.getfield 189, 3) := by decide +kernel
theorem dX11_activityOf_22 : decode cX11_activityOf 22 = .ok (.areturn, 1) := by decide +kernel
theorem e_X11_activityOf_0 (d : Nat) {l0 : Int} {m : Mem} {e v : Int} {m' : Mem} (h : X11_activityOf_0 l0 m = some (e, v, m')) : Ex d fm_X11_activityOf 0 [(19, l0)] [] m (rr9 10 e v) m' := by
  unfold X11_activityOf_0 at h
  refine x_aload_n dX11_activityOf_0 rfl rfl (Or.inr (by decide)) (?_ : Ex _ _ 1 _ _ _ _ _)
  obtain ⟨c1, h⟩ := chk_some h
  refine gt_9_1 c1 fl_RX11_189 dX11_activityOf_1 (?_ : Ex _ _ 4 _ _ _ _ _)
  rcases ite_some h with ⟨b2, h⟩ | ⟨b2, h⟩
  · refine y_ifnonnullN (by decide) b2 dX11_activityOf_4 (?_ : Ex _ _ 7 _ _ _ _ _)
    cases h
    exact y_throwW (by decide) to_RX11_71_336 rfl (Nat.le_of_ble_eq_true rfl) dX11_activityOf_7 dX11_activityOf_10 dX11_activityOf_11 dX11_activityOf_14 dX11_activityOf_17 rfl rfl rfl rfl
  · refine x_ifnonnull (tgt := 18) (by decide) b2 dX11_activityOf_4 rfl (?_ : Ex _ _ 18 _ _ _ _ _)
    refine x_aload_n dX11_activityOf_18 rfl rfl (Or.inr (by decide)) (?_ : Ex _ _ 19 _ _ _ _ _)
    refine gt_9_1 c1 fl_RX11_189 dX11_activityOf_19 (?_ : Ex _ _ 22 _ _ _ _ _)
    cases h
    exact y_retX dX11_activityOf_22 (by decide)
theorem e_X11_activityOf (d : Nat) {a0 : Int} {m : Mem} {e v : Int} {m' : Mem} (h : X11_activityOf a0 m = some (e, v, m')) : ExM d fm_X11_activityOf [(19, a0)] m (rr9 10 e v) m' := by
  exact ExM.of (by decide +kernel) (Nat.le_of_ble_eq_true rfl) (cat9 rfl) (retRX (by decide)) (e_X11_activityOf_0 d h)
theorem dX11_beat_0 : decode cX11_beat 0 = .ok (.aload_n 0, 1) := by decide +kernel
theorem dX11_beat_1 : decode cX11_beat 1 = .ok (.iload_n 1, 1) := by decide +kernel
theorem dX11_beat_2 : decode cX11_beat 2 = .ok (.invokevirtual 181, 3) := by decide +kernel
theorem dX11_beat_5 : decode cX11_beat 5 = .ok (.invokestatic 220, 3) := by decide +kernel
theorem dX11_beat_8 : decode cX11_beat 8 = .ok (.astore_n 2, 1) := by decide +kernel
theorem dX11_beat_9 : decode cX11_beat 9 = .ok (.aload_n 2, 1) := by decide +kernel
theorem dX11_beat_10 : decode cX11_beat 10 = .ok (.aload_n 0, 1) := by decide +kernel
theorem dX11_beat_11 : decode cX11_beat 11 = .ok (.getfield 211, 3) := by decide +kernel
theorem dX11_beat_14 : decode cX11_beat 14 = .ok (.bipush 10, 2) := by decide +kernel
theorem dX11_beat_16 : decode cX11_beat 16 = .ok (.iadd, 1) := by decide +kernel
theorem dX11_beat_17 : decode cX11_beat 17 = .ok (.putfield 224, 3) := by decide +kernel
theorem dX11_beat_20 : decode cX11_beat 20 = .ok (.aload_n 2, 1) := by decide +kernel
theorem dX11_beat_21 : decode cX11_beat 21 = .ok (.getfield 224, 3) := by decide +kernel
theorem dX11_beat_24 : decode cX11_beat 24 = .ok (.ireturn, 1) := by decide +kernel
theorem e_X11_beat_0 (d : Nat) {l0 l1 : Int} {m : Mem} {e v : Int} {m' : Mem} (h : X11_beat_0 l0 l1 m = some (e, v, m')) : Ex (d + 2) fm_X11_beat 0 [(21, l0), (0, l1), (3, 0)] [] m (rr9 0 e v) m' := by
  unfold X11_beat_0 at h
  refine x_aload_n dX11_beat_0 rfl rfl (Or.inr (by decide)) (?_ : Ex _ _ 1 _ _ _ _ _)
  refine x_iload_n dX11_beat_1 rfl rfl (?_ : Ex _ _ 2 _ _ _ _ _)
  obtain ⟨c1, h⟩ := chk_some h
  rcases calX_some h with ⟨v2, m3, g4, h⟩ | ⟨e14, v2, m3, x13, g4, h⟩
  · refine cV1 (e_X11_handOf d g4) (cont0 (by decide) (?_ : Ex _ _ 5 _ _ _ _ _)) og_X11_handOf rfl ml_RX11_181 11 rfl rfl c1 im_X11_handOf se_X11_handOf (Nat.le_of_ble_eq_true rfl) dX11_beat_2
    rcases calX_some h with ⟨v5, m6, g7, h⟩ | ⟨e12, v5, m6, x11, g7, h⟩
    · refine cS1 (e_X11_activityOf (d + 1) g7) (cont0 (by decide) (?_ : Ex _ _ 8 _ _ _ _ _)) og_X11_activityOf rfl ml_RX11_220 sm_X11_activityOf (Nat.le_of_ble_eq_true rfl) dX11_beat_5
      refine x_astore_n (ls2 := [(21, l0), (0, l1), (10, v5)]) dX11_beat_8 rfl (Nat.le_of_ble_eq_true rfl) (Or.inr (by decide)) rfl (?_ : Ex _ _ 9 _ _ _ _ _)
      refine x_aload_n dX11_beat_9 rfl rfl (Or.inr (by decide)) (?_ : Ex _ _ 10 _ _ _ _ _)
      refine x_aload_n dX11_beat_10 rfl rfl (Or.inr (by decide)) (?_ : Ex _ _ 11 _ _ _ _ _)
      refine gt_11_7 c1 fl_RX11_211 dX11_beat_11 (?_ : Ex _ _ 14 _ _ _ _ _)
      refine x_bipush dX11_beat_14 kb_10 (by decide) (?_ : Ex _ _ 16 _ _ _ _ _)
      obtain ⟨c8, h⟩ := chk_some h
      refine x_iadd dX11_beat_16 c8 (?_ : Ex _ _ 17 _ _ _ _ _)
      obtain ⟨c9, h⟩ := chk_some h
      obtain ⟨m10, hm10, h⟩ := st_some h
      refine pt_0_8  c9 fl_RX11_224 dX11_beat_17 (?_ : Ex _ _ 20 _ _ _ _ _)
      rw [← hm10]
      refine x_aload_n dX11_beat_20 rfl rfl (Or.inr (by decide)) (?_ : Ex _ _ 21 _ _ _ _ _)
      refine gt_0_8 c9 fl_RX11_224 dX11_beat_21 (?_ : Ex _ _ 24 _ _ _ _ _)
      cases h
      exact y_retX dX11_beat_24 (by decide)
    · cases h
      exact cS1 (e_X11_activityOf (d + 1) g7) (contE x11 rfl) og_X11_activityOf rfl ml_RX11_220 sm_X11_activityOf (Nat.le_of_ble_eq_true rfl) dX11_beat_5
  · cases h
    exact cV1 (e_X11_handOf d g4) (contE x13 rfl) og_X11_handOf rfl ml_RX11_181 11 rfl rfl c1 im_X11_handOf se_X11_handOf (Nat.le_of_ble_eq_true rfl) dX11_beat_2
theorem e_X11_beat (d : Nat) {a0 a1 : Int} {m : Mem} {e v : Int} {m' : Mem} (h : X11_beat a0 a1 m = some (e, v, m')) : ExM (d + 2) fm_X11_beat [(21, a0), (0, a1)] m (rr9 0 e v) m' := by
  exact ExM.of (by decide +kernel) (Nat.le_of_ble_eq_true rfl) (cat9 rfl) retIX (e_X11_beat_0 d h)
theorem dX11_end_0 : decode cX11_end 0 = .ok (.aload_n 0, 1) := by decide +kernel
theorem dX11_end_1 : decode cX11_end 1 = .ok (.iload_n 1, 1) := by decide +kernel
theorem dX11_end_2 : decode cX11_end 2 = .ok (.invokevirtual 181, 3) := by decide +kernel
theorem dX11_end_5 : decode cX11_end 5 = .ok (.astore_n 3, 1) := by decide +kernel
theorem dX11_end_6 : decode cX11_end 6 = .ok (.iload_n 2, 1) := by decide +kernel
theorem dX11_end_7 : decode cX11_end 7 = .ok (.bipush (-99), 2) := by decide +kernel
theorem dX11_end_9 : decode cX11_end 9 = .ok (.bipush 99, 2) := by decide +kernel
theorem dX11_end_11 : decode cX11_end 11 = .ok (.invokestatic 89, 3) := by decide +kernel
theorem dX11_end_14 : decode cX11_end 14 = .ok (.ifCond .ne 13, 3) := by decide +kernel
theorem dX11_end_17 : decode cX11_end 17 = .ok (.new 51, 3) := by decide +kernel
theorem dX11_end_20 : decode cX11_end 20 = .ok (.dup, 1) := by decide +kernel
theorem dX11_end_21 : decode cX11_end 21 = .ok (.ldc 227, 2) := by decide +kernel
theorem dX11_end_23 : decode cX11_end 23 = .ok (.invokespecial 55, 3) := by decide +kernel
theorem dX11_end_26 : decode cX11_end 26 = .ok (.athrow, 1) := by decide +kernel
theorem dX11_end_27 : decode cX11_end 27 = .ok (.aload_n 3, 1) := by decide +kernel
theorem dX11_end_28 : decode cX11_end 28 = .ok (.invokestatic 220, 3) := by decide +kernel
theorem dX11_end_31 : decode cX11_end 31 = .ok (.astore 4, 2) := by decide +kernel
theorem dX11_end_33 : decode cX11_end 33 = .ok (.aload_n 0, 1) := by decide +kernel
theorem dX11_end_34 : decode cX11_end 34 = .ok (.aload 4, 2) := by decide +kernel
theorem dX11_end_36 : decode cX11_end 36 = .ok (.invokevirtual 229, 3) := by decide +kernel
theorem dX11_end_39 : decode cX11_end 39 = .ok (.aload 4, 2) := by decide +kernel
theorem dX11_end_41 : decode cX11_end 41 = .ok (.getfield 233, 3) := by decide +kernel
theorem dX11_end_44 : decode cX11_end 44 = .ok (.iconst 1, 1) := by decide +kernel
theorem dX11_end_45 : decode cX11_end 45 = .ok (.aload 4, 2) := by decide +kernel
theorem dX11_end_47 : decode cX11_end 47 = .ok (.getfield 236, 3) := by decide +kernel
theorem dX11_end_50 : decode cX11_end 50 = .ok (.iload_n 2, 1) := by decide +kernel
theorem dX11_end_51 : decode cX11_end 51 = .ok (.invokevirtual 124, 3) := by decide +kernel
theorem dX11_end_54 : decode cX11_end 54 = .ok (.ireturn, 1) := by decide +kernel
theorem e_X11_end_0 (d : Nat) {l0 l1 l2 : Int} {m : Mem} {e v : Int} {m' : Mem} (h : X11_end_0 l0 l1 l2 m = some (e, v, m')) : Ex (d + 2) fm_X11_end 0 [(21, l0), (0, l1), (0, l2), (3, 0), (3, 0)] [] m (rr9 0 e v) m' := by
  unfold X11_end_0 at h
  refine x_aload_n dX11_end_0 rfl rfl (Or.inr (by decide)) (?_ : Ex _ _ 1 _ _ _ _ _)
  refine x_iload_n dX11_end_1 rfl rfl (?_ : Ex _ _ 2 _ _ _ _ _)
  obtain ⟨c1, h⟩ := chk_some h
  rcases calX_some h with ⟨v2, m3, g4, h⟩ | ⟨e23, v2, m3, x22, g4, h⟩
  · refine cV1 (e_X11_handOf d g4) (cont0 (by decide) (?_ : Ex _ _ 5 _ _ _ _ _)) og_X11_handOf rfl ml_RX11_181 11 rfl rfl c1 im_X11_handOf se_X11_handOf (Nat.le_of_ble_eq_true rfl) dX11_end_2
    refine x_astore_n (ls2 := [(21, l0), (0, l1), (0, l2), (19, v2), (3, 0)]) dX11_end_5 rfl (Nat.le_of_ble_eq_true rfl) (Or.inr (by decide)) rfl (?_ : Ex _ _ 6 _ _ _ _ _)
    refine x_iload_n dX11_end_6 rfl rfl (?_ : Ex _ _ 7 _ _ _ _ _)
    refine x_bipush dX11_end_7 kb_n99 (by decide) (?_ : Ex _ _ 9 _ _ _ _ _)
    refine x_bipush dX11_end_9 kb_99 (by decide) (?_ : Ex _ _ 11 _ _ _ _ _)
    obtain ⟨v5, m6, g7, h⟩ := cal_some h
    refine cS3 (e_X11_isWithin (d + 1) g7) (contN (by decide) (?_ : Ex _ _ 14 _ _ _ _ _)) og_X11_isWithin rfl ml_RX11_89 sm_X11_isWithin (Nat.le_of_ble_eq_true rfl) dX11_end_11
    rcases ite_some h with ⟨b8, h⟩ | ⟨b8, h⟩
    · refine x_if_neN dX11_end_14 (by decide) (fun hh => hh b8) (?_ : Ex _ _ 17 _ _ _ _ _)
      cases h
      exact y_throw (by decide) to_RX11_51_227 rfl (Nat.le_of_ble_eq_true rfl) dX11_end_17 dX11_end_20 dX11_end_21 dX11_end_23 dX11_end_26 rfl rfl rfl rfl
    · refine x_if_ne (tgt := 27) dX11_end_14 rfl b8 (?_ : Ex _ _ 27 _ _ _ _ _)
      refine x_aload_n dX11_end_27 rfl rfl (Or.inr (by decide)) (?_ : Ex _ _ 28 _ _ _ _ _)
      rcases calX_some h with ⟨v9, m10, g11, h⟩ | ⟨e21, v9, m10, x20, g11, h⟩
      · refine cS1 (e_X11_activityOf (d + 1) g11) (cont0 (by decide) (?_ : Ex _ _ 31 _ _ _ _ _)) og_X11_activityOf rfl ml_RX11_220 sm_X11_activityOf (Nat.le_of_ble_eq_true rfl) dX11_end_28
        refine x_astore (ls2 := [(21, l0), (0, l1), (0, l2), (19, v2), (10, v9)]) dX11_end_31 (Nat.le_of_ble_eq_true rfl) (Or.inr (by decide)) rfl (?_ : Ex _ _ 33 _ _ _ _ _)
        refine x_aload_n dX11_end_33 rfl rfl (Or.inr (by decide)) (?_ : Ex _ _ 34 _ _ _ _ _)
        refine x_aload dX11_end_34 rfl (Or.inr (by decide)) (?_ : Ex _ _ 36 _ _ _ _ _)
        obtain ⟨v12, m13, g14, h⟩ := cal_some h
        refine cV1 (e_X11_takeOff d g14) (contV (?_ : Ex _ _ 39 _ _ _ _ _)) og_X11_takeOff rfl ml_RX11_229 11 rfl rfl c1 im_X11_takeOff se_X11_takeOff (Nat.le_of_ble_eq_true rfl) dX11_end_36
        refine x_aload dX11_end_39 rfl (Or.inr (by decide)) (?_ : Ex _ _ 41 _ _ _ _ _)
        obtain ⟨c15, h⟩ := chk_some h
        refine gt_0_0 c15 fl_RX11_233 dX11_end_41 (?_ : Ex _ _ 44 _ _ _ _ _)
        refine x_iconst dX11_end_44 rfl (by decide) (?_ : Ex _ _ 45 _ _ _ _ _)
        refine x_aload dX11_end_45 rfl (Or.inr (by decide)) (?_ : Ex _ _ 47 _ _ _ _ _)
        refine gt_0_1 c15 fl_RX11_236 dX11_end_47 (?_ : Ex _ _ 50 _ _ _ _ _)
        refine x_iload_n dX11_end_50 rfl rfl (?_ : Ex _ _ 51 _ _ _ _ _)
        obtain ⟨c16, h⟩ := chk_some h
        obtain ⟨v17, m18, g19, h⟩ := cal_some h
        refine cV3 (e_X7_happen d g19) (contN (by decide) (?_ : Ex _ _ 54 _ _ _ _ _)) og_X7_happen rfl ml_RX11_124 7 rfl rfl c16 im_X7_happen se_X7_happen (Nat.le_of_ble_eq_true rfl) dX11_end_51
        cases h
        exact y_retX dX11_end_54 (by decide)
      · cases h
        exact cS1 (e_X11_activityOf (d + 1) g11) (contE x20 rfl) og_X11_activityOf rfl ml_RX11_220 sm_X11_activityOf (Nat.le_of_ble_eq_true rfl) dX11_end_28
  · cases h
    exact cV1 (e_X11_handOf d g4) (contE x22 rfl) og_X11_handOf rfl ml_RX11_181 11 rfl rfl c1 im_X11_handOf se_X11_handOf (Nat.le_of_ble_eq_true rfl) dX11_end_2
theorem e_X11_end (d : Nat) {a0 a1 a2 : Int} {m : Mem} {e v : Int} {m' : Mem} (h : X11_end a0 a1 a2 m = some (e, v, m')) : ExM (d + 2) fm_X11_end [(21, a0), (0, a1), (0, a2)] m (rr9 0 e v) m' := by
  obtain ⟨hb, h⟩ := boolX_some h
  exact ExM.of (by decide +kernel) (Nat.le_of_ble_eq_true rfl) (cat9 rfl) (retZX hb) (e_X11_end_0 d h)
theorem dX11_loseTry_0 : decode cX11_loseTry 0 = .ok (.aload_n 1, 1) := by decide +kernel
theorem dX11_loseTry_1 : decode cX11_loseTry 1 = .ok (.getfield 240, 3) := by decide +kernel
theorem dX11_loseTry_4 : decode cX11_loseTry 4 = .ok (.iconst 3, 1) := by decide +kernel
theorem dX11_loseTry_5 : decode cX11_loseTry 5 = .ok (.if_icmp .lt 25, 3) := by decide +kernel
theorem dX11_loseTry_8 : decode cX11_loseTry 8 = .ok (.aload_n 0, 1) := by decide +kernel
theorem dX11_loseTry_9 : decode cX11_loseTry 9 = .ok (.aload_n 1, 1) := by decide +kernel
theorem dX11_loseTry_10 : decode cX11_loseTry 10 = .ok (.invokevirtual 229, 3) := by decide +kernel
theorem dX11_loseTry_13 : decode cX11_loseTry 13 = .ok (.aload_n 1, 1) := by decide +kernel
theorem dX11_loseTry_14 : decode cX11_loseTry 14 = .ok (.getfield 233, 3) := by decide +kernel
theorem dX11_loseTry_17 : decode cX11_loseTry 17 = .ok (.iconst 2, 1) := by decide +kernel
theorem dX11_loseTry_18 : decode cX11_loseTry 18 = .ok (.aload_n 1, 1) := by decide +kernel
theorem dX11_loseTry_19 : decode cX11_loseTry 19 = .ok (.getfield 236, 3) := by decide +kernel
theorem dX11_loseTry_22 : decode cX11_loseTry 22 = .ok (.iconst 0, 1) := by decide +kernel
theorem dX11_loseTry_23 : decode cX11_loseTry 23 = .ok (.invokevirtual 124, 3) := by decide +kernel
theorem dX11_loseTry_26 : decode cX11_loseTry 26 = .ok (.pop, 1) := by decide +kernel
theorem dX11_loseTry_27 : decode cX11_loseTry 27 = .ok (.goto 28, 3) := by decide +kernel
theorem dX11_loseTry_30 : decode cX11_loseTry 30 = .ok (.aload_n 0, 1) := by decide +kernel
theorem dX11_loseTry_31 : decode cX11_loseTry 31 = .ok (.aload_n 1, 1) := by decide +kernel
theorem dX11_loseTry_32 : decode cX11_loseTry 32 = .ok (.invokevirtual 441, 3) := by decide +kernel
theorem dX11_loseTry_35 : decode cX11_loseTry 35 = .ok (.aload_n 1, 1) := by decide +kernel
theorem dX11_loseTry_36 : decode cX11_loseTry 36 = .ok (.iconst 2, 1) := by decide +kernel
theorem dX11_loseTry_37 : decode cX11_loseTry 37 = .ok (.putfield 438, 3) := by decide +kernel
theorem dX11_loseTry_40 : decode cX11_loseTry 40 = .ok (.aload_n 1, 1) := by decide +kernel
theorem dX11_loseTry_41 : decode cX11_loseTry 41 = .ok (.aload_n 0, 1) := by decide +kernel
theorem dX11_loseTry_42 : decode cX11_loseTry 42 = .ok (.getfield 211, 3) := by decide +kernel
theorem dX11_loseTry_45 : decode cX11_loseTry 45 = .ok (.iconst 2, 1) := by decide +kernel
theorem dX11_loseTry_46 : decode cX11_loseTry 46 = .ok (.aload_n 1, 1) := by decide +kernel
theorem dX11_loseTry_47 : decode cX11_loseTry 47 = .ok (.getfield 240, 3) := by decide +kernel
theorem dX11_loseTry_50 : decode cX11_loseTry 50 = .ok (.imul, 1) := by decide +kernel
theorem dX11_loseTry_51 : decode cX11_loseTry 51 = .ok (.iadd, 1) := by decide +kernel
theorem dX11_loseTry_52 : decode cX11_loseTry 52 = .ok (.putfield 224, 3) := by decide +kernel
theorem dX11_loseTry_55 : decode cX11_loseTry 55 = .ok (.return_, 1) := by decide +kernel
theorem e_X11_loseTry_0 (d : Nat) {l0 l1 : Int} {m : Mem} {v : Int} {m' : Mem} (h : X11_loseTry_0 l0 l1 m = some (v, m')) : Ex (d + 2) fm_X11_loseTry 0 [(21, l0), (10, l1)] [] m (.inl (3, 0)) m' := by
  unfold X11_loseTry_0 at h
  refine x_aload_n dX11_loseTry_0 rfl rfl (Or.inr (by decide)) (?_ : Ex _ _ 1 _ _ _ _ _)
  obtain ⟨c1, h⟩ := chk_some h
  refine gt_0_9 c1 fl_RX11_240 dX11_loseTry_1 (?_ : Ex _ _ 4 _ _ _ _ _)
  refine x_iconst dX11_loseTry_4 rfl (by decide) (?_ : Ex _ _ 5 _ _ _ _ _)
  rcases ite_some h with ⟨b2, h⟩ | ⟨b2, h⟩
  · refine x_icmp_lt (tgt := 30) dX11_loseTry_5 rfl b2 (?_ : Ex _ _ 30 _ _ _ _ _)
    refine x_aload_n dX11_loseTry_30 rfl rfl (Or.inr (by decide)) (?_ : Ex _ _ 31 _ _ _ _ _)
    refine x_aload_n dX11_loseTry_31 rfl rfl (Or.inr (by decide)) (?_ : Ex _ _ 32 _ _ _ _ _)
    obtain ⟨c3, h⟩ := chk_some h
    obtain ⟨v4, m5, g6, h⟩ := cal_some h
    refine cV1 (e_X11_freeHandsOf (d + 1) g6) (contV (?_ : Ex _ _ 35 _ _ _ _ _)) og_X11_freeHandsOf rfl ml_RX11_441 11 rfl rfl c3 im_X11_freeHandsOf se_X11_freeHandsOf (Nat.le_of_ble_eq_true rfl) dX11_loseTry_32
    refine x_aload_n dX11_loseTry_35 rfl rfl (Or.inr (by decide)) (?_ : Ex _ _ 36 _ _ _ _ _)
    refine x_iconst dX11_loseTry_36 rfl (by decide) (?_ : Ex _ _ 37 _ _ _ _ _)
    obtain ⟨m7, hm7, h⟩ := st_some h
    refine pt_0_6  c1 fl_RX11_438 dX11_loseTry_37 (?_ : Ex _ _ 40 _ _ _ _ _)
    rw [← hm7]
    refine x_aload_n dX11_loseTry_40 rfl rfl (Or.inr (by decide)) (?_ : Ex _ _ 41 _ _ _ _ _)
    refine x_aload_n dX11_loseTry_41 rfl rfl (Or.inr (by decide)) (?_ : Ex _ _ 42 _ _ _ _ _)
    refine gt_11_7 c3 fl_RX11_211 dX11_loseTry_42 (?_ : Ex _ _ 45 _ _ _ _ _)
    refine x_iconst dX11_loseTry_45 rfl (by decide) (?_ : Ex _ _ 46 _ _ _ _ _)
    refine x_aload_n dX11_loseTry_46 rfl rfl (Or.inr (by decide)) (?_ : Ex _ _ 47 _ _ _ _ _)
    refine gt_0_9 c1 fl_RX11_240 dX11_loseTry_47 (?_ : Ex _ _ 50 _ _ _ _ _)
    obtain ⟨c8, h⟩ := chk_some h
    refine x_imul dX11_loseTry_50 c8 (?_ : Ex _ _ 51 _ _ _ _ _)
    obtain ⟨c9, h⟩ := chk_some h
    refine x_iadd dX11_loseTry_51 c9 (?_ : Ex _ _ 52 _ _ _ _ _)
    obtain ⟨m10, hm10, h⟩ := st_some h
    refine pt_0_8  c1 fl_RX11_224 dX11_loseTry_52 (?_ : Ex _ _ 55 _ _ _ _ _)
    rw [← hm10]
    cases h
    exact x_retv dX11_loseTry_55
  · refine x_icmp_ltN dX11_loseTry_5 (by decide) b2 (?_ : Ex _ _ 8 _ _ _ _ _)
    refine x_aload_n dX11_loseTry_8 rfl rfl (Or.inr (by decide)) (?_ : Ex _ _ 9 _ _ _ _ _)
    refine x_aload_n dX11_loseTry_9 rfl rfl (Or.inr (by decide)) (?_ : Ex _ _ 10 _ _ _ _ _)
    obtain ⟨c11, h⟩ := chk_some h
    obtain ⟨v12, m13, g14, h⟩ := cal_some h
    refine cV1 (e_X11_takeOff d g14) (contV (?_ : Ex _ _ 13 _ _ _ _ _)) og_X11_takeOff rfl ml_RX11_229 11 rfl rfl c11 im_X11_takeOff se_X11_takeOff (Nat.le_of_ble_eq_true rfl) dX11_loseTry_10
    refine x_aload_n dX11_loseTry_13 rfl rfl (Or.inr (by decide)) (?_ : Ex _ _ 14 _ _ _ _ _)
    refine gt_0_0 c1 fl_RX11_233 dX11_loseTry_14 (?_ : Ex _ _ 17 _ _ _ _ _)
    refine x_iconst dX11_loseTry_17 rfl (by decide) (?_ : Ex _ _ 18 _ _ _ _ _)
    refine x_aload_n dX11_loseTry_18 rfl rfl (Or.inr (by decide)) (?_ : Ex _ _ 19 _ _ _ _ _)
    refine gt_0_1 c1 fl_RX11_236 dX11_loseTry_19 (?_ : Ex _ _ 22 _ _ _ _ _)
    refine x_iconst dX11_loseTry_22 rfl (by decide) (?_ : Ex _ _ 23 _ _ _ _ _)
    obtain ⟨c15, h⟩ := chk_some h
    obtain ⟨v16, m17, g18, h⟩ := cal_some h
    refine cV3 (e_X7_happen d g18) (contN (by decide) (?_ : Ex _ _ 26 _ _ _ _ _)) og_X7_happen rfl ml_RX11_124 7 rfl rfl c15 im_X7_happen se_X7_happen (Nat.le_of_ble_eq_true rfl) dX11_loseTry_23
    refine x_pop (by decide : (0 : Int) ≠ 2) dX11_loseTry_26 (?_ : Ex _ _ 27 _ _ _ _ _)
    refine x_goto (tgt := 55) dX11_loseTry_27 rfl (?_ : Ex _ _ 55 _ _ _ _ _)
    cases h
    exact x_retv dX11_loseTry_55
theorem e_X11_loseTry (d : Nat) {a0 a1 : Int} {m : Mem} {v : Int} {m' : Mem} (h : X11_loseTry a0 a1 m = some (v, m')) : ExM (d + 2) fm_X11_loseTry [(21, a0), (10, a1)] m (.inl (3, 0)) m' := by
  exact ExM.of (by decide +kernel) (Nat.le_of_ble_eq_true rfl) (cat9 rfl) retV (e_X11_loseTry_0 d h)
theorem dX11_fail_0 : decode cX11_fail 0 = .ok (.aload_n 0, 1) := by decide +kernel
theorem dX11_fail_1 : decode cX11_fail 1 = .ok (.iload_n 1, 1) := by decide +kernel
theorem dX11_fail_2 : decode cX11_fail 2 = .ok (.invokevirtual 181, 3) := by decide +kernel
theorem dX11_fail_5 : decode cX11_fail 5 = .ok (.invokestatic 220, 3) := by decide +kernel
theorem dX11_fail_8 : decode cX11_fail 8 = .ok (.astore_n 2, 1) := by decide +kernel
theorem dX11_fail_9 : decode cX11_fail 9 = .ok (.aload_n 0, 1) := by decide +kernel
theorem dX11_fail_10 : decode cX11_fail 10 = .ok (.aload_n 2, 1) := by decide +kernel
theorem dX11_fail_11 : decode cX11_fail 11 = .ok (.invokevirtual 237, 3) := by decide +kernel
theorem dX11_fail_14 : decode cX11_fail 14 = .ok (.aload_n 2, 1) := by decide +kernel
theorem dX11_fail_15 : decode cX11_fail 15 = .ok (.getfield 240, 3) := by decide +kernel
theorem dX11_fail_18 : decode cX11_fail 18 = .ok (.ireturn, 1) := by decide +kernel
theorem e_X11_fail_0 (d : Nat) {l0 l1 : Int} {m : Mem} {e v : Int} {m' : Mem} (h : X11_fail_0 l0 l1 m = some (e, v, m')) : Ex (d + 3) fm_X11_fail 0 [(21, l0), (0, l1), (3, 0)] [] m (rr9 0 e v) m' := by
  unfold X11_fail_0 at h
  refine x_aload_n dX11_fail_0 rfl rfl (Or.inr (by decide)) (?_ : Ex _ _ 1 _ _ _ _ _)
  refine x_iload_n dX11_fail_1 rfl rfl (?_ : Ex _ _ 2 _ _ _ _ _)
  obtain ⟨c1, h⟩ := chk_some h
  rcases calX_some h with ⟨v2, m3, g4, h⟩ | ⟨e15, v2, m3, x14, g4, h⟩
  · refine cV1 (e_X11_handOf (d + 1) g4) (cont0 (by decide) (?_ : Ex _ _ 5 _ _ _ _ _)) og_X11_handOf rfl ml_RX11_181 11 rfl rfl c1 im_X11_handOf se_X11_handOf (Nat.le_of_ble_eq_true rfl) dX11_fail_2
    rcases calX_some h with ⟨v5, m6, g7, h⟩ | ⟨e13, v5, m6, x12, g7, h⟩
    · refine cS1 (e_X11_activityOf (d + 2) g7) (cont0 (by decide) (?_ : Ex _ _ 8 _ _ _ _ _)) og_X11_activityOf rfl ml_RX11_220 sm_X11_activityOf (Nat.le_of_ble_eq_true rfl) dX11_fail_5
      refine x_astore_n (ls2 := [(21, l0), (0, l1), (10, v5)]) dX11_fail_8 rfl (Nat.le_of_ble_eq_true rfl) (Or.inr (by decide)) rfl (?_ : Ex _ _ 9 _ _ _ _ _)
      refine x_aload_n dX11_fail_9 rfl rfl (Or.inr (by decide)) (?_ : Ex _ _ 10 _ _ _ _ _)
      refine x_aload_n dX11_fail_10 rfl rfl (Or.inr (by decide)) (?_ : Ex _ _ 11 _ _ _ _ _)
      obtain ⟨v8, m9, g10, h⟩ := cal_some h
      refine cV1 (e_X11_loseTry d g10) (contV (?_ : Ex _ _ 14 _ _ _ _ _)) og_X11_loseTry rfl ml_RX11_237 11 rfl rfl c1 im_X11_loseTry se_X11_loseTry (Nat.le_of_ble_eq_true rfl) dX11_fail_11
      refine x_aload_n dX11_fail_14 rfl rfl (Or.inr (by decide)) (?_ : Ex _ _ 15 _ _ _ _ _)
      obtain ⟨c11, h⟩ := chk_some h
      refine gt_0_9 c11 fl_RX11_240 dX11_fail_15 (?_ : Ex _ _ 18 _ _ _ _ _)
      cases h
      exact y_retX dX11_fail_18 (by decide)
    · cases h
      exact cS1 (e_X11_activityOf (d + 2) g7) (contE x12 rfl) og_X11_activityOf rfl ml_RX11_220 sm_X11_activityOf (Nat.le_of_ble_eq_true rfl) dX11_fail_5
  · cases h
    exact cV1 (e_X11_handOf (d + 1) g4) (contE x14 rfl) og_X11_handOf rfl ml_RX11_181 11 rfl rfl c1 im_X11_handOf se_X11_handOf (Nat.le_of_ble_eq_true rfl) dX11_fail_2
theorem e_X11_fail (d : Nat) {a0 a1 : Int} {m : Mem} {e v : Int} {m' : Mem} (h : X11_fail a0 a1 m = some (e, v, m')) : ExM (d + 3) fm_X11_fail [(21, a0), (0, a1)] m (rr9 0 e v) m' := by
  exact ExM.of (by decide +kernel) (Nat.le_of_ble_eq_true rfl) (cat9 rfl) retIX (e_X11_fail_0 d h)
theorem dX11_run_0 : decode cX11_run 0 = .ok (.aload_n 0, 1) := by decide +kernel
theorem dX11_run_1 : decode cX11_run 1 = .ok (.iload_n 1, 1) := by decide +kernel
theorem dX11_run_2 : decode cX11_run 2 = .ok (.invokevirtual 181, 3) := by decide +kernel
theorem dX11_run_5 : decode cX11_run 5 = .ok (.astore_n 3, 1) := by decide +kernel
theorem dX11_run_6 : decode cX11_run 6 = .ok (.aload_n 3, 1) := by decide +kernel
theorem dX11_run_7 : decode cX11_run 7 = .ok (.getfield 189, 3) := by decide +kernel
theorem dX11_run_10 : decode cX11_run 10 = .ok (.ifnull 7, 3) := by decide +kernel
theorem dX11_run_13 : decode cX11_run 13 = .ok (.iconst 1, 1) := by decide +kernel
theorem dX11_run_14 : decode cX11_run 14 = .ok (.goto 4, 3) := by decide +kernel
theorem dX11_run_17 : decode cX11_run 17 = .ok (.iconst 0, 1) := by decide +kernel
theorem dX11_run_18 : decode cX11_run 18 = .ok (.istore 4, 2) := by decide +kernel
theorem dX11_run_20 : decode cX11_run 20 = .ok (.aload_n 3, 1) := by decide +kernel
theorem dX11_run_21 : decode cX11_run 21 = .ok (.iload_n 2, 1) := by decide +kernel
theorem dX11_run_22 : decode cX11_run 22 = .ok (.putfield 185, 3) := by decide +kernel
theorem dX11_run_25 : decode cX11_run 25 = .ok (.iload_n 2, 1) := by decide +kernel
theorem dX11_run_26 : decode cX11_run 26 = .ok (.ifCond .ne 8, 3) := by decide +kernel
theorem dX11_run_29 : decode cX11_run 29 = .ok (.aload_n 3, 1) := by decide +kernel
theorem dX11_run_30 : decode cX11_run 30 = .ok (.aconst_null, 1) := by decide +kernel
theorem dX11_run_31 : decode cX11_run 31 = .ok (.putfield 189, 3) := by decide +kernel
theorem dX11_run_34 : decode cX11_run 34 = .ok (.iload 4, 2) := by decide +kernel
theorem dX11_run_36 : decode cX11_run 36 = .ok (.ireturn, 1) := by decide +kernel
theorem e_X11_run_18 (d : Nat) {l2 l3 s0 : Int} {m : Mem} {e v : Int} {m' : Mem} (h : X11_run_18 l2 l3 s0 m = some (e, v, m')) : Ex (d + 2) fm_X11_run 18 [(3, 0), (3, 0), (0, l2), (19, l3), (3, 0)] [(0, s0)] m (rr9 0 e v) m' := by
  unfold X11_run_18 at h
  refine x_istore (ls2 := [(3, 0), (3, 0), (0, l2), (19, l3), (0, s0)]) dX11_run_18 (Nat.le_of_ble_eq_true rfl) rfl (?_ : Ex _ _ 20 _ _ _ _ _)
  refine x_aload_n dX11_run_20 rfl rfl (Or.inr (by decide)) (?_ : Ex _ _ 21 _ _ _ _ _)
  refine x_iload_n dX11_run_21 rfl rfl (?_ : Ex _ _ 22 _ _ _ _ _)
  obtain ⟨⟨c1, c2⟩, h⟩ := chk_some h
  obtain ⟨m3, hm3, h⟩ := st_some h
  refine pt_9_0  c1 c2 fl_RX11_185 dX11_run_22 (?_ : Ex _ _ 25 _ _ _ _ _)
  rw [← hm3]
  refine x_iload_n dX11_run_25 rfl rfl (?_ : Ex _ _ 26 _ _ _ _ _)
  rcases ite_some h with ⟨b4, h⟩ | ⟨b4, h⟩
  · refine x_if_neN dX11_run_26 (by decide) (fun hh => hh b4) (?_ : Ex _ _ 29 _ _ _ _ _)
    refine x_aload_n dX11_run_29 rfl rfl (Or.inr (by decide)) (?_ : Ex _ _ 30 _ _ _ _ _)
    refine x_null 10 (by decide) dX11_run_30 (?_ : Ex _ _ 31 _ _ _ _ _)
    obtain ⟨m5, hm5, h⟩ := st_some h
    refine pt_9_1  c1 fl_RX11_189 dX11_run_31 (?_ : Ex _ _ 34 _ _ _ _ _)
    rw [← hm5]
    refine x_iload dX11_run_34 rfl (?_ : Ex _ _ 36 _ _ _ _ _)
    cases h
    exact y_retX dX11_run_36 (by decide)
  · refine x_if_ne (tgt := 34) dX11_run_26 rfl b4 (?_ : Ex _ _ 34 _ _ _ _ _)
    refine x_iload dX11_run_34 rfl (?_ : Ex _ _ 36 _ _ _ _ _)
    cases h
    exact y_retX dX11_run_36 (by decide)
theorem e_X11_run_0 (d : Nat) {l0 l1 l2 : Int} {m : Mem} {e v : Int} {m' : Mem} (h : X11_run_0 l0 l1 l2 m = some (e, v, m')) : Ex (d + 2) fm_X11_run 0 [(21, l0), (0, l1), (0, l2), (3, 0), (3, 0)] [] m (rr9 0 e v) m' := by
  unfold X11_run_0 at h
  refine x_aload_n dX11_run_0 rfl rfl (Or.inr (by decide)) (?_ : Ex _ _ 1 _ _ _ _ _)
  refine x_iload_n dX11_run_1 rfl rfl (?_ : Ex _ _ 2 _ _ _ _ _)
  obtain ⟨c1, h⟩ := chk_some h
  rcases calX_some h with ⟨v2, m3, g4, h⟩ | ⟨e8, v2, m3, x7, g4, h⟩
  · refine cV1 (e_X11_handOf d g4) (cont0 (by decide) (?_ : Ex _ _ 5 _ _ _ _ _)) og_X11_handOf rfl ml_RX11_181 11 rfl rfl c1 im_X11_handOf se_X11_handOf (Nat.le_of_ble_eq_true rfl) dX11_run_2
    refine x_astore_n (ls2 := [(21, l0), (0, l1), (0, l2), (19, v2), (3, 0)]) dX11_run_5 rfl (Nat.le_of_ble_eq_true rfl) (Or.inr (by decide)) rfl (?_ : Ex _ _ 6 _ _ _ _ _)
    refine x_aload_n dX11_run_6 rfl rfl (Or.inr (by decide)) (?_ : Ex _ _ 7 _ _ _ _ _)
    obtain ⟨c5, h⟩ := chk_some h
    refine gt_9_1 c5 fl_RX11_189 dX11_run_7 (?_ : Ex _ _ 10 _ _ _ _ _)
    rcases ite_some h with ⟨b6, h⟩ | ⟨b6, h⟩
    · refine y_ifnull (tgt := 17) (by decide) b6 dX11_run_10 rfl (?_ : Ex _ _ 17 _ _ _ _ _)
      refine x_iconst dX11_run_17 rfl (by decide) (?_ : Ex _ _ 18 _ _ _ _ _)
      refine Ex.wk (ls2 := [(3, 0), (3, 0), (0, l2), (19, v2), (3, 0)]) ⟨Or.inl rfl, Or.inl rfl, Or.inr rfl, Or.inr rfl, Or.inl rfl, trivial⟩ ?_
      exact e_X11_run_18 d h
    · refine x_ifnullN (by decide) b6 dX11_run_10 (?_ : Ex _ _ 13 _ _ _ _ _)
      refine x_iconst dX11_run_13 rfl (by decide) (?_ : Ex _ _ 14 _ _ _ _ _)
      refine x_goto (tgt := 18) dX11_run_14 rfl (?_ : Ex _ _ 18 _ _ _ _ _)
      refine Ex.wk (ls2 := [(3, 0), (3, 0), (0, l2), (19, v2), (3, 0)]) ⟨Or.inl rfl, Or.inl rfl, Or.inr rfl, Or.inr rfl, Or.inl rfl, trivial⟩ ?_
      exact e_X11_run_18 d h
  · cases h
    exact cV1 (e_X11_handOf d g4) (contE x7 rfl) og_X11_handOf rfl ml_RX11_181 11 rfl rfl c1 im_X11_handOf se_X11_handOf (Nat.le_of_ble_eq_true rfl) dX11_run_2
theorem e_X11_run (d : Nat) {a0 a1 a2 : Int} {m : Mem} {e v : Int} {m' : Mem} (h : X11_run a0 a1 a2 m = some (e, v, m')) : ExM (d + 2) fm_X11_run [(21, a0), (0, a1), (0, a2)] m (rr9 0 e v) m' := by
  obtain ⟨hb, h⟩ := boolX_some h
  exact ExM.of (by decide +kernel) (Nat.le_of_ble_eq_true rfl) (cat9 rfl) (retZX hb) (e_X11_run_0 d h)
theorem dX11_ready_0 : decode cX11_ready 0 = .ok (.iload_n 1, 1) := by decide +kernel
theorem dX11_ready_1 : decode cX11_ready 1 = .ok (.invokestatic 243, 3) := by decide +kernel
theorem dX11_ready_4 : decode cX11_ready 4 = .ok (.iconst 0, 1) := by decide +kernel
theorem dX11_ready_5 : decode cX11_ready 5 = .ok (.istore_n 2, 1) := by decide +kernel
theorem dX11_ready_6 : decode cX11_ready 6 = .ok (.iconst 0, 1) := by decide +kernel
theorem dX11_ready_7 : decode cX11_ready 7 = .ok (.istore_n 3, 1) := by decide +kernel
theorem dX11_ready_8 : decode cX11_ready 8 = .ok (.iload_n 3, 1) := by decide +kernel
theorem dX11_ready_9 : decode cX11_ready 9 = .ok (.aload_n 0, 1) := by decide +kernel
theorem dX11_ready_10 : decode cX11_ready 10 = .ok (.getfield 99, 3) := by decide +kernel
theorem dX11_ready_13 : decode cX11_ready 13 = .ok (.if_icmp .ge 25, 3) := by decide +kernel
theorem dX11_ready_16 : decode cX11_ready 16 = .ok (.iload_n 2, 1) := by decide +kernel
theorem dX11_ready_17 : decode cX11_ready 17 = .ok (.aload_n 0, 1) := by decide +kernel
theorem dX11_ready_18 : decode cX11_ready 18 = .ok (.getfield 17, 3) := by decide +kernel
theorem dX11_ready_21 : decode cX11_ready 21 = .ok (.iload_n 3, 1) := by decide +kernel
theorem dX11_ready_22 : decode cX11_ready 22 = .ok (.aaload, 1) := by decide +kernel
theorem dX11_ready_23 : decode cX11_ready 23 = .ok (.getfield 120, 3) := by decide +kernel
theorem dX11_ready_26 : decode cX11_ready 26 = .ok (.iload_n 1, 1) := by decide +kernel
theorem dX11_ready_27 : decode cX11_ready 27 = .ok (.invokevirtual 246, 3) := by decide +kernel
theorem dX11_ready_30 : decode cX11_ready 30 = .ok (.iadd, 1) := by decide +kernel
theorem dX11_ready_31 : decode cX11_ready 31 = .ok (.istore_n 2, 1) := by decide +kernel
theorem dX11_ready_32 : decode cX11_ready 32 = .ok (.iinc 3 1, 3) := by decide +kernel
theorem dX11_ready_35 : decode cX11_ready 35 = .ok (.goto (-27), 3) := by decide +kernel
theorem dX11_ready_38 : decode cX11_ready 38 = .ok (.iload_n 2, 1) := by decide +kernel
theorem dX11_ready_39 : decode cX11_ready 39 = .ok (.ireturn, 1) := by decide +kernel
theorem e_X11_ready_8 (d : Nat) : ∀ (n : Nat) {l0 l1 l2 l3 : Int} {m : Mem} {e v : Int} {m' : Mem}, X11_ready_8 n l0 l1 l2 l3 m = some (e, v, m') → Ex (d + 2) fm_X11_ready 8 [(21, l0), (0, l1), (0, l2), (0, l3)] [] m (rr9 0 e v) m' := by
  intro n
  induction n with
  | zero =>
    intro l0 l1 l2 l3 m e v m' h
    have h : (none : Option R3) = some _ := h
    cases h
  | succ n ih =>
    intro l0 l1 l2 l3 m e v m' h
    rw [X11_ready_8] at h
    refine x_iload_n dX11_ready_8 rfl rfl (?_ : Ex _ _ 9 _ _ _ _ _)
    refine x_aload_n dX11_ready_9 rfl rfl (Or.inr (by decide)) (?_ : Ex _ _ 10 _ _ _ _ _)
    obtain ⟨c1, h⟩ := chk_some h
    refine gt_11_5 c1 fl_RX11_99 dX11_ready_10 (?_ : Ex _ _ 13 _ _ _ _ _)
    rcases ite_some h with ⟨b2, h⟩ | ⟨b2, h⟩
    · refine x_icmp_ge (tgt := 38) dX11_ready_13 rfl b2 (?_ : Ex _ _ 38 _ _ _ _ _)
      refine x_iload_n dX11_ready_38 rfl rfl (?_ : Ex _ _ 39 _ _ _ _ _)
      cases h
      exact y_retX dX11_ready_39 (by decide)
    · refine x_icmp_geN dX11_ready_13 (by decide) b2 (?_ : Ex _ _ 16 _ _ _ _ _)
      refine x_iload_n dX11_ready_16 rfl rfl (?_ : Ex _ _ 17 _ _ _ _ _)
      refine x_aload_n dX11_ready_17 rfl rfl (Or.inr (by decide)) (?_ : Ex _ _ 18 _ _ _ _ _)
      refine gt_11_1 c1 fl_RX11_17 dX11_ready_18 (?_ : Ex _ _ 21 _ _ _ _ _)
      refine x_iload_n dX11_ready_21 rfl rfl (?_ : Ex _ _ 22 _ _ _ _ _)
      obtain ⟨⟨c3, c4, c5⟩, h⟩ := chk_some h
      refine ad_10_10 c3 c4 c5 dX11_ready_22 (?_ : Ex _ _ 23 _ _ _ _ _)
      obtain ⟨c6, h⟩ := chk_some h
      refine gt_10_6 c6 fl_RX11_120 dX11_ready_23 (?_ : Ex _ _ 26 _ _ _ _ _)
      refine x_iload_n dX11_ready_26 rfl rfl (?_ : Ex _ _ 27 _ _ _ _ _)
      obtain ⟨c7, h⟩ := chk_some h
      obtain ⟨v8, m9, g10, h⟩ := cal_some h
      refine cV1 (e_X7_countReady d g10) (contN (by decide) (?_ : Ex _ _ 30 _ _ _ _ _)) og_X7_countReady rfl ml_RX11_246 7 rfl rfl c7 im_X7_countReady se_X7_countReady (Nat.le_of_ble_eq_true rfl) dX11_ready_27
      obtain ⟨c11, h⟩ := chk_some h
      refine x_iadd dX11_ready_30 c11 (?_ : Ex _ _ 31 _ _ _ _ _)
      refine x_istore_n (ls2 := [(21, l0), (0, l1), (0, (l2 + v8)), (0, l3)]) dX11_ready_31 rfl (Nat.le_of_ble_eq_true rfl) rfl (?_ : Ex _ _ 32 _ _ _ _ _)
      obtain ⟨c12, h⟩ := chk_some h
      refine x_iinc (ls2 := [(21, l0), (0, l1), (0, (l2 + v8)), (0, (l3 + 1))]) dX11_ready_32 rfl c12 rfl (?_ : Ex _ _ 35 _ _ _ _ _)
      refine x_goto (tgt := 8) dX11_ready_35 rfl (?_ : Ex _ _ 8 _ _ _ _ _)
      exact ih h
theorem e_X11_ready_0 (d : Nat) {l0 l1 : Int} {m : Mem} {e v : Int} {m' : Mem} (h : X11_ready_0 l0 l1 m = some (e, v, m')) : Ex (d + 2) fm_X11_ready 0 [(21, l0), (0, l1), (3, 0), (3, 0)] [] m (rr9 0 e v) m' := by
  unfold X11_ready_0 at h
  refine x_iload_n dX11_ready_0 rfl rfl (?_ : Ex _ _ 1 _ _ _ _ _)
  rcases calX_some h with ⟨v1, m2, g3, h⟩ | ⟨e5, v1, m2, x4, g3, h⟩
  · refine cS1 (e_X11_checkQueue d g3) (cont0V (?_ : Ex _ _ 4 _ _ _ _ _)) og_X11_checkQueue rfl ml_RX11_243 sm_X11_checkQueue (Nat.le_of_ble_eq_true rfl) dX11_ready_1
    refine x_iconst dX11_ready_4 rfl (by decide) (?_ : Ex _ _ 5 _ _ _ _ _)
    refine x_istore_n (ls2 := [(21, l0), (0, l1), (0, 0), (3, 0)]) dX11_ready_5 rfl (Nat.le_of_ble_eq_true rfl) rfl (?_ : Ex _ _ 6 _ _ _ _ _)
    refine x_iconst dX11_ready_6 rfl (by decide) (?_ : Ex _ _ 7 _ _ _ _ _)
    refine x_istore_n (ls2 := [(21, l0), (0, l1), (0, 0), (0, 0)]) dX11_ready_7 rfl (Nat.le_of_ble_eq_true rfl) rfl (?_ : Ex _ _ 8 _ _ _ _ _)
    exact e_X11_ready_8 d fuel9 h
  · cases h
    exact cS1 (e_X11_checkQueue d g3) (contE x4 rfl) og_X11_checkQueue rfl ml_RX11_243 sm_X11_checkQueue (Nat.le_of_ble_eq_true rfl) dX11_ready_1
theorem e_X11_ready (d : Nat) {a0 a1 : Int} {m : Mem} {e v : Int} {m' : Mem} (h : X11_ready a0 a1 m = some (e, v, m')) : ExM (d + 2) fm_X11_ready [(21, a0), (0, a1)] m (rr9 0 e v) m' := by
  exact ExM.of (by decide +kernel) (Nat.le_of_ble_eq_true rfl) (cat9 rfl) retIX (e_X11_ready_0 d h)
theorem dX11_endLeases_0 : decode cX11_endLeases 0 = .ok (.iconst 0, 1) := by decide +kernel
theorem dX11_endLeases_1 : decode cX11_endLeases 1 = .ok (.istore_n 2, 1) := by decide +kernel
theorem dX11_endLeases_2 : decode cX11_endLeases 2 = .ok (.iload_n 2, 1) := by decide +kernel
theorem dX11_endLeases_3 : decode cX11_endLeases 3 = .ok (.aload_n 1, 1) := by decide +kernel
theorem dX11_endLeases_4 : decode cX11_endLeases 4 = .ok (.getfield 368, 3) := by decide +kernel
theorem dX11_endLeases_7 : decode cX11_endLeases 7 = .ok (.if_icmp .ge 40, 3) := by decide +kernel
theorem dX11_endLeases_10 : decode cX11_endLeases 10 = .ok (.aload_n 1, 1) := by decide +kernel
theorem dX11_endLeases_11 : decode cX11_endLeases 11 = .ok (.getfield 371, 3) := by decide +kernel
theorem dX11_endLeases_14 : decode cX11_endLeases 14 = .ok (.iload_n 2, 1) := by decide +kernel
theorem dX11_endLeases_15 : decode cX11_endLeases 15 = .ok (.aaload, 1) := by decide +kernel
theorem dX11_endLeases_16 : decode cX11_endLeases 16 = .ok (.astore_n 3, 1) := by decide +kernel
theorem dX11_endLeases_17 : decode cX11_endLeases 17 = .ok (.aload_n 3, 1) := by decide +kernel
theorem dX11_endLeases_18 : decode cX11_endLeases 18 = .ok (.getfield 438, 3) := by decide +kernel
theorem dX11_endLeases_21 : decode cX11_endLeases 21 = .ok (.iconst 1, 1) := by decide +kernel
theorem dX11_endLeases_22 : decode cX11_endLeases 22 = .ok (.if_icmp .ne 19, 3) := by decide +kernel
theorem dX11_endLeases_25 : decode cX11_endLeases 25 = .ok (.aload_n 3, 1) := by decide +kernel
theorem dX11_endLeases_26 : decode cX11_endLeases 26 = .ok (.getfield 224, 3) := by decide +kernel
theorem dX11_endLeases_29 : decode cX11_endLeases 29 = .ok (.aload_n 0, 1) := by decide +kernel
theorem dX11_endLeases_30 : decode cX11_endLeases 30 = .ok (.getfield 211, 3) := by decide +kernel
theorem dX11_endLeases_33 : decode cX11_endLeases 33 = .ok (.if_icmp .gt 8, 3) := by decide +kernel
theorem dX11_endLeases_36 : decode cX11_endLeases 36 = .ok (.aload_n 0, 1) := by decide +kernel
theorem dX11_endLeases_37 : decode cX11_endLeases 37 = .ok (.aload_n 3, 1) := by decide +kernel
theorem dX11_endLeases_38 : decode cX11_endLeases 38 = .ok (.invokevirtual 237, 3) := by decide +kernel
theorem dX11_endLeases_41 : decode cX11_endLeases 41 = .ok (.iinc 2 1, 3) := by decide +kernel
theorem dX11_endLeases_44 : decode cX11_endLeases 44 = .ok (.goto (-42), 3) := by decide +kernel
theorem dX11_endLeases_47 : decode cX11_endLeases 47 = .ok (.return_, 1) := by decide +kernel
theorem e_X11_endLeases_2 (d : Nat) : ∀ (n : Nat) {l0 l1 l2 : Int} {m : Mem} {v : Int} {m' : Mem}, X11_endLeases_2 n l0 l1 l2 m = some (v, m') → Ex (d + 3) fm_X11_endLeases 2 [(21, l0), (17, l1), (0, l2), (3, 0)] [] m (.inl (3, 0)) m' := by
  intro n
  induction n with
  | zero =>
    intro l0 l1 l2 m v m' h
    have h : (none : Option R2) = some _ := h
    cases h
  | succ n ih =>
    intro l0 l1 l2 m v m' h
    rw [X11_endLeases_2] at h
    refine x_iload_n dX11_endLeases_2 rfl rfl (?_ : Ex _ _ 3 _ _ _ _ _)
    refine x_aload_n dX11_endLeases_3 rfl rfl (Or.inr (by decide)) (?_ : Ex _ _ 4 _ _ _ _ _)
    obtain ⟨c1, h⟩ := chk_some h
    refine gt_7_3 c1 fl_RX11_368 dX11_endLeases_4 (?_ : Ex _ _ 7 _ _ _ _ _)
    rcases ite_some h with ⟨b2, h⟩ | ⟨b2, h⟩
    · refine x_icmp_ge (tgt := 47) dX11_endLeases_7 rfl b2 (?_ : Ex _ _ 47 _ _ _ _ _)
      cases h
      exact x_retv dX11_endLeases_47
    · refine x_icmp_geN dX11_endLeases_7 (by decide) b2 (?_ : Ex _ _ 10 _ _ _ _ _)
      refine x_aload_n dX11_endLeases_10 rfl rfl (Or.inr (by decide)) (?_ : Ex _ _ 11 _ _ _ _ _)
      refine gt_7_1 c1 fl_RX11_371 dX11_endLeases_11 (?_ : Ex _ _ 14 _ _ _ _ _)
      refine x_iload_n dX11_endLeases_14 rfl rfl (?_ : Ex _ _ 15 _ _ _ _ _)
      obtain ⟨⟨c3, c4, c5⟩, h⟩ := chk_some h
      refine ad_0_80 c3 c4 c5 dX11_endLeases_15 (?_ : Ex _ _ 16 _ _ _ _ _)
      refine x_astore_n (ls2 := [(21, l0), (17, l1), (0, l2), (10, m (m l1 1) l2)]) dX11_endLeases_16 rfl (Nat.le_of_ble_eq_true rfl) (Or.inr (by decide)) rfl (?_ : Ex _ _ 17 _ _ _ _ _)
      refine x_aload_n dX11_endLeases_17 rfl rfl (Or.inr (by decide)) (?_ : Ex _ _ 18 _ _ _ _ _)
      obtain ⟨c6, h⟩ := chk_some h
      refine gt_0_6 c6 fl_RX11_438 dX11_endLeases_18 (?_ : Ex _ _ 21 _ _ _ _ _)
      refine x_iconst dX11_endLeases_21 rfl (by decide) (?_ : Ex _ _ 22 _ _ _ _ _)
      rcases ite_some h with ⟨b7, h⟩ | ⟨b7, h⟩
      · refine x_icmp_neN dX11_endLeases_22 (by decide) (fun hh => hh b7) (?_ : Ex _ _ 25 _ _ _ _ _)
        refine x_aload_n dX11_endLeases_25 rfl rfl (Or.inr (by decide)) (?_ : Ex _ _ 26 _ _ _ _ _)
        refine gt_0_8 c6 fl_RX11_224 dX11_endLeases_26 (?_ : Ex _ _ 29 _ _ _ _ _)
        refine x_aload_n dX11_endLeases_29 rfl rfl (Or.inr (by decide)) (?_ : Ex _ _ 30 _ _ _ _ _)
        obtain ⟨c9, h⟩ := chk_some h
        refine gt_11_7 c9 fl_RX11_211 dX11_endLeases_30 (?_ : Ex _ _ 33 _ _ _ _ _)
        rcases ite_some h with ⟨b10, h⟩ | ⟨b10, h⟩
        · refine x_icmp_gt (tgt := 41) dX11_endLeases_33 rfl b10 (?_ : Ex _ _ 41 _ _ _ _ _)
          obtain ⟨c11, h⟩ := chk_some h
          refine x_iinc (ls2 := [(21, l0), (17, l1), (0, (l2 + 1)), (10, m (m l1 1) l2)]) dX11_endLeases_41 rfl c11 rfl (?_ : Ex _ _ 44 _ _ _ _ _)
          refine x_goto (tgt := 2) dX11_endLeases_44 rfl (?_ : Ex _ _ 2 _ _ _ _ _)
          refine Ex.wk (ls2 := [(21, l0), (17, l1), (0, (l2 + 1)), (3, 0)]) ⟨Or.inr rfl, Or.inr rfl, Or.inr rfl, Or.inl rfl, trivial⟩ ?_
          exact ih h
        · refine x_icmp_gtN dX11_endLeases_33 (by decide) b10 (?_ : Ex _ _ 36 _ _ _ _ _)
          refine x_aload_n dX11_endLeases_36 rfl rfl (Or.inr (by decide)) (?_ : Ex _ _ 37 _ _ _ _ _)
          refine x_aload_n dX11_endLeases_37 rfl rfl (Or.inr (by decide)) (?_ : Ex _ _ 38 _ _ _ _ _)
          obtain ⟨v12, m13, g14, h⟩ := cal_some h
          refine cV1 (e_X11_loseTry d g14) (contV (?_ : Ex _ _ 41 _ _ _ _ _)) og_X11_loseTry rfl ml_RX11_237 11 rfl rfl c9 im_X11_loseTry se_X11_loseTry (Nat.le_of_ble_eq_true rfl) dX11_endLeases_38
          obtain ⟨c15, h⟩ := chk_some h
          refine x_iinc (ls2 := [(21, l0), (17, l1), (0, (l2 + 1)), (10, m (m l1 1) l2)]) dX11_endLeases_41 rfl c15 rfl (?_ : Ex _ _ 44 _ _ _ _ _)
          refine x_goto (tgt := 2) dX11_endLeases_44 rfl (?_ : Ex _ _ 2 _ _ _ _ _)
          refine Ex.wk (ls2 := [(21, l0), (17, l1), (0, (l2 + 1)), (3, 0)]) ⟨Or.inr rfl, Or.inr rfl, Or.inr rfl, Or.inl rfl, trivial⟩ ?_
          exact ih h
      · refine x_icmp_ne (tgt := 41) dX11_endLeases_22 rfl b7 (?_ : Ex _ _ 41 _ _ _ _ _)
        obtain ⟨c8, h⟩ := chk_some h
        refine x_iinc (ls2 := [(21, l0), (17, l1), (0, (l2 + 1)), (10, m (m l1 1) l2)]) dX11_endLeases_41 rfl c8 rfl (?_ : Ex _ _ 44 _ _ _ _ _)
        refine x_goto (tgt := 2) dX11_endLeases_44 rfl (?_ : Ex _ _ 2 _ _ _ _ _)
        refine Ex.wk (ls2 := [(21, l0), (17, l1), (0, (l2 + 1)), (3, 0)]) ⟨Or.inr rfl, Or.inr rfl, Or.inr rfl, Or.inl rfl, trivial⟩ ?_
        exact ih h
theorem e_X11_endLeases_0 (d : Nat) {l0 l1 : Int} {m : Mem} {v : Int} {m' : Mem} (h : X11_endLeases_0 l0 l1 m = some (v, m')) : Ex (d + 3) fm_X11_endLeases 0 [(21, l0), (17, l1), (3, 0), (3, 0)] [] m (.inl (3, 0)) m' := by
  unfold X11_endLeases_0 at h
  refine x_iconst dX11_endLeases_0 rfl (by decide) (?_ : Ex _ _ 1 _ _ _ _ _)
  refine x_istore_n (ls2 := [(21, l0), (17, l1), (0, 0), (3, 0)]) dX11_endLeases_1 rfl (Nat.le_of_ble_eq_true rfl) rfl (?_ : Ex _ _ 2 _ _ _ _ _)
  exact e_X11_endLeases_2 d fuel9 h
theorem e_X11_endLeases (d : Nat) {a0 a1 : Int} {m : Mem} {v : Int} {m' : Mem} (h : X11_endLeases a0 a1 m = some (v, m')) : ExM (d + 3) fm_X11_endLeases [(21, a0), (17, a1)] m (.inl (3, 0)) m' := by
  exact ExM.of (by decide +kernel) (Nat.le_of_ble_eq_true rfl) (cat9 rfl) retV (e_X11_endLeases_0 d h)
theorem dX11_passTick_0 : decode cX11_passTick 0 = .ok (.aload_n 0, 1) := by decide +kernel
theorem dX11_passTick_1 : decode cX11_passTick 1 = .ok (.dup, 1) := by decide +kernel
theorem dX11_passTick_2 : decode cX11_passTick 2 = .ok (.getfield 211, 3) := by decide +kernel
theorem dX11_passTick_5 : decode cX11_passTick 5 = .ok (.iconst 1, 1) := by decide +kernel
theorem dX11_passTick_6 : decode cX11_passTick 6 = .ok (.iadd, 1) := by decide +kernel
theorem dX11_passTick_7 : decode cX11_passTick 7 = .ok (.putfield 211, 3) := by decide +kernel
theorem dX11_passTick_10 : decode cX11_passTick 10 = .ok (.iconst 0, 1) := by decide +kernel
theorem dX11_passTick_11 : decode cX11_passTick 11 = .ok (.istore_n 1, 1) := by decide +kernel
theorem dX11_passTick_12 : decode cX11_passTick 12 = .ok (.iload_n 1, 1) := by decide +kernel
theorem dX11_passTick_13 : decode cX11_passTick 13 = .ok (.iconst 2, 1) := by decide +kernel
theorem dX11_passTick_14 : decode cX11_passTick 14 = .ok (.if_icmp .ge 19, 3) := by decide +kernel
theorem dX11_passTick_17 : decode cX11_passTick 17 = .ok (.aload_n 0, 1) := by decide +kernel
theorem dX11_passTick_18 : decode cX11_passTick 18 = .ok (.getfield 23, 3) := by decide +kernel
theorem dX11_passTick_21 : decode cX11_passTick 21 = .ok (.iload_n 1, 1) := by decide +kernel
theorem dX11_passTick_22 : decode cX11_passTick 22 = .ok (.aaload, 1) := by decide +kernel
theorem dX11_passTick_23 : decode cX11_passTick 23 = .ok (.iconst 0, 1) := by decide +kernel
theorem dX11_passTick_24 : decode cX11_passTick 24 = .ok (.putfield 195, 3) := by decide +kernel
theorem dX11_passTick_27 : decode cX11_passTick 27 = .ok (.iinc 1 1, 3) := by decide +kernel
theorem dX11_passTick_30 : decode cX11_passTick 30 = .ok (.goto (-18), 3) := by decide +kernel
theorem dX11_passTick_33 : decode cX11_passTick 33 = .ok (.iconst 0, 1) := by decide +kernel
theorem dX11_passTick_34 : decode cX11_passTick 34 = .ok (.istore_n 1, 1) := by decide +kernel
theorem dX11_passTick_35 : decode cX11_passTick 35 = .ok (.iload_n 1, 1) := by decide +kernel
theorem dX11_passTick_36 : decode cX11_passTick 36 = .ok (.aload_n 0, 1) := by decide +kernel
theorem dX11_passTick_37 : decode cX11_passTick 37 = .ok (.getfield 99, 3) := by decide +kernel
theorem dX11_passTick_40 : decode cX11_passTick 40 = .ok (.if_icmp .ge 25, 3) := by decide +kernel
theorem dX11_passTick_43 : decode cX11_passTick 43 = .ok (.aload_n 0, 1) := by decide +kernel
theorem dX11_passTick_44 : decode cX11_passTick 44 = .ok (.getfield 17, 3) := by decide +kernel
theorem dX11_passTick_47 : decode cX11_passTick 47 = .ok (.iload_n 1, 1) := by decide +kernel
theorem dX11_passTick_48 : decode cX11_passTick 48 = .ok (.aaload, 1) := by decide +kernel
theorem dX11_passTick_49 : decode cX11_passTick 49 = .ok (.getfield 120, 3) := by decide +kernel
theorem dX11_passTick_52 : decode cX11_passTick 52 = .ok (.aload_n 0, 1) := by decide +kernel
theorem dX11_passTick_53 : decode cX11_passTick 53 = .ok (.getfield 211, 3) := by decide +kernel
theorem dX11_passTick_56 : decode cX11_passTick 56 = .ok (.invokevirtual 444, 3) := by decide +kernel
theorem dX11_passTick_59 : decode cX11_passTick 59 = .ok (.iinc 1 1, 3) := by decide +kernel
theorem dX11_passTick_62 : decode cX11_passTick 62 = .ok (.goto (-27), 3) := by decide +kernel
theorem dX11_passTick_65 : decode cX11_passTick 65 = .ok (.iconst 0, 1) := by decide +kernel
theorem dX11_passTick_66 : decode cX11_passTick 66 = .ok (.istore_n 1, 1) := by decide +kernel
theorem dX11_passTick_67 : decode cX11_passTick 67 = .ok (.iload_n 1, 1) := by decide +kernel
theorem dX11_passTick_68 : decode cX11_passTick 68 = .ok (.aload_n 0, 1) := by decide +kernel
theorem dX11_passTick_69 : decode cX11_passTick 69 = .ok (.getfield 99, 3) := by decide +kernel
theorem dX11_passTick_72 : decode cX11_passTick 72 = .ok (.if_icmp .ge 22, 3) := by decide +kernel
theorem dX11_passTick_75 : decode cX11_passTick 75 = .ok (.aload_n 0, 1) := by decide +kernel
theorem dX11_passTick_76 : decode cX11_passTick 76 = .ok (.aload_n 0, 1) := by decide +kernel
theorem dX11_passTick_77 : decode cX11_passTick 77 = .ok (.getfield 17, 3) := by decide +kernel
theorem dX11_passTick_80 : decode cX11_passTick 80 = .ok (.iload_n 1, 1) := by decide +kernel
theorem dX11_passTick_81 : decode cX11_passTick 81 = .ok (.aaload, 1) := by decide +kernel
theorem dX11_passTick_82 : decode cX11_passTick 82 = .ok (.getfield 120, 3) := by decide +kernel
theorem dX11_passTick_85 : decode cX11_passTick 85 = .ok (.invokevirtual 447, 3) := by decide +kernel
theorem dX11_passTick_88 : decode cX11_passTick 88 = .ok (.iinc 1 1, 3) := by decide +kernel
theorem dX11_passTick_91 : decode cX11_passTick 91 = .ok (.goto (-24), 3) := by decide +kernel
theorem dX11_passTick_94 : decode cX11_passTick 94 = .ok (.iconst 0, 1) := by decide +kernel
theorem dX11_passTick_95 : decode cX11_passTick 95 = .ok (.istore_n 1, 1) := by decide +kernel
theorem dX11_passTick_96 : decode cX11_passTick 96 = .ok (.iload_n 1, 1) := by decide +kernel
theorem dX11_passTick_97 : decode cX11_passTick 97 = .ok (.aload_n 0, 1) := by decide +kernel
theorem dX11_passTick_98 : decode cX11_passTick 98 = .ok (.getfield 99, 3) := by decide +kernel
theorem dX11_passTick_101 : decode cX11_passTick 101 = .ok (.if_icmp .ge 25, 3) := by decide +kernel
theorem dX11_passTick_104 : decode cX11_passTick 104 = .ok (.aload_n 0, 1) := by decide +kernel
theorem dX11_passTick_105 : decode cX11_passTick 105 = .ok (.getfield 17, 3) := by decide +kernel
theorem dX11_passTick_108 : decode cX11_passTick 108 = .ok (.iload_n 1, 1) := by decide +kernel
theorem dX11_passTick_109 : decode cX11_passTick 109 = .ok (.aaload, 1) := by decide +kernel
theorem dX11_passTick_110 : decode cX11_passTick 110 = .ok (.getfield 120, 3) := by decide +kernel
theorem dX11_passTick_113 : decode cX11_passTick 113 = .ok (.aload_n 0, 1) := by decide +kernel
theorem dX11_passTick_114 : decode cX11_passTick 114 = .ok (.getfield 211, 3) := by decide +kernel
theorem dX11_passTick_117 : decode cX11_passTick 117 = .ok (.invokevirtual 451, 3) := by decide +kernel
theorem dX11_passTick_120 : decode cX11_passTick 120 = .ok (.iinc 1 1, 3) := by decide +kernel
theorem dX11_passTick_123 : decode cX11_passTick 123 = .ok (.goto (-27), 3) := by decide +kernel
theorem dX11_passTick_126 : decode cX11_passTick 126 = .ok (.return_, 1) := by decide +kernel
theorem e_X11_passTick_96 (d : Nat) : ∀ (n : Nat) {l0 l1 : Int} {m : Mem} {v : Int} {m' : Mem}, X11_passTick_96 n l0 l1 m = some (v, m') → Ex (d + 4) fm_X11_passTick 96 [(21, l0), (0, l1)] [] m (.inl (3, 0)) m' := by
  intro n
  induction n with
  | zero =>
    intro l0 l1 m v m' h
    have h : (none : Option R2) = some _ := h
    cases h
  | succ n ih =>
    intro l0 l1 m v m' h
    rw [X11_passTick_96] at h
    refine x_iload_n dX11_passTick_96 rfl rfl (?_ : Ex _ _ 97 _ _ _ _ _)
    refine x_aload_n dX11_passTick_97 rfl rfl (Or.inr (by decide)) (?_ : Ex _ _ 98 _ _ _ _ _)
    obtain ⟨c1, h⟩ := chk_some h
    refine gt_11_5 c1 fl_RX11_99 dX11_passTick_98 (?_ : Ex _ _ 101 _ _ _ _ _)
    rcases ite_some h with ⟨b2, h⟩ | ⟨b2, h⟩
    · refine x_icmp_ge (tgt := 126) dX11_passTick_101 rfl b2 (?_ : Ex _ _ 126 _ _ _ _ _)
      cases h
      exact x_retv dX11_passTick_126
    · refine x_icmp_geN dX11_passTick_101 (by decide) b2 (?_ : Ex _ _ 104 _ _ _ _ _)
      refine x_aload_n dX11_passTick_104 rfl rfl (Or.inr (by decide)) (?_ : Ex _ _ 105 _ _ _ _ _)
      refine gt_11_1 c1 fl_RX11_17 dX11_passTick_105 (?_ : Ex _ _ 108 _ _ _ _ _)
      refine x_iload_n dX11_passTick_108 rfl rfl (?_ : Ex _ _ 109 _ _ _ _ _)
      obtain ⟨⟨c3, c4, c5⟩, h⟩ := chk_some h
      refine ad_10_10 c3 c4 c5 dX11_passTick_109 (?_ : Ex _ _ 110 _ _ _ _ _)
      obtain ⟨c6, h⟩ := chk_some h
      refine gt_10_6 c6 fl_RX11_120 dX11_passTick_110 (?_ : Ex _ _ 113 _ _ _ _ _)
      refine x_aload_n dX11_passTick_113 rfl rfl (Or.inr (by decide)) (?_ : Ex _ _ 114 _ _ _ _ _)
      refine gt_11_7 c1 fl_RX11_211 dX11_passTick_114 (?_ : Ex _ _ 117 _ _ _ _ _)
      obtain ⟨c7, h⟩ := chk_some h
      obtain ⟨v8, m9, g10, h⟩ := cal_some h
      refine cV1 (e_X7_wakeActivities (d + 2) g10) (contV (?_ : Ex _ _ 120 _ _ _ _ _)) og_X7_wakeActivities rfl ml_RX11_451 7 rfl rfl c7 im_X7_wakeActivities se_X7_wakeActivities (Nat.le_of_ble_eq_true rfl) dX11_passTick_117
      obtain ⟨c11, h⟩ := chk_some h
      refine x_iinc (ls2 := [(21, l0), (0, (l1 + 1))]) dX11_passTick_120 rfl c11 rfl (?_ : Ex _ _ 123 _ _ _ _ _)
      refine x_goto (tgt := 96) dX11_passTick_123 rfl (?_ : Ex _ _ 96 _ _ _ _ _)
      exact ih h
theorem e_X11_passTick_67 (d : Nat) {k96 : Int → Int → Mem → Option R2} (hk96 : ∀ {l0 l1 : Int} {m : Mem} {v : Int} {m' : Mem}, k96 l0 l1 m = some (v, m') → Ex (d + 4) fm_X11_passTick 96 [(21, l0), (0, l1)] [] m (.inl (3, 0)) m') : ∀ (n : Nat) {l0 l1 : Int} {m : Mem} {v : Int} {m' : Mem}, X11_passTick_67 k96 n l0 l1 m = some (v, m') → Ex (d + 4) fm_X11_passTick 67 [(21, l0), (0, l1)] [] m (.inl (3, 0)) m' := by
  intro n
  induction n with
  | zero =>
    intro l0 l1 m v m' h
    have h : (none : Option R2) = some _ := h
    cases h
  | succ n ih =>
    intro l0 l1 m v m' h
    rw [X11_passTick_67] at h
    refine x_iload_n dX11_passTick_67 rfl rfl (?_ : Ex _ _ 68 _ _ _ _ _)
    refine x_aload_n dX11_passTick_68 rfl rfl (Or.inr (by decide)) (?_ : Ex _ _ 69 _ _ _ _ _)
    obtain ⟨c1, h⟩ := chk_some h
    refine gt_11_5 c1 fl_RX11_99 dX11_passTick_69 (?_ : Ex _ _ 72 _ _ _ _ _)
    rcases ite_some h with ⟨b2, h⟩ | ⟨b2, h⟩
    · refine x_icmp_ge (tgt := 94) dX11_passTick_72 rfl b2 (?_ : Ex _ _ 94 _ _ _ _ _)
      refine x_iconst dX11_passTick_94 rfl (by decide) (?_ : Ex _ _ 95 _ _ _ _ _)
      refine x_istore_n (ls2 := [(21, l0), (0, 0)]) dX11_passTick_95 rfl (Nat.le_of_ble_eq_true rfl) rfl (?_ : Ex _ _ 96 _ _ _ _ _)
      exact hk96 h
    · refine x_icmp_geN dX11_passTick_72 (by decide) b2 (?_ : Ex _ _ 75 _ _ _ _ _)
      refine x_aload_n dX11_passTick_75 rfl rfl (Or.inr (by decide)) (?_ : Ex _ _ 76 _ _ _ _ _)
      refine x_aload_n dX11_passTick_76 rfl rfl (Or.inr (by decide)) (?_ : Ex _ _ 77 _ _ _ _ _)
      refine gt_11_1 c1 fl_RX11_17 dX11_passTick_77 (?_ : Ex _ _ 80 _ _ _ _ _)
      refine x_iload_n dX11_passTick_80 rfl rfl (?_ : Ex _ _ 81 _ _ _ _ _)
      obtain ⟨⟨c3, c4, c5⟩, h⟩ := chk_some h
      refine ad_10_10 c3 c4 c5 dX11_passTick_81 (?_ : Ex _ _ 82 _ _ _ _ _)
      obtain ⟨c6, h⟩ := chk_some h
      refine gt_10_6 c6 fl_RX11_120 dX11_passTick_82 (?_ : Ex _ _ 85 _ _ _ _ _)
      obtain ⟨v7, m8, g9, h⟩ := cal_some h
      refine cV1 (e_X11_endLeases d g9) (contV (?_ : Ex _ _ 88 _ _ _ _ _)) og_X11_endLeases rfl ml_RX11_447 11 rfl rfl c1 im_X11_endLeases se_X11_endLeases (Nat.le_of_ble_eq_true rfl) dX11_passTick_85
      obtain ⟨c10, h⟩ := chk_some h
      refine x_iinc (ls2 := [(21, l0), (0, (l1 + 1))]) dX11_passTick_88 rfl c10 rfl (?_ : Ex _ _ 91 _ _ _ _ _)
      refine x_goto (tgt := 67) dX11_passTick_91 rfl (?_ : Ex _ _ 67 _ _ _ _ _)
      exact ih h
theorem e_X11_passTick_35 (d : Nat) {k67 : Int → Int → Mem → Option R2} (hk67 : ∀ {l0 l1 : Int} {m : Mem} {v : Int} {m' : Mem}, k67 l0 l1 m = some (v, m') → Ex (d + 4) fm_X11_passTick 67 [(21, l0), (0, l1)] [] m (.inl (3, 0)) m') : ∀ (n : Nat) {l0 l1 : Int} {m : Mem} {v : Int} {m' : Mem}, X11_passTick_35 k67 n l0 l1 m = some (v, m') → Ex (d + 4) fm_X11_passTick 35 [(21, l0), (0, l1)] [] m (.inl (3, 0)) m' := by
  intro n
  induction n with
  | zero =>
    intro l0 l1 m v m' h
    have h : (none : Option R2) = some _ := h
    cases h
  | succ n ih =>
    intro l0 l1 m v m' h
    rw [X11_passTick_35] at h
    refine x_iload_n dX11_passTick_35 rfl rfl (?_ : Ex _ _ 36 _ _ _ _ _)
    refine x_aload_n dX11_passTick_36 rfl rfl (Or.inr (by decide)) (?_ : Ex _ _ 37 _ _ _ _ _)
    obtain ⟨c1, h⟩ := chk_some h
    refine gt_11_5 c1 fl_RX11_99 dX11_passTick_37 (?_ : Ex _ _ 40 _ _ _ _ _)
    rcases ite_some h with ⟨b2, h⟩ | ⟨b2, h⟩
    · refine x_icmp_ge (tgt := 65) dX11_passTick_40 rfl b2 (?_ : Ex _ _ 65 _ _ _ _ _)
      refine x_iconst dX11_passTick_65 rfl (by decide) (?_ : Ex _ _ 66 _ _ _ _ _)
      refine x_istore_n (ls2 := [(21, l0), (0, 0)]) dX11_passTick_66 rfl (Nat.le_of_ble_eq_true rfl) rfl (?_ : Ex _ _ 67 _ _ _ _ _)
      exact hk67 h
    · refine x_icmp_geN dX11_passTick_40 (by decide) b2 (?_ : Ex _ _ 43 _ _ _ _ _)
      refine x_aload_n dX11_passTick_43 rfl rfl (Or.inr (by decide)) (?_ : Ex _ _ 44 _ _ _ _ _)
      refine gt_11_1 c1 fl_RX11_17 dX11_passTick_44 (?_ : Ex _ _ 47 _ _ _ _ _)
      refine x_iload_n dX11_passTick_47 rfl rfl (?_ : Ex _ _ 48 _ _ _ _ _)
      obtain ⟨⟨c3, c4, c5⟩, h⟩ := chk_some h
      refine ad_10_10 c3 c4 c5 dX11_passTick_48 (?_ : Ex _ _ 49 _ _ _ _ _)
      obtain ⟨c6, h⟩ := chk_some h
      refine gt_10_6 c6 fl_RX11_120 dX11_passTick_49 (?_ : Ex _ _ 52 _ _ _ _ _)
      refine x_aload_n dX11_passTick_52 rfl rfl (Or.inr (by decide)) (?_ : Ex _ _ 53 _ _ _ _ _)
      refine gt_11_7 c1 fl_RX11_211 dX11_passTick_53 (?_ : Ex _ _ 56 _ _ _ _ _)
      obtain ⟨c7, h⟩ := chk_some h
      obtain ⟨v8, m9, g10, h⟩ := cal_some h
      refine cV1 (e_X7_fireTimers (d + 1) g10) (contV (?_ : Ex _ _ 59 _ _ _ _ _)) og_X7_fireTimers rfl ml_RX11_444 7 rfl rfl c7 im_X7_fireTimers se_X7_fireTimers (Nat.le_of_ble_eq_true rfl) dX11_passTick_56
      obtain ⟨c11, h⟩ := chk_some h
      refine x_iinc (ls2 := [(21, l0), (0, (l1 + 1))]) dX11_passTick_59 rfl c11 rfl (?_ : Ex _ _ 62 _ _ _ _ _)
      refine x_goto (tgt := 35) dX11_passTick_62 rfl (?_ : Ex _ _ 35 _ _ _ _ _)
      exact ih h
theorem e_X11_passTick_12 (d : Nat) {k35 : Int → Int → Mem → Option R2} (hk35 : ∀ {l0 l1 : Int} {m : Mem} {v : Int} {m' : Mem}, k35 l0 l1 m = some (v, m') → Ex (d + 4) fm_X11_passTick 35 [(21, l0), (0, l1)] [] m (.inl (3, 0)) m') : ∀ (n : Nat) {l0 l1 : Int} {m : Mem} {v : Int} {m' : Mem}, X11_passTick_12 k35 n l0 l1 m = some (v, m') → Ex (d + 4) fm_X11_passTick 12 [(21, l0), (0, l1)] [] m (.inl (3, 0)) m' := by
  intro n
  induction n with
  | zero =>
    intro l0 l1 m v m' h
    have h : (none : Option R2) = some _ := h
    cases h
  | succ n ih =>
    intro l0 l1 m v m' h
    rw [X11_passTick_12] at h
    refine x_iload_n dX11_passTick_12 rfl rfl (?_ : Ex _ _ 13 _ _ _ _ _)
    refine x_iconst dX11_passTick_13 rfl (by decide) (?_ : Ex _ _ 14 _ _ _ _ _)
    rcases ite_some h with ⟨b1, h⟩ | ⟨b1, h⟩
    · refine x_icmp_ge (tgt := 33) dX11_passTick_14 rfl b1 (?_ : Ex _ _ 33 _ _ _ _ _)
      refine x_iconst dX11_passTick_33 rfl (by decide) (?_ : Ex _ _ 34 _ _ _ _ _)
      refine x_istore_n (ls2 := [(21, l0), (0, 0)]) dX11_passTick_34 rfl (Nat.le_of_ble_eq_true rfl) rfl (?_ : Ex _ _ 35 _ _ _ _ _)
      exact hk35 h
    · refine x_icmp_geN dX11_passTick_14 (by decide) b1 (?_ : Ex _ _ 17 _ _ _ _ _)
      refine x_aload_n dX11_passTick_17 rfl rfl (Or.inr (by decide)) (?_ : Ex _ _ 18 _ _ _ _ _)
      obtain ⟨c2, h⟩ := chk_some h
      refine gt_11_2 c2 fl_RX11_23 dX11_passTick_18 (?_ : Ex _ _ 21 _ _ _ _ _)
      refine x_iload_n dX11_passTick_21 rfl rfl (?_ : Ex _ _ 22 _ _ _ _ _)
      obtain ⟨⟨c3, c4, c5⟩, h⟩ := chk_some h
      refine ad_6_2 c3 c4 c5 dX11_passTick_22 (?_ : Ex _ _ 23 _ _ _ _ _)
      refine x_iconst dX11_passTick_23 rfl (by decide) (?_ : Ex _ _ 24 _ _ _ _ _)
      obtain ⟨c6, h⟩ := chk_some h
      obtain ⟨m7, hm7, h⟩ := st_some h
      refine pt_6_2  c6 fl_RX11_195 dX11_passTick_24 (?_ : Ex _ _ 27 _ _ _ _ _)
      rw [← hm7]
      obtain ⟨c8, h⟩ := chk_some h
      refine x_iinc (ls2 := [(21, l0), (0, (l1 + 1))]) dX11_passTick_27 rfl c8 rfl (?_ : Ex _ _ 30 _ _ _ _ _)
      refine x_goto (tgt := 12) dX11_passTick_30 rfl (?_ : Ex _ _ 12 _ _ _ _ _)
      exact ih h
theorem e_X11_passTick_0 (d : Nat) {l0 : Int} {m : Mem} {v : Int} {m' : Mem} (h : X11_passTick_0 l0 m = some (v, m')) : Ex (d + 4) fm_X11_passTick 0 [(21, l0), (3, 0)] [] m (.inl (3, 0)) m' := by
  unfold X11_passTick_0 at h
  refine x_aload_n dX11_passTick_0 rfl rfl (Or.inr (by decide)) (?_ : Ex _ _ 1 _ _ _ _ _)
  refine x_dup (by decide : (21 : Int) ≠ 2) dX11_passTick_1 (?_ : Ex _ _ 2 _ _ _ _ _)
  obtain ⟨c1, h⟩ := chk_some h
  refine gt_11_7 c1 fl_RX11_211 dX11_passTick_2 (?_ : Ex _ _ 5 _ _ _ _ _)
  refine x_iconst dX11_passTick_5 rfl (by decide) (?_ : Ex _ _ 6 _ _ _ _ _)
  obtain ⟨c2, h⟩ := chk_some h
  refine x_iadd dX11_passTick_6 c2 (?_ : Ex _ _ 7 _ _ _ _ _)
  obtain ⟨m3, hm3, h⟩ := st_some h
  refine pt_11_7  c1 fl_RX11_211 dX11_passTick_7 (?_ : Ex _ _ 10 _ _ _ _ _)
  rw [← hm3]
  refine x_iconst dX11_passTick_10 rfl (by decide) (?_ : Ex _ _ 11 _ _ _ _ _)
  refine x_istore_n (ls2 := [(21, l0), (0, 0)]) dX11_passTick_11 rfl (Nat.le_of_ble_eq_true rfl) rfl (?_ : Ex _ _ 12 _ _ _ _ _)
  exact e_X11_passTick_12 d (fun h => e_X11_passTick_35 d (fun h => e_X11_passTick_67 d (fun h => e_X11_passTick_96 d fuel9 h) fuel9 h) fuel9 h) fuel9 h
theorem e_X11_passTick (d : Nat) {a0 : Int} {m : Mem} {v : Int} {m' : Mem} (h : X11_passTick a0 m = some (v, m')) : ExM (d + 4) fm_X11_passTick [(21, a0)] m (.inl (3, 0)) m' := by
  exact ExM.of (by decide +kernel) (Nat.le_of_ble_eq_true rfl) (cat9 rfl) retV (e_X11_passTick_0 d h)
theorem dX11_tick_0 : decode cX11_tick 0 = .ok (.iload_n 1, 1) := by decide +kernel
theorem dX11_tick_1 : decode cX11_tick 1 = .ok (.iconst 1, 1) := by decide +kernel
theorem dX11_tick_2 : decode cX11_tick 2 = .ok (.bipush 50, 2) := by decide +kernel
theorem dX11_tick_4 : decode cX11_tick 4 = .ok (.invokestatic 89, 3) := by decide +kernel
theorem dX11_tick_7 : decode cX11_tick 7 = .ok (.ifCond .ne 14, 3) := by decide +kernel
theorem dX11_tick_10 : decode cX11_tick 10 = .ok (.new 51, 3) := by decide +kernel
theorem dX11_tick_13 : decode cX11_tick 13 = .ok (.dup, 1) := by decide +kernel
theorem dX11_tick_14 : decode cX11_tick 14 = .ok (.ldc_w 256, 3) := by decide +kernel
theorem dX11_tick_17 : decode cX11_tick 17 = .ok (.invokespecial 55, 3) := by decide +kernel
theorem dX11_tick_20 : decode cX11_tick 20 = .ok (.athrow, 1) := by decide +kernel
theorem dX11_tick_21 : decode cX11_tick 21 = .ok (.iconst 0, 1) := by decide +kernel
theorem dX11_tick_22 : decode cX11_tick 22 = .ok (.istore_n 2, 1) := by decide +kernel
theorem dX11_tick_23 : decode cX11_tick 23 = .ok (.iload_n 2, 1) := by decide +kernel
theorem dX11_tick_24 : decode cX11_tick 24 = .ok (.iload_n 1, 1) := by decide +kernel
theorem dX11_tick_25 : decode cX11_tick 25 = .ok (.if_icmp .ge 13, 3) := by decide +kernel
theorem dX11_tick_28 : decode cX11_tick 28 = .ok (.aload_n 0, 1) := by decide +kernel
theorem dX11_tick_29 : decode cX11_tick 29 = .ok (.invokevirtual 258, 3) := by decide +kernel
theorem dX11_tick_32 : decode cX11_tick 32 = .ok (.iinc 2 1, 3) := by decide +kernel
theorem dX11_tick_35 : decode cX11_tick 35 = .ok (.goto (-12), 3) := by decide +kernel
theorem dX11_tick_38 : decode cX11_tick 38 = .ok (.aload_n 0, 1) := by decide +kernel
theorem dX11_tick_39 : decode cX11_tick 39 = .ok (.getfield 211, 3) := by decide +kernel
theorem dX11_tick_42 : decode cX11_tick 42 = .ok (.ireturn, 1) := by decide +kernel
theorem e_X11_tick_23 (d : Nat) : ∀ (n : Nat) {l0 l1 l2 : Int} {m : Mem} {e v : Int} {m' : Mem}, X11_tick_23 n l0 l1 l2 m = some (e, v, m') → Ex (d + 5) fm_X11_tick 23 [(21, l0), (0, l1), (0, l2)] [] m (rr9 0 e v) m' := by
  intro n
  induction n with
  | zero =>
    intro l0 l1 l2 m e v m' h
    have h : (none : Option R3) = some _ := h
    cases h
  | succ n ih =>
    intro l0 l1 l2 m e v m' h
    rw [X11_tick_23] at h
    refine x_iload_n dX11_tick_23 rfl rfl (?_ : Ex _ _ 24 _ _ _ _ _)
    refine x_iload_n dX11_tick_24 rfl rfl (?_ : Ex _ _ 25 _ _ _ _ _)
    rcases ite_some h with ⟨b1, h⟩ | ⟨b1, h⟩
    · refine x_icmp_ge (tgt := 38) dX11_tick_25 rfl b1 (?_ : Ex _ _ 38 _ _ _ _ _)
      refine x_aload_n dX11_tick_38 rfl rfl (Or.inr (by decide)) (?_ : Ex _ _ 39 _ _ _ _ _)
      obtain ⟨c2, h⟩ := chk_some h
      refine gt_11_7 c2 fl_RX11_211 dX11_tick_39 (?_ : Ex _ _ 42 _ _ _ _ _)
      cases h
      exact y_retX dX11_tick_42 (by decide)
    · refine x_icmp_geN dX11_tick_25 (by decide) b1 (?_ : Ex _ _ 28 _ _ _ _ _)
      refine x_aload_n dX11_tick_28 rfl rfl (Or.inr (by decide)) (?_ : Ex _ _ 29 _ _ _ _ _)
      obtain ⟨c3, h⟩ := chk_some h
      obtain ⟨v4, m5, g6, h⟩ := cal_some h
      refine cV0 (e_X11_passTick d g6) (contV (?_ : Ex _ _ 32 _ _ _ _ _)) og_X11_passTick rfl ml_RX11_258 11 rfl rfl c3 im_X11_passTick se_X11_passTick (Nat.le_of_ble_eq_true rfl) dX11_tick_29
      obtain ⟨c7, h⟩ := chk_some h
      refine x_iinc (ls2 := [(21, l0), (0, l1), (0, (l2 + 1))]) dX11_tick_32 rfl c7 rfl (?_ : Ex _ _ 35 _ _ _ _ _)
      refine x_goto (tgt := 23) dX11_tick_35 rfl (?_ : Ex _ _ 23 _ _ _ _ _)
      exact ih h
theorem e_X11_tick_0 (d : Nat) {l0 l1 : Int} {m : Mem} {e v : Int} {m' : Mem} (h : X11_tick_0 l0 l1 m = some (e, v, m')) : Ex (d + 5) fm_X11_tick 0 [(21, l0), (0, l1), (3, 0)] [] m (rr9 0 e v) m' := by
  unfold X11_tick_0 at h
  refine x_iload_n dX11_tick_0 rfl rfl (?_ : Ex _ _ 1 _ _ _ _ _)
  refine x_iconst dX11_tick_1 rfl (by decide) (?_ : Ex _ _ 2 _ _ _ _ _)
  refine x_bipush dX11_tick_2 kb_50 (by decide) (?_ : Ex _ _ 4 _ _ _ _ _)
  obtain ⟨v1, m2, g3, h⟩ := cal_some h
  refine cS3 (e_X11_isWithin (d + 4) g3) (contN (by decide) (?_ : Ex _ _ 7 _ _ _ _ _)) og_X11_isWithin rfl ml_RX11_89 sm_X11_isWithin (Nat.le_of_ble_eq_true rfl) dX11_tick_4
  rcases ite_some h with ⟨b4, h⟩ | ⟨b4, h⟩
  · refine x_if_neN dX11_tick_7 (by decide) (fun hh => hh b4) (?_ : Ex _ _ 10 _ _ _ _ _)
    cases h
    exact y_throwW (by decide) to_RX11_51_256 rfl (Nat.le_of_ble_eq_true rfl) dX11_tick_10 dX11_tick_13 dX11_tick_14 dX11_tick_17 dX11_tick_20 rfl rfl rfl rfl
  · refine x_if_ne (tgt := 21) dX11_tick_7 rfl b4 (?_ : Ex _ _ 21 _ _ _ _ _)
    refine x_iconst dX11_tick_21 rfl (by decide) (?_ : Ex _ _ 22 _ _ _ _ _)
    refine x_istore_n (ls2 := [(21, l0), (0, l1), (0, 0)]) dX11_tick_22 rfl (Nat.le_of_ble_eq_true rfl) rfl (?_ : Ex _ _ 23 _ _ _ _ _)
    exact e_X11_tick_23 d fuel9 h
theorem e_X11_tick (d : Nat) {a0 a1 : Int} {m : Mem} {e v : Int} {m' : Mem} (h : X11_tick a0 a1 m = some (e, v, m')) : ExM (d + 5) fm_X11_tick [(21, a0), (0, a1)] m (rr9 0 e v) m' := by
  exact ExM.of (by decide +kernel) (Nat.le_of_ble_eq_true rfl) (cat9 rfl) retIX (e_X11_tick_0 d h)
theorem dX11_clock_0 : decode cX11_clock 0 = .ok (.aload_n 0, 1) := by decide +kernel
theorem dX11_clock_1 : decode cX11_clock 1 = .ok (.getfield 211, 3) := by decide +kernel
theorem dX11_clock_4 : decode cX11_clock 4 = .ok (.ireturn, 1) := by decide +kernel
theorem e_X11_clock_0 (d : Nat) {l0 : Int} {m : Mem} {v : Int} {m' : Mem} (h : X11_clock_0 l0 m = some (v, m')) : Ex d fm_X11_clock 0 [(21, l0)] [] m (.inl (0, v)) m' := by
  unfold X11_clock_0 at h
  refine x_aload_n dX11_clock_0 rfl rfl (Or.inr (by decide)) (?_ : Ex _ _ 1 _ _ _ _ _)
  obtain ⟨c1, h⟩ := chk_some h
  refine gt_11_7 c1 fl_RX11_211 dX11_clock_1 (?_ : Ex _ _ 4 _ _ _ _ _)
  cases h
  exact x_ret dX11_clock_4 (by decide : (0 : Int) ≠ 3)
theorem e_X11_clock (d : Nat) {a0 : Int} {m : Mem} {v : Int} {m' : Mem} (h : X11_clock a0 m = some (v, m')) : ExM d fm_X11_clock [(21, a0)] m (.inl (0, v)) m' := by
  exact ExM.of (by decide +kernel) (Nat.le_of_ble_eq_true rfl) (cat9 rfl) retI (e_X11_clock_0 d h)
theorem dX11_workflows_0 : decode cX11_workflows 0 = .ok (.aload_n 0, 1) := by decide +kernel
theorem dX11_workflows_1 : decode cX11_workflows 1 = .ok (.getfield 99, 3) := by decide +kernel
theorem dX11_workflows_4 : decode cX11_workflows 4 = .ok (.ireturn, 1) := by decide +kernel
theorem e_X11_workflows_0 (d : Nat) {l0 : Int} {m : Mem} {v : Int} {m' : Mem} (h : X11_workflows_0 l0 m = some (v, m')) : Ex d fm_X11_workflows 0 [(21, l0)] [] m (.inl (0, v)) m' := by
  unfold X11_workflows_0 at h
  refine x_aload_n dX11_workflows_0 rfl rfl (Or.inr (by decide)) (?_ : Ex _ _ 1 _ _ _ _ _)
  obtain ⟨c1, h⟩ := chk_some h
  refine gt_11_5 c1 fl_RX11_99 dX11_workflows_1 (?_ : Ex _ _ 4 _ _ _ _ _)
  cases h
  exact x_ret dX11_workflows_4 (by decide : (0 : Int) ≠ 3)
theorem e_X11_workflows (d : Nat) {a0 : Int} {m : Mem} {v : Int} {m' : Mem} (h : X11_workflows a0 m = some (v, m')) : ExM d fm_X11_workflows [(21, a0)] m (.inl (0, v)) m' := by
  exact ExM.of (by decide +kernel) (Nat.le_of_ble_eq_true rfl) (cat9 rfl) retI (e_X11_workflows_0 d h)
theorem dX11_parent_0 : decode cX11_parent 0 = .ok (.aload_n 0, 1) := by decide +kernel
theorem dX11_parent_1 : decode cX11_parent 1 = .ok (.iload_n 1, 1) := by decide +kernel
theorem dX11_parent_2 : decode cX11_parent 2 = .ok (.invokevirtual 114, 3) := by decide +kernel
theorem dX11_parent_5 : decode cX11_parent 5 = .ok (.getfield 261, 3) := by decide +kernel
theorem dX11_parent_8 : decode cX11_parent 8 = .ok (.ireturn, 1) := by decide +kernel
theorem e_X11_parent_0 (d : Nat) {l0 l1 : Int} {m : Mem} {e v : Int} {m' : Mem} (h : X11_parent_0 l0 l1 m = some (e, v, m')) : Ex (d + 2) fm_X11_parent 0 [(21, l0), (0, l1)] [] m (rr9 0 e v) m' := by
  unfold X11_parent_0 at h
  refine x_aload_n dX11_parent_0 rfl rfl (Or.inr (by decide)) (?_ : Ex _ _ 1 _ _ _ _ _)
  refine x_iload_n dX11_parent_1 rfl rfl (?_ : Ex _ _ 2 _ _ _ _ _)
  obtain ⟨c1, h⟩ := chk_some h
  rcases calX_some h with ⟨v2, m3, g4, h⟩ | ⟨e7, v2, m3, x6, g4, h⟩
  · refine cV1 (e_X11_flowOf d g4) (cont0 (by decide) (?_ : Ex _ _ 5 _ _ _ _ _)) og_X11_flowOf rfl ml_RX11_114 11 rfl rfl c1 im_X11_flowOf se_X11_flowOf (Nat.le_of_ble_eq_true rfl) dX11_parent_2
    obtain ⟨c5, h⟩ := chk_some h
    refine gt_10_7 c5 fl_RX11_261 dX11_parent_5 (?_ : Ex _ _ 8 _ _ _ _ _)
    cases h
    exact y_retX dX11_parent_8 (by decide)
  · cases h
    exact cV1 (e_X11_flowOf d g4) (contE x6 rfl) og_X11_flowOf rfl ml_RX11_114 11 rfl rfl c1 im_X11_flowOf se_X11_flowOf (Nat.le_of_ble_eq_true rfl) dX11_parent_2
theorem e_X11_parent (d : Nat) {a0 a1 : Int} {m : Mem} {e v : Int} {m' : Mem} (h : X11_parent a0 a1 m = some (e, v, m')) : ExM (d + 2) fm_X11_parent [(21, a0), (0, a1)] m (rr9 0 e v) m' := by
  exact ExM.of (by decide +kernel) (Nat.le_of_ble_eq_true rfl) (cat9 rfl) retIX (e_X11_parent_0 d h)
theorem dX11_runs_0 : decode cX11_runs 0 = .ok (.aload_n 0, 1) := by decide +kernel
theorem dX11_runs_1 : decode cX11_runs 1 = .ok (.iload_n 1, 1) := by decide +kernel
theorem dX11_runs_2 : decode cX11_runs 2 = .ok (.invokevirtual 114, 3) := by decide +kernel
theorem dX11_runs_5 : decode cX11_runs 5 = .ok (.getfield 148, 3) := by decide +kernel
theorem dX11_runs_8 : decode cX11_runs 8 = .ok (.ireturn, 1) := by decide +kernel
theorem e_X11_runs_0 (d : Nat) {l0 l1 : Int} {m : Mem} {e v : Int} {m' : Mem} (h : X11_runs_0 l0 l1 m = some (e, v, m')) : Ex (d + 2) fm_X11_runs 0 [(21, l0), (0, l1)] [] m (rr9 0 e v) m' := by
  unfold X11_runs_0 at h
  refine x_aload_n dX11_runs_0 rfl rfl (Or.inr (by decide)) (?_ : Ex _ _ 1 _ _ _ _ _)
  refine x_iload_n dX11_runs_1 rfl rfl (?_ : Ex _ _ 2 _ _ _ _ _)
  obtain ⟨c1, h⟩ := chk_some h
  rcases calX_some h with ⟨v2, m3, g4, h⟩ | ⟨e7, v2, m3, x6, g4, h⟩
  · refine cV1 (e_X11_flowOf d g4) (cont0 (by decide) (?_ : Ex _ _ 5 _ _ _ _ _)) og_X11_flowOf rfl ml_RX11_114 11 rfl rfl c1 im_X11_flowOf se_X11_flowOf (Nat.le_of_ble_eq_true rfl) dX11_runs_2
    obtain ⟨c5, h⟩ := chk_some h
    refine gt_10_5 c5 fl_RX11_148 dX11_runs_5 (?_ : Ex _ _ 8 _ _ _ _ _)
    cases h
    exact y_retX dX11_runs_8 (by decide)
  · cases h
    exact cV1 (e_X11_flowOf d g4) (contE x6 rfl) og_X11_flowOf rfl ml_RX11_114 11 rfl rfl c1 im_X11_flowOf se_X11_flowOf (Nat.le_of_ble_eq_true rfl) dX11_runs_2
theorem e_X11_runs (d : Nat) {a0 a1 : Int} {m : Mem} {e v : Int} {m' : Mem} (h : X11_runs a0 a1 m = some (e, v, m')) : ExM (d + 2) fm_X11_runs [(21, a0), (0, a1)] m (rr9 0 e v) m' := by
  exact ExM.of (by decide +kernel) (Nat.le_of_ble_eq_true rfl) (cat9 rfl) retIX (e_X11_runs_0 d h)
theorem dX11_runOf_0 : decode cX11_runOf 0 = .ok (.aload_n 0, 1) := by decide +kernel
theorem dX11_runOf_1 : decode cX11_runOf 1 = .ok (.iload_n 1, 1) := by decide +kernel
theorem dX11_runOf_2 : decode cX11_runOf 2 = .ok (.invokevirtual 114, 3) := by decide +kernel
theorem dX11_runOf_5 : decode cX11_runOf 5 = .ok (.astore_n 3, 1) := by decide +kernel
theorem dX11_runOf_6 : decode cX11_runOf 6 = .ok (.iload_n 2, 1) := by decide +kernel
theorem dX11_runOf_7 : decode cX11_runOf 7 = .ok (.iconst 1, 1) := by decide +kernel
theorem dX11_runOf_8 : decode cX11_runOf 8 = .ok (.aload_n 3, 1) := by decide +kernel
theorem dX11_runOf_9 : decode cX11_runOf 9 = .ok (.getfield 148, 3) := by decide +kernel
theorem dX11_runOf_12 : decode cX11_runOf 12 = .ok (.invokestatic 89, 3) := by decide +kernel
theorem dX11_runOf_15 : decode cX11_runOf 15 = .ok (.ifCond .ne 14, 3) := by decide +kernel
theorem dX11_runOf_18 : decode cX11_runOf 18 = .ok (.new 92, 3) := by decide +kernel
theorem dX11_runOf_21 : decode cX11_runOf 21 = .ok (.dup, 1) := by decide +kernel
theorem dX11_runOf_22 : decode cX11_runOf 22 = .ok (.ldc_w 324, 3) := by decide +kernel
theorem dX11_runOf_25 : decode cX11_runOf 25 = .ok (.invokespecial 96, 3) := by decide +kernel
theorem dX11_runOf_28 : decode cX11_runOf 28 = .ok (.athrow, 1) := by decide +kernel
theorem dX11_runOf_29 : decode cX11_runOf 29 = .ok (.aload_n 3, 1) := by decide +kernel
theorem dX11_runOf_30 : decode cX11_runOf 30 = .ok (.getfield 326, 3) := by decide +kernel
theorem dX11_runOf_33 : decode cX11_runOf 33 = .ok (.iload_n 2, 1) := by decide +kernel
theorem dX11_runOf_34 : decode cX11_runOf 34 = .ok (.iconst 1, 1) := by decide +kernel
theorem dX11_runOf_35 : decode cX11_runOf 35 = .ok (.isub, 1) := by decide +kernel
theorem dX11_runOf_36 : decode cX11_runOf 36 = .ok (.aaload, 1) := by decide +kernel
theorem dX11_runOf_37 : decode cX11_runOf 37 = .ok (.areturn, 1) := by decide +kernel
theorem e_X11_runOf_0 (d : Nat) {l0 l1 l2 : Int} {m : Mem} {e v : Int} {m' : Mem} (h : X11_runOf_0 l0 l1 l2 m = some (e, v, m')) : Ex (d + 2) fm_X11_runOf 0 [(21, l0), (0, l1), (0, l2), (3, 0)] [] m (rr9 17 e v) m' := by
  unfold X11_runOf_0 at h
  refine x_aload_n dX11_runOf_0 rfl rfl (Or.inr (by decide)) (?_ : Ex _ _ 1 _ _ _ _ _)
  refine x_iload_n dX11_runOf_1 rfl rfl (?_ : Ex _ _ 2 _ _ _ _ _)
  obtain ⟨c1, h⟩ := chk_some h
  rcases calX_some h with ⟨v2, m3, g4, h⟩ | ⟨e15, v2, m3, x14, g4, h⟩
  · refine cV1 (e_X11_flowOf d g4) (cont0 (by decide) (?_ : Ex _ _ 5 _ _ _ _ _)) og_X11_flowOf rfl ml_RX11_114 11 rfl rfl c1 im_X11_flowOf se_X11_flowOf (Nat.le_of_ble_eq_true rfl) dX11_runOf_2
    refine x_astore_n (ls2 := [(21, l0), (0, l1), (0, l2), (20, v2)]) dX11_runOf_5 rfl (Nat.le_of_ble_eq_true rfl) (Or.inr (by decide)) rfl (?_ : Ex _ _ 6 _ _ _ _ _)
    refine x_iload_n dX11_runOf_6 rfl rfl (?_ : Ex _ _ 7 _ _ _ _ _)
    refine x_iconst dX11_runOf_7 rfl (by decide) (?_ : Ex _ _ 8 _ _ _ _ _)
    refine x_aload_n dX11_runOf_8 rfl rfl (Or.inr (by decide)) (?_ : Ex _ _ 9 _ _ _ _ _)
    obtain ⟨c5, h⟩ := chk_some h
    refine gt_10_5 c5 fl_RX11_148 dX11_runOf_9 (?_ : Ex _ _ 12 _ _ _ _ _)
    obtain ⟨v6, m7, g8, h⟩ := cal_some h
    refine cS3 (e_X11_isWithin (d + 1) g8) (contN (by decide) (?_ : Ex _ _ 15 _ _ _ _ _)) og_X11_isWithin rfl ml_RX11_89 sm_X11_isWithin (Nat.le_of_ble_eq_true rfl) dX11_runOf_12
    rcases ite_some h with ⟨b9, h⟩ | ⟨b9, h⟩
    · refine x_if_neN dX11_runOf_15 (by decide) (fun hh => hh b9) (?_ : Ex _ _ 18 _ _ _ _ _)
      cases h
      exact y_throwW (by decide) to_RX11_92_324 rfl (Nat.le_of_ble_eq_true rfl) dX11_runOf_18 dX11_runOf_21 dX11_runOf_22 dX11_runOf_25 dX11_runOf_28 rfl rfl rfl rfl
    · refine x_if_ne (tgt := 29) dX11_runOf_15 rfl b9 (?_ : Ex _ _ 29 _ _ _ _ _)
      refine x_aload_n dX11_runOf_29 rfl rfl (Or.inr (by decide)) (?_ : Ex _ _ 30 _ _ _ _ _)
      refine gt_10_4 c5 fl_RX11_326 dX11_runOf_30 (?_ : Ex _ _ 33 _ _ _ _ _)
      refine x_iload_n dX11_runOf_33 rfl rfl (?_ : Ex _ _ 34 _ _ _ _ _)
      refine x_iconst dX11_runOf_34 rfl (by decide) (?_ : Ex _ _ 35 _ _ _ _ _)
      obtain ⟨c10, h⟩ := chk_some h
      refine x_isub dX11_runOf_35 c10 (?_ : Ex _ _ 36 _ _ _ _ _)
      obtain ⟨⟨c11, c12, c13⟩, h⟩ := chk_some h
      refine ad_7_9 c11 c12 c13 dX11_runOf_36 (?_ : Ex _ _ 37 _ _ _ _ _)
      cases h
      exact y_retX dX11_runOf_37 (by decide)
  · cases h
    exact cV1 (e_X11_flowOf d g4) (contE x14 rfl) og_X11_flowOf rfl ml_RX11_114 11 rfl rfl c1 im_X11_flowOf se_X11_flowOf (Nat.le_of_ble_eq_true rfl) dX11_runOf_2
theorem e_X11_runOf (d : Nat) {a0 a1 a2 : Int} {m : Mem} {e v : Int} {m' : Mem} (h : X11_runOf a0 a1 a2 m = some (e, v, m')) : ExM (d + 2) fm_X11_runOf [(21, a0), (0, a1), (0, a2)] m (rr9 17 e v) m' := by
  exact ExM.of (by decide +kernel) (Nat.le_of_ble_eq_true rfl) (cat9 rfl) (retRX (by decide)) (e_X11_runOf_0 d h)
theorem dX11_state_0 : decode cX11_state 0 = .ok (.aload_n 0, 1) := by decide +kernel
theorem dX11_state_1 : decode cX11_state 1 = .ok (.iload_n 1, 1) := by decide +kernel
theorem dX11_state_2 : decode cX11_state 2 = .ok (.iload_n 2, 1) := by decide +kernel
theorem dX11_state_3 : decode cX11_state 3 = .ok (.invokevirtual 264, 3) := by decide +kernel
theorem dX11_state_6 : decode cX11_state 6 = .ok (.getfield 136, 3) := by decide +kernel
theorem dX11_state_9 : decode cX11_state 9 = .ok (.ireturn, 1) := by decide +kernel
theorem e_X11_state_0 (d : Nat) {l0 l1 l2 : Int} {m : Mem} {e v : Int} {m' : Mem} (h : X11_state_0 l0 l1 l2 m = some (e, v, m')) : Ex (d + 3) fm_X11_state 0 [(21, l0), (0, l1), (0, l2)] [] m (rr9 0 e v) m' := by
  unfold X11_state_0 at h
  refine x_aload_n dX11_state_0 rfl rfl (Or.inr (by decide)) (?_ : Ex _ _ 1 _ _ _ _ _)
  refine x_iload_n dX11_state_1 rfl rfl (?_ : Ex _ _ 2 _ _ _ _ _)
  refine x_iload_n dX11_state_2 rfl rfl (?_ : Ex _ _ 3 _ _ _ _ _)
  obtain ⟨c1, h⟩ := chk_some h
  rcases calX_some h with ⟨v2, m3, g4, h⟩ | ⟨e7, v2, m3, x6, g4, h⟩
  · refine cV2 (e_X11_runOf d g4) (cont0 (by decide) (?_ : Ex _ _ 6 _ _ _ _ _)) og_X11_runOf rfl ml_RX11_264 11 rfl rfl c1 im_X11_runOf se_X11_runOf (Nat.le_of_ble_eq_true rfl) dX11_state_3
    obtain ⟨c5, h⟩ := chk_some h
    refine gt_7_7 c5 fl_RX11_136 dX11_state_6 (?_ : Ex _ _ 9 _ _ _ _ _)
    cases h
    exact y_retX dX11_state_9 (by decide)
  · cases h
    exact cV2 (e_X11_runOf d g4) (contE x6 rfl) og_X11_runOf rfl ml_RX11_264 11 rfl rfl c1 im_X11_runOf se_X11_runOf (Nat.le_of_ble_eq_true rfl) dX11_state_3
theorem e_X11_state (d : Nat) {a0 a1 a2 : Int} {m : Mem} {e v : Int} {m' : Mem} (h : X11_state a0 a1 a2 m = some (e, v, m')) : ExM (d + 3) fm_X11_state [(21, a0), (0, a1), (0, a2)] m (rr9 0 e v) m' := by
  exact ExM.of (by decide +kernel) (Nat.le_of_ble_eq_true rfl) (cat9 rfl) retIX (e_X11_state_0 d h)
theorem dX11_events_0 : decode cX11_events 0 = .ok (.aload_n 0, 1) := by decide +kernel
theorem dX11_events_1 : decode cX11_events 1 = .ok (.iload_n 1, 1) := by decide +kernel
theorem dX11_events_2 : decode cX11_events 2 = .ok (.iload_n 2, 1) := by decide +kernel
theorem dX11_events_3 : decode cX11_events 3 = .ok (.invokevirtual 264, 3) := by decide +kernel
theorem dX11_events_6 : decode cX11_events 6 = .ok (.getfield 144, 3) := by decide +kernel
theorem dX11_events_9 : decode cX11_events 9 = .ok (.getfield 268, 3) := by decide +kernel
theorem dX11_events_12 : decode cX11_events 12 = .ok (.ireturn, 1) := by decide +kernel
theorem e_X11_events_0 (d : Nat) {l0 l1 l2 : Int} {m : Mem} {e v : Int} {m' : Mem} (h : X11_events_0 l0 l1 l2 m = some (e, v, m')) : Ex (d + 3) fm_X11_events 0 [(21, l0), (0, l1), (0, l2)] [] m (rr9 0 e v) m' := by
  unfold X11_events_0 at h
  refine x_aload_n dX11_events_0 rfl rfl (Or.inr (by decide)) (?_ : Ex _ _ 1 _ _ _ _ _)
  refine x_iload_n dX11_events_1 rfl rfl (?_ : Ex _ _ 2 _ _ _ _ _)
  refine x_iload_n dX11_events_2 rfl rfl (?_ : Ex _ _ 3 _ _ _ _ _)
  obtain ⟨c1, h⟩ := chk_some h
  rcases calX_some h with ⟨v2, m3, g4, h⟩ | ⟨e8, v2, m3, x7, g4, h⟩
  · refine cV2 (e_X11_runOf d g4) (cont0 (by decide) (?_ : Ex _ _ 6 _ _ _ _ _)) og_X11_runOf rfl ml_RX11_264 11 rfl rfl c1 im_X11_runOf se_X11_runOf (Nat.le_of_ble_eq_true rfl) dX11_events_3
    obtain ⟨c5, h⟩ := chk_some h
    refine gt_7_0 c5 fl_RX11_144 dX11_events_6 (?_ : Ex _ _ 9 _ _ _ _ _)
    obtain ⟨c6, h⟩ := chk_some h
    refine gt_3_3 c6 fl_RX11_268 dX11_events_9 (?_ : Ex _ _ 12 _ _ _ _ _)
    cases h
    exact y_retX dX11_events_12 (by decide)
  · cases h
    exact cV2 (e_X11_runOf d g4) (contE x7 rfl) og_X11_runOf rfl ml_RX11_264 11 rfl rfl c1 im_X11_runOf se_X11_runOf (Nat.le_of_ble_eq_true rfl) dX11_events_3
theorem e_X11_events (d : Nat) {a0 a1 a2 : Int} {m : Mem} {e v : Int} {m' : Mem} (h : X11_events a0 a1 a2 m = some (e, v, m')) : ExM (d + 3) fm_X11_events [(21, a0), (0, a1), (0, a2)] m (rr9 0 e v) m' := by
  exact ExM.of (by decide +kernel) (Nat.le_of_ble_eq_true rfl) (cat9 rfl) retIX (e_X11_events_0 d h)
theorem dX11_historyWith_0 : decode cX11_historyWith 0 = .ok (.aload_n 0, 1) := by decide +kernel
theorem dX11_historyWith_1 : decode cX11_historyWith 1 = .ok (.iload_n 1, 1) := by decide +kernel
theorem dX11_historyWith_2 : decode cX11_historyWith 2 = .ok (.iload_n 2, 1) := by decide +kernel
theorem dX11_historyWith_3 : decode cX11_historyWith 3 = .ok (.invokevirtual 264, 3) := by decide +kernel
theorem dX11_historyWith_6 : decode cX11_historyWith 6 = .ok (.getfield 144, 3) := by decide +kernel
theorem dX11_historyWith_9 : decode cX11_historyWith 9 = .ok (.astore 4, 2) := by decide +kernel
theorem dX11_historyWith_11 : decode cX11_historyWith 11 = .ok (.iload_n 3, 1) := by decide +kernel
theorem dX11_historyWith_12 : decode cX11_historyWith 12 = .ok (.iconst 0, 1) := by decide +kernel
theorem dX11_historyWith_13 : decode cX11_historyWith 13 = .ok (.aload 4, 2) := by decide +kernel
theorem dX11_historyWith_15 : decode cX11_historyWith 15 = .ok (.getfield 268, 3) := by decide +kernel
theorem dX11_historyWith_18 : decode cX11_historyWith 18 = .ok (.iconst 1, 1) := by decide +kernel
theorem dX11_historyWith_19 : decode cX11_historyWith 19 = .ok (.isub, 1) := by decide +kernel
theorem dX11_historyWith_20 : decode cX11_historyWith 20 = .ok (.invokestatic 89, 3) := by decide +kernel
theorem dX11_historyWith_23 : decode cX11_historyWith 23 = .ok (.ifCond .ne 14, 3) := by decide +kernel
theorem dX11_historyWith_26 : decode cX11_historyWith 26 = .ok (.new 92, 3) := by decide +kernel
theorem dX11_historyWith_29 : decode cX11_historyWith 29 = .ok (.dup, 1) := by decide +kernel
theorem dX11_historyWith_30 : decode cX11_historyWith 30 = .ok (.ldc_w 330, 3) := by decide +kernel
theorem dX11_historyWith_33 : decode cX11_historyWith 33 = .ok (.invokespecial 96, 3) := by decide +kernel
theorem dX11_historyWith_36 : decode cX11_historyWith 36 = .ok (.athrow, 1) := by decide +kernel
theorem dX11_historyWith_37 : decode cX11_historyWith 37 = .ok (.aload 4, 2) := by decide +kernel
theorem dX11_historyWith_39 : decode cX11_historyWith 39 = .ok (.areturn, 1) := by decide +kernel
theorem e_X11_historyWith_0 (d : Nat) {l0 l1 l2 l3 : Int} {m : Mem} {e v : Int} {m' : Mem} (h : X11_historyWith_0 l0 l1 l2 l3 m = some (e, v, m')) : Ex (d + 3) fm_X11_historyWith 0 [(21, l0), (0, l1), (0, l2), (0, l3), (3, 0)] [] m (rr9 13 e v) m' := by
  unfold X11_historyWith_0 at h
  refine x_aload_n dX11_historyWith_0 rfl rfl (Or.inr (by decide)) (?_ : Ex _ _ 1 _ _ _ _ _)
  refine x_iload_n dX11_historyWith_1 rfl rfl (?_ : Ex _ _ 2 _ _ _ _ _)
  refine x_iload_n dX11_historyWith_2 rfl rfl (?_ : Ex _ _ 3 _ _ _ _ _)
  obtain ⟨c1, h⟩ := chk_some h
  rcases calX_some h with ⟨v2, m3, g4, h⟩ | ⟨e13, v2, m3, x12, g4, h⟩
  · refine cV2 (e_X11_runOf d g4) (cont0 (by decide) (?_ : Ex _ _ 6 _ _ _ _ _)) og_X11_runOf rfl ml_RX11_264 11 rfl rfl c1 im_X11_runOf se_X11_runOf (Nat.le_of_ble_eq_true rfl) dX11_historyWith_3
    obtain ⟨c5, h⟩ := chk_some h
    refine gt_7_0 c5 fl_RX11_144 dX11_historyWith_6 (?_ : Ex _ _ 9 _ _ _ _ _)
    refine x_astore (ls2 := [(21, l0), (0, l1), (0, l2), (0, l3), (13, m3 v2 0)]) dX11_historyWith_9 (Nat.le_of_ble_eq_true rfl) (Or.inr (by decide)) rfl (?_ : Ex _ _ 11 _ _ _ _ _)
    refine x_iload_n dX11_historyWith_11 rfl rfl (?_ : Ex _ _ 12 _ _ _ _ _)
    refine x_iconst dX11_historyWith_12 rfl (by decide) (?_ : Ex _ _ 13 _ _ _ _ _)
    refine x_aload dX11_historyWith_13 rfl (Or.inr (by decide)) (?_ : Ex _ _ 15 _ _ _ _ _)
    obtain ⟨c6, h⟩ := chk_some h
    refine gt_3_3 c6 fl_RX11_268 dX11_historyWith_15 (?_ : Ex _ _ 18 _ _ _ _ _)
    refine x_iconst dX11_historyWith_18 rfl (by decide) (?_ : Ex _ _ 19 _ _ _ _ _)
    obtain ⟨c7, h⟩ := chk_some h
    refine x_isub dX11_historyWith_19 c7 (?_ : Ex _ _ 20 _ _ _ _ _)
    obtain ⟨v8, m9, g10, h⟩ := cal_some h
    refine cS3 (e_X11_isWithin (d + 2) g10) (contN (by decide) (?_ : Ex _ _ 23 _ _ _ _ _)) og_X11_isWithin rfl ml_RX11_89 sm_X11_isWithin (Nat.le_of_ble_eq_true rfl) dX11_historyWith_20
    rcases ite_some h with ⟨b11, h⟩ | ⟨b11, h⟩
    · refine x_if_neN dX11_historyWith_23 (by decide) (fun hh => hh b11) (?_ : Ex _ _ 26 _ _ _ _ _)
      cases h
      exact y_throwW (by decide) to_RX11_92_330 rfl (Nat.le_of_ble_eq_true rfl) dX11_historyWith_26 dX11_historyWith_29 dX11_historyWith_30 dX11_historyWith_33 dX11_historyWith_36 rfl rfl rfl rfl
    · refine x_if_ne (tgt := 37) dX11_historyWith_23 rfl b11 (?_ : Ex _ _ 37 _ _ _ _ _)
      refine x_aload dX11_historyWith_37 rfl (Or.inr (by decide)) (?_ : Ex _ _ 39 _ _ _ _ _)
      cases h
      exact y_retX dX11_historyWith_39 (by decide)
  · cases h
    exact cV2 (e_X11_runOf d g4) (contE x12 rfl) og_X11_runOf rfl ml_RX11_264 11 rfl rfl c1 im_X11_runOf se_X11_runOf (Nat.le_of_ble_eq_true rfl) dX11_historyWith_3
theorem e_X11_historyWith (d : Nat) {a0 a1 a2 a3 : Int} {m : Mem} {e v : Int} {m' : Mem} (h : X11_historyWith a0 a1 a2 a3 m = some (e, v, m')) : ExM (d + 3) fm_X11_historyWith [(21, a0), (0, a1), (0, a2), (0, a3)] m (rr9 13 e v) m' := by
  exact ExM.of (by decide +kernel) (Nat.le_of_ble_eq_true rfl) (cat9 rfl) (retRX (by decide)) (e_X11_historyWith_0 d h)
