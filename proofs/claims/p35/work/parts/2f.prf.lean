/-! the machine does what the functions say, printed -/
theorem dX11_eventKind_0 : decode cX11_eventKind 0 = .ok (.aload_n 0, 1) := by decide +kernel
theorem dX11_eventKind_1 : decode cX11_eventKind 1 = .ok (.iload_n 1, 1) := by decide +kernel
theorem dX11_eventKind_2 : decode cX11_eventKind 2 = .ok (.iload_n 2, 1) := by decide +kernel
theorem dX11_eventKind_3 : decode cX11_eventKind 3 = .ok (.iload_n 3, 1) := by decide +kernel
theorem dX11_eventKind_4 : decode cX11_eventKind 4 = .ok (.invokevirtual 271, 3) := by decide +kernel
theorem dX11_eventKind_7 : decode cX11_eventKind 7 = .ok (.getfield 275, 3) := by decide +kernel
theorem dX11_eventKind_10 : decode cX11_eventKind 10 = .ok (.iload_n 3, 1) := by decide +kernel
theorem dX11_eventKind_11 : decode cX11_eventKind 11 = .ok (.iaload, 1) := by decide +kernel
theorem dX11_eventKind_12 : decode cX11_eventKind 12 = .ok (.ireturn, 1) := by decide +kernel
theorem e_X11_eventKind_0 (d : Nat) {l0 l1 l2 l3 : Int} {m : Mem} {e v : Int} {m' : Mem} (h : X11_eventKind_0 l0 l1 l2 l3 m = some (e, v, m')) : Ex (d + 4) fm_X11_eventKind 0 [(21, l0), (0, l1), (0, l2), (0, l3)] [] m (rr9 0 e v) m' := by
  unfold X11_eventKind_0 at h
  refine x_aload_n dX11_eventKind_0 rfl rfl (Or.inr (by decide)) (?_ : Ex _ _ 1 _ _ _ _ _)
  refine x_iload_n dX11_eventKind_1 rfl rfl (?_ : Ex _ _ 2 _ _ _ _ _)
  refine x_iload_n dX11_eventKind_2 rfl rfl (?_ : Ex _ _ 3 _ _ _ _ _)
  refine x_iload_n dX11_eventKind_3 rfl rfl (?_ : Ex _ _ 4 _ _ _ _ _)
  obtain ⟨c1, h⟩ := chk_some h
  rcases calX_some h with ⟨v2, m3, g4, h⟩ | ⟨e10, v2, m3, x9, g4, h⟩
  · refine cV3 (e_X11_historyWith d g4) (cont0 (by decide) (?_ : Ex _ _ 7 _ _ _ _ _)) og_X11_historyWith rfl ml_RX11_271 11 rfl rfl c1 im_X11_historyWith se_X11_historyWith (Nat.le_of_ble_eq_true rfl) dX11_eventKind_4
    obtain ⟨c5, h⟩ := chk_some h
    refine gt_3_0 c5 fl_RX11_275 dX11_eventKind_7 (?_ : Ex _ _ 10 _ _ _ _ _)
    refine x_iload_n dX11_eventKind_10 rfl rfl (?_ : Ex _ _ 11 _ _ _ _ _)
    obtain ⟨⟨c6, c7, c8⟩, h⟩ := chk_some h
    refine ld_i_80 c6 c7 c8 dX11_eventKind_11 (?_ : Ex _ _ 12 _ _ _ _ _)
    cases h
    exact y_retX dX11_eventKind_12 (by decide)
  · cases h
    exact cV3 (e_X11_historyWith d g4) (contE x9 rfl) og_X11_historyWith rfl ml_RX11_271 11 rfl rfl c1 im_X11_historyWith se_X11_historyWith (Nat.le_of_ble_eq_true rfl) dX11_eventKind_4
theorem e_X11_eventKind (d : Nat) {a0 a1 a2 a3 : Int} {m : Mem} {e v : Int} {m' : Mem} (h : X11_eventKind a0 a1 a2 a3 m = some (e, v, m')) : ExM (d + 4) fm_X11_eventKind [(21, a0), (0, a1), (0, a2), (0, a3)] m (rr9 0 e v) m' := by
  exact ExM.of (by decide +kernel) (Nat.le_of_ble_eq_true rfl) (cat9 rfl) retIX (e_X11_eventKind_0 d h)
theorem dX11_eventNumber_0 : decode cX11_eventNumber 0 = .ok (.aload_n 0, 1) := by decide +kernel
theorem dX11_eventNumber_1 : decode cX11_eventNumber 1 = .ok (.iload_n 1, 1) := by decide +kernel
theorem dX11_eventNumber_2 : decode cX11_eventNumber 2 = .ok (.iload_n 2, 1) := by decide +kernel
theorem dX11_eventNumber_3 : decode cX11_eventNumber 3 = .ok (.iload_n 3, 1) := by decide +kernel
theorem dX11_eventNumber_4 : decode cX11_eventNumber 4 = .ok (.invokevirtual 271, 3) := by decide +kernel
theorem dX11_eventNumber_7 : decode cX11_eventNumber 7 = .ok (.astore 5, 2) := by decide +kernel
theorem dX11_eventNumber_9 : decode cX11_eventNumber 9 = .ok (.iload 4, 2) := by decide +kernel
theorem dX11_eventNumber_11 : decode cX11_eventNumber 11 = .ok (.ifCond .eq 13, 3) := by decide +kernel
theorem dX11_eventNumber_14 : decode cX11_eventNumber 14 = .ok (.aload 5, 2) := by decide +kernel
theorem dX11_eventNumber_16 : decode cX11_eventNumber 16 = .ok (.getfield 278, 3) := by decide +kernel
theorem dX11_eventNumber_19 : decode cX11_eventNumber 19 = .ok (.iload_n 3, 1) := by decide +kernel
theorem dX11_eventNumber_20 : decode cX11_eventNumber 20 = .ok (.iaload, 1) := by decide +kernel
theorem dX11_eventNumber_21 : decode cX11_eventNumber 21 = .ok (.goto 10, 3) := by decide +kernel
theorem dX11_eventNumber_24 : decode cX11_eventNumber 24 = .ok (.aload 5, 2) := by decide +kernel
theorem dX11_eventNumber_26 : decode cX11_eventNumber 26 = .ok (.getfield 281, 3) := by decide +kernel
theorem dX11_eventNumber_29 : decode cX11_eventNumber 29 = .ok (.iload_n 3, 1) := by decide +kernel
theorem dX11_eventNumber_30 : decode cX11_eventNumber 30 = .ok (.iaload, 1) := by decide +kernel
theorem dX11_eventNumber_31 : decode cX11_eventNumber 31 = .ok (.ireturn, 1) := by decide +kernel
theorem e_X11_eventNumber_0 (d : Nat) {l0 l1 l2 l3 l4 : Int} {m : Mem} {e v : Int} {m' : Mem} (h : X11_eventNumber_0 l0 l1 l2 l3 l4 m = some (e, v, m')) : Ex (d + 4) fm_X11_eventNumber 0 [(21, l0), (0, l1), (0, l2), (0, l3), (0, l4), (3, 0)] [] m (rr9 0 e v) m' := by
  unfold X11_eventNumber_0 at h
  refine x_aload_n dX11_eventNumber_0 rfl rfl (Or.inr (by decide)) (?_ : Ex _ _ 1 _ _ _ _ _)
  refine x_iload_n dX11_eventNumber_1 rfl rfl (?_ : Ex _ _ 2 _ _ _ _ _)
  refine x_iload_n dX11_eventNumber_2 rfl rfl (?_ : Ex _ _ 3 _ _ _ _ _)
  refine x_iload_n dX11_eventNumber_3 rfl rfl (?_ : Ex _ _ 4 _ _ _ _ _)
  obtain ⟨c1, h⟩ := chk_some h
  rcases calX_some h with ⟨v2, m3, g4, h⟩ | ⟨e15, v2, m3, x14, g4, h⟩
  · refine cV3 (e_X11_historyWith d g4) (cont0 (by decide) (?_ : Ex _ _ 7 _ _ _ _ _)) og_X11_historyWith rfl ml_RX11_271 11 rfl rfl c1 im_X11_historyWith se_X11_historyWith (Nat.le_of_ble_eq_true rfl) dX11_eventNumber_4
    refine x_astore (ls2 := [(21, l0), (0, l1), (0, l2), (0, l3), (0, l4), (13, v2)]) dX11_eventNumber_7 (Nat.le_of_ble_eq_true rfl) (Or.inr (by decide)) rfl (?_ : Ex _ _ 9 _ _ _ _ _)
    refine x_iload dX11_eventNumber_9 rfl (?_ : Ex _ _ 11 _ _ _ _ _)
    rcases ite_some h with ⟨b5, h⟩ | ⟨b5, h⟩
    · refine x_if_eq (tgt := 24) dX11_eventNumber_11 rfl b5 (?_ : Ex _ _ 24 _ _ _ _ _)
      refine x_aload dX11_eventNumber_24 rfl (Or.inr (by decide)) (?_ : Ex _ _ 26 _ _ _ _ _)
      obtain ⟨c6, h⟩ := chk_some h
      refine gt_3_2 c6 fl_RX11_281 dX11_eventNumber_26 (?_ : Ex _ _ 29 _ _ _ _ _)
      refine x_iload_n dX11_eventNumber_29 rfl rfl (?_ : Ex _ _ 30 _ _ _ _ _)
      obtain ⟨⟨c7, c8, c9⟩, h⟩ := chk_some h
      refine ld_i_80 c7 c8 c9 dX11_eventNumber_30 (?_ : Ex _ _ 31 _ _ _ _ _)
      cases h
      exact y_retX dX11_eventNumber_31 (by decide)
    · refine x_if_eqN dX11_eventNumber_11 (by decide) b5 (?_ : Ex _ _ 14 _ _ _ _ _)
      refine x_aload dX11_eventNumber_14 rfl (Or.inr (by decide)) (?_ : Ex _ _ 16 _ _ _ _ _)
      obtain ⟨c10, h⟩ := chk_some h
      refine gt_3_1 c10 fl_RX11_278 dX11_eventNumber_16 (?_ : Ex _ _ 19 _ _ _ _ _)
      refine x_iload_n dX11_eventNumber_19 rfl rfl (?_ : Ex _ _ 20 _ _ _ _ _)
      obtain ⟨⟨c11, c12, c13⟩, h⟩ := chk_some h
      refine ld_i_80 c11 c12 c13 dX11_eventNumber_20 (?_ : Ex _ _ 21 _ _ _ _ _)
      refine x_goto (tgt := 31) dX11_eventNumber_21 rfl (?_ : Ex _ _ 31 _ _ _ _ _)
      cases h
      exact y_retX dX11_eventNumber_31 (by decide)
  · cases h
    exact cV3 (e_X11_historyWith d g4) (contE x14 rfl) og_X11_historyWith rfl ml_RX11_271 11 rfl rfl c1 im_X11_historyWith se_X11_historyWith (Nat.le_of_ble_eq_true rfl) dX11_eventNumber_4
theorem e_X11_eventNumber (d : Nat) {a0 a1 a2 a3 a4 : Int} {m : Mem} {e v : Int} {m' : Mem} (h : X11_eventNumber a0 a1 a2 a3 a4 m = some (e, v, m')) : ExM (d + 4) fm_X11_eventNumber [(21, a0), (0, a1), (0, a2), (0, a3), (0, a4)] m (rr9 0 e v) m' := by
  exact ExM.of (by decide +kernel) (Nat.le_of_ble_eq_true rfl) (cat9 rfl) retIX (e_X11_eventNumber_0 d h)
theorem dX11_checkProperty_0 : decode cX11_checkProperty 0 = .ok (.iload_n 0, 1) := by decide +kernel
theorem dX11_checkProperty_1 : decode cX11_checkProperty 1 = .ok (.iconst 0, 1) := by decide +kernel
theorem dX11_checkProperty_2 : decode cX11_checkProperty 2 = .ok (.iconst 1, 1) := by decide +kernel
theorem dX11_checkProperty_3 : decode cX11_checkProperty 3 = .ok (.invokestatic 89, 3) := by decide +kernel
theorem dX11_checkProperty_6 : decode cX11_checkProperty 6 = .ok (.ifCond .ne 14, 3) := by decide +kernel
theorem dX11_checkProperty_9 : decode cX11_checkProperty 9 = .ok (.new 51, 3) := by decide +kernel
theorem dX11_checkProperty_12 : decode cX11_checkProperty 12 = .ok (.dup, 1) := by decide +kernel
theorem dX11_checkProperty_13 : decode cX11_checkProperty 13 = .ok (.ldc_w 338, 3) := by decide +kernel
theorem dX11_checkProperty_16 : decode cX11_checkProperty 16 = .ok (.invokespecial 55, 3) := by decide +kernel
theorem dX11_checkProperty_19 : decode cX11_checkProperty 19 = .ok (.athrow, 1) := by decide +kernel
theorem dX11_checkProperty_20 : decode cX11_checkProperty 20 = .ok (.return_, 1) := by decide +kernel
theorem e_X11_checkProperty_0 (d : Nat) {l0 : Int} {m : Mem} {e v : Int} {m' : Mem} (h : X11_checkProperty_0 l0 m = some (e, v, m')) : Ex (d + 1) fm_X11_checkProperty 0 [(0, l0)] [] m (rr9 3 e v) m' := by
  unfold X11_checkProperty_0 at h
  refine x_iload_n dX11_checkProperty_0 rfl rfl (?_ : Ex _ _ 1 _ _ _ _ _)
  refine x_iconst dX11_checkProperty_1 rfl (by decide) (?_ : Ex _ _ 2 _ _ _ _ _)
  refine x_iconst dX11_checkProperty_2 rfl (by decide) (?_ : Ex _ _ 3 _ _ _ _ _)
  obtain ⟨v1, m2, g3, h⟩ := cal_some h
  refine cS3 (e_X11_isWithin d g3) (contN (by decide) (?_ : Ex _ _ 6 _ _ _ _ _)) og_X11_isWithin rfl ml_RX11_89 sm_X11_isWithin (Nat.le_of_ble_eq_true rfl) dX11_checkProperty_3
  rcases ite_some h with ⟨b4, h⟩ | ⟨b4, h⟩
  · refine x_if_neN dX11_checkProperty_6 (by decide) (fun hh => hh b4) (?_ : Ex _ _ 9 _ _ _ _ _)
    cases h
    exact y_throwW (by decide) to_RX11_51_338 rfl (Nat.le_of_ble_eq_true rfl) dX11_checkProperty_9 dX11_checkProperty_12 dX11_checkProperty_13 dX11_checkProperty_16 dX11_checkProperty_19 rfl rfl rfl rfl
  · refine x_if_ne (tgt := 20) dX11_checkProperty_6 rfl b4 (?_ : Ex _ _ 20 _ _ _ _ _)
    cases h
    exact y_retvX dX11_checkProperty_20
theorem e_X11_checkProperty (d : Nat) {a0 : Int} {m : Mem} {e v : Int} {m' : Mem} (h : X11_checkProperty a0 m = some (e, v, m')) : ExM (d + 1) fm_X11_checkProperty [(0, a0)] m (rr9 3 e v) m' := by
  exact ExM.of (by decide +kernel) (Nat.le_of_ble_eq_true rfl) (cat9 rfl) retVX (e_X11_checkProperty_0 d h)
theorem dX11_found_0 : decode cX11_found 0 = .ok (.iload_n 1, 1) := by decide +kernel
theorem dX11_found_1 : decode cX11_found 1 = .ok (.invokestatic 284, 3) := by decide +kernel
theorem dX11_found_4 : decode cX11_found 4 = .ok (.iload_n 2, 1) := by decide +kernel
theorem dX11_found_5 : decode cX11_found 5 = .ok (.iload_n 3, 1) := by decide +kernel
theorem dX11_found_6 : decode cX11_found 6 = .ok (.if_icmp .le 14, 3) := by decide +kernel
theorem dX11_found_9 : decode cX11_found 9 = .ok (.new 51, 3) := by decide +kernel
theorem dX11_found_12 : decode cX11_found 12 = .ok (.dup, 1) := by decide +kernel
theorem dX11_found_13 : decode cX11_found 13 = .ok (.ldc_w 290, 3) := by decide +kernel
theorem dX11_found_16 : decode cX11_found 16 = .ok (.invokespecial 55, 3) := by decide +kernel
theorem dX11_found_19 : decode cX11_found 19 = .ok (.athrow, 1) := by decide +kernel
theorem dX11_found_20 : decode cX11_found 20 = .ok (.iconst 0, 1) := by decide +kernel
theorem dX11_found_21 : decode cX11_found 21 = .ok (.istore 4, 2) := by decide +kernel
theorem dX11_found_23 : decode cX11_found 23 = .ok (.iconst 0, 1) := by decide +kernel
theorem dX11_found_24 : decode cX11_found 24 = .ok (.istore 5, 2) := by decide +kernel
theorem dX11_found_26 : decode cX11_found 26 = .ok (.iload 5, 2) := by decide +kernel
theorem dX11_found_28 : decode cX11_found 28 = .ok (.aload_n 0, 1) := by decide +kernel
theorem dX11_found_29 : decode cX11_found 29 = .ok (.getfield 99, 3) := by decide +kernel
theorem dX11_found_32 : decode cX11_found 32 = .ok (.if_icmp .ge 50, 3) := by decide +kernel
theorem dX11_found_35 : decode cX11_found 35 = .ok (.aload_n 0, 1) := by decide +kernel
theorem dX11_found_36 : decode cX11_found 36 = .ok (.getfield 17, 3) := by decide +kernel
theorem dX11_found_39 : decode cX11_found 39 = .ok (.iload 5, 2) := by decide +kernel
theorem dX11_found_41 : decode cX11_found 41 = .ok (.aaload, 1) := by decide +kernel
theorem dX11_found_42 : decode cX11_found 42 = .ok (.getfield 120, 3) := by decide +kernel
theorem dX11_found_45 : decode cX11_found 45 = .ok (.getfield 136, 3) := by decide +kernel
theorem dX11_found_48 : decode cX11_found 48 = .ok (.bipush 20, 2) := by decide +kernel
theorem dX11_found_50 : decode cX11_found 50 = .ok (.if_icmp .ne 26, 3) := by decide +kernel
theorem dX11_found_53 : decode cX11_found 53 = .ok (.aload_n 0, 1) := by decide +kernel
theorem dX11_found_54 : decode cX11_found 54 = .ok (.getfield 17, 3) := by decide +kernel
theorem dX11_found_57 : decode cX11_found 57 = .ok (.iload 5, 2) := by decide +kernel
theorem dX11_found_59 : decode cX11_found 59 = .ok (.aaload, 1) := by decide +kernel
theorem dX11_found_60 : decode cX11_found 60 = .ok (.getfield 287, 3) := by decide +kernel
theorem dX11_found_63 : decode cX11_found 63 = .ok (.iload_n 1, 1) := by decide +kernel
theorem dX11_found_64 : decode cX11_found 64 = .ok (.iaload, 1) := by decide +kernel
theorem dX11_found_65 : decode cX11_found 65 = .ok (.iload_n 2, 1) := by decide +kernel
theorem dX11_found_66 : decode cX11_found 66 = .ok (.iload_n 3, 1) := by decide +kernel
theorem dX11_found_67 : decode cX11_found 67 = .ok (.invokestatic 89, 3) := by decide +kernel
theorem dX11_found_70 : decode cX11_found 70 = .ok (.ifCond .eq 6, 3) := by decide +kernel
theorem dX11_found_73 : decode cX11_found 73 = .ok (.iinc 4 1, 3) := by decide +kernel
theorem dX11_found_76 : decode cX11_found 76 = .ok (.iinc 5 1, 3) := by decide +kernel
theorem dX11_found_79 : decode cX11_found 79 = .ok (.goto (-53), 3) := by decide +kernel
theorem dX11_found_82 : decode cX11_found 82 = .ok (.iload 4, 2) := by decide +kernel
theorem dX11_found_84 : decode cX11_found 84 = .ok (.ireturn, 1) := by decide +kernel
theorem e_X11_found_26 (d : Nat) : ∀ (n : Nat) {l0 l1 l2 l3 l4 l5 : Int} {m : Mem} {e v : Int} {m' : Mem}, X11_found_26 n l0 l1 l2 l3 l4 l5 m = some (e, v, m') → Ex (d + 2) fm_X11_found 26 [(21, l0), (0, l1), (0, l2), (0, l3), (0, l4), (0, l5)] [] m (rr9 0 e v) m' := by
  intro n
  induction n with
  | zero =>
    intro l0 l1 l2 l3 l4 l5 m e v m' h
    have h : (none : Option R3) = some _ := h
    cases h
  | succ n ih =>
    intro l0 l1 l2 l3 l4 l5 m e v m' h
    rw [X11_found_26] at h
    refine x_iload dX11_found_26 rfl (?_ : Ex _ _ 28 _ _ _ _ _)
    refine x_aload_n dX11_found_28 rfl rfl (Or.inr (by decide)) (?_ : Ex _ _ 29 _ _ _ _ _)
    obtain ⟨c1, h⟩ := chk_some h
    refine gt_11_5 c1 fl_RX11_99 dX11_found_29 (?_ : Ex _ _ 32 _ _ _ _ _)
    rcases ite_some h with ⟨b2, h⟩ | ⟨b2, h⟩
    · refine x_icmp_ge (tgt := 82) dX11_found_32 rfl b2 (?_ : Ex _ _ 82 _ _ _ _ _)
      refine x_iload dX11_found_82 rfl (?_ : Ex _ _ 84 _ _ _ _ _)
      cases h
      exact y_retX dX11_found_84 (by decide)
    · refine x_icmp_geN dX11_found_32 (by decide) b2 (?_ : Ex _ _ 35 _ _ _ _ _)
      refine x_aload_n dX11_found_35 rfl rfl (Or.inr (by decide)) (?_ : Ex _ _ 36 _ _ _ _ _)
      refine gt_11_1 c1 fl_RX11_17 dX11_found_36 (?_ : Ex _ _ 39 _ _ _ _ _)
      refine x_iload dX11_found_39 rfl (?_ : Ex _ _ 41 _ _ _ _ _)
      obtain ⟨⟨c3, c4, c5⟩, h⟩ := chk_some h
      refine ad_10_10 c3 c4 c5 dX11_found_41 (?_ : Ex _ _ 42 _ _ _ _ _)
      obtain ⟨c6, h⟩ := chk_some h
      refine gt_10_6 c6 fl_RX11_120 dX11_found_42 (?_ : Ex _ _ 45 _ _ _ _ _)
      obtain ⟨c7, h⟩ := chk_some h
      refine gt_7_7 c7 fl_RX11_136 dX11_found_45 (?_ : Ex _ _ 48 _ _ _ _ _)
      refine x_bipush dX11_found_48 kb_20 (by decide) (?_ : Ex _ _ 50 _ _ _ _ _)
      rcases ite_some h with ⟨b8, h⟩ | ⟨b8, h⟩
      · refine x_icmp_neN dX11_found_50 (by decide) (fun hh => hh b8) (?_ : Ex _ _ 53 _ _ _ _ _)
        refine x_aload_n dX11_found_53 rfl rfl (Or.inr (by decide)) (?_ : Ex _ _ 54 _ _ _ _ _)
        refine gt_11_1 c1 fl_RX11_17 dX11_found_54 (?_ : Ex _ _ 57 _ _ _ _ _)
        refine x_iload dX11_found_57 rfl (?_ : Ex _ _ 59 _ _ _ _ _)
        obtain ⟨⟨c10, c11⟩, h⟩ := chk_some h
        refine ad_10_10 c3 c10 c11 dX11_found_59 (?_ : Ex _ _ 60 _ _ _ _ _)
        refine gt_10_3 c6 fl_RX11_287 dX11_found_60 (?_ : Ex _ _ 63 _ _ _ _ _)
        refine x_iload_n dX11_found_63 rfl rfl (?_ : Ex _ _ 64 _ _ _ _ _)
        obtain ⟨⟨c12, c13, c14⟩, h⟩ := chk_some h
        refine ld_i_2 c12 c13 c14 dX11_found_64 (?_ : Ex _ _ 65 _ _ _ _ _)
        refine x_iload_n dX11_found_65 rfl rfl (?_ : Ex _ _ 66 _ _ _ _ _)
        refine x_iload_n dX11_found_66 rfl rfl (?_ : Ex _ _ 67 _ _ _ _ _)
        obtain ⟨v15, m16, g17, h⟩ := cal_some h
        refine cS3 (e_X11_isWithin (d + 1) g17) (contN (by decide) (?_ : Ex _ _ 70 _ _ _ _ _)) og_X11_isWithin rfl ml_RX11_89 sm_X11_isWithin (Nat.le_of_ble_eq_true rfl) dX11_found_67
        rcases ite_some h with ⟨b18, h⟩ | ⟨b18, h⟩
        · refine x_if_eq (tgt := 76) dX11_found_70 rfl b18 (?_ : Ex _ _ 76 _ _ _ _ _)
          obtain ⟨c19, h⟩ := chk_some h
          refine x_iinc (ls2 := [(21, l0), (0, l1), (0, l2), (0, l3), (0, l4), (0, (l5 + 1))]) dX11_found_76 rfl c19 rfl (?_ : Ex _ _ 79 _ _ _ _ _)
          refine x_goto (tgt := 26) dX11_found_79 rfl (?_ : Ex _ _ 26 _ _ _ _ _)
          exact ih h
        · refine x_if_eqN dX11_found_70 (by decide) b18 (?_ : Ex _ _ 73 _ _ _ _ _)
          obtain ⟨c20, h⟩ := chk_some h
          refine x_iinc (ls2 := [(21, l0), (0, l1), (0, l2), (0, l3), (0, (l4 + 1)), (0, l5)]) dX11_found_73 rfl c20 rfl (?_ : Ex _ _ 76 _ _ _ _ _)
          obtain ⟨c21, h⟩ := chk_some h
          refine x_iinc (ls2 := [(21, l0), (0, l1), (0, l2), (0, l3), (0, (l4 + 1)), (0, (l5 + 1))]) dX11_found_76 rfl c21 rfl (?_ : Ex _ _ 79 _ _ _ _ _)
          refine x_goto (tgt := 26) dX11_found_79 rfl (?_ : Ex _ _ 26 _ _ _ _ _)
          exact ih h
      · refine x_icmp_ne (tgt := 76) dX11_found_50 rfl b8 (?_ : Ex _ _ 76 _ _ _ _ _)
        obtain ⟨c9, h⟩ := chk_some h
        refine x_iinc (ls2 := [(21, l0), (0, l1), (0, l2), (0, l3), (0, l4), (0, (l5 + 1))]) dX11_found_76 rfl c9 rfl (?_ : Ex _ _ 79 _ _ _ _ _)
        refine x_goto (tgt := 26) dX11_found_79 rfl (?_ : Ex _ _ 26 _ _ _ _ _)
        exact ih h
theorem e_X11_found_0 (d : Nat) {l0 l1 l2 l3 : Int} {m : Mem} {e v : Int} {m' : Mem} (h : X11_found_0 l0 l1 l2 l3 m = some (e, v, m')) : Ex (d + 2) fm_X11_found 0 [(21, l0), (0, l1), (0, l2), (0, l3), (3, 0), (3, 0)] [] m (rr9 0 e v) m' := by
  unfold X11_found_0 at h
  refine x_iload_n dX11_found_0 rfl rfl (?_ : Ex _ _ 1 _ _ _ _ _)
  rcases calX_some h with ⟨v1, m2, g3, h⟩ | ⟨e6, v1, m2, x5, g3, h⟩
  · refine cS1 (e_X11_checkProperty d g3) (cont0V (?_ : Ex _ _ 4 _ _ _ _ _)) og_X11_checkProperty rfl ml_RX11_284 sm_X11_checkProperty (Nat.le_of_ble_eq_true rfl) dX11_found_1
    refine x_iload_n dX11_found_4 rfl rfl (?_ : Ex _ _ 5 _ _ _ _ _)
    refine x_iload_n dX11_found_5 rfl rfl (?_ : Ex _ _ 6 _ _ _ _ _)
    rcases ite_some h with ⟨b4, h⟩ | ⟨b4, h⟩
    · refine x_icmp_le (tgt := 20) dX11_found_6 rfl b4 (?_ : Ex _ _ 20 _ _ _ _ _)
      refine x_iconst dX11_found_20 rfl (by decide) (?_ : Ex _ _ 21 _ _ _ _ _)
      refine x_istore (ls2 := [(21, l0), (0, l1), (0, l2), (0, l3), (0, 0), (3, 0)]) dX11_found_21 (Nat.le_of_ble_eq_true rfl) rfl (?_ : Ex _ _ 23 _ _ _ _ _)
      refine x_iconst dX11_found_23 rfl (by decide) (?_ : Ex _ _ 24 _ _ _ _ _)
      refine x_istore (ls2 := [(21, l0), (0, l1), (0, l2), (0, l3), (0, 0), (0, 0)]) dX11_found_24 (Nat.le_of_ble_eq_true rfl) rfl (?_ : Ex _ _ 26 _ _ _ _ _)
      exact e_X11_found_26 d fuel9 h
    · refine x_icmp_leN dX11_found_6 (by decide) b4 (?_ : Ex _ _ 9 _ _ _ _ _)
      cases h
      exact y_throwW (by decide) to_RX11_51_290 rfl (Nat.le_of_ble_eq_true rfl) dX11_found_9 dX11_found_12 dX11_found_13 dX11_found_16 dX11_found_19 rfl rfl rfl rfl
  · cases h
    exact cS1 (e_X11_checkProperty d g3) (contE x5 rfl) og_X11_checkProperty rfl ml_RX11_284 sm_X11_checkProperty (Nat.le_of_ble_eq_true rfl) dX11_found_1
theorem e_X11_found (d : Nat) {a0 a1 a2 a3 : Int} {m : Mem} {e v : Int} {m' : Mem} (h : X11_found a0 a1 a2 a3 m = some (e, v, m')) : ExM (d + 2) fm_X11_found [(21, a0), (0, a1), (0, a2), (0, a3)] m (rr9 0 e v) m' := by
  exact ExM.of (by decide +kernel) (Nat.le_of_ble_eq_true rfl) (cat9 rfl) retIX (e_X11_found_0 d h)
theorem dX11_isDue_0 : decode cX11_isDue 0 = .ok (.aload_n 0, 1) := by decide +kernel
theorem dX11_isDue_1 : decode cX11_isDue 1 = .ok (.iload_n 1, 1) := by decide +kernel
theorem dX11_isDue_2 : decode cX11_isDue 2 = .ok (.invokevirtual 114, 3) := by decide +kernel
theorem dX11_isDue_5 : decode cX11_isDue 5 = .ok (.getfield 120, 3) := by decide +kernel
theorem dX11_isDue_8 : decode cX11_isDue 8 = .ok (.astore_n 2, 1) := by decide +kernel
theorem dX11_isDue_9 : decode cX11_isDue 9 = .ok (.aload_n 2, 1) := by decide +kernel
theorem dX11_isDue_10 : decode cX11_isDue 10 = .ok (.getfield 136, 3) := by decide +kernel
theorem dX11_isDue_13 : decode cX11_isDue 13 = .ok (.bipush 20, 2) := by decide +kernel
theorem dX11_isDue_15 : decode cX11_isDue 15 = .ok (.if_icmp .ne 14, 3) := by decide +kernel
theorem dX11_isDue_18 : decode cX11_isDue 18 = .ok (.aload_n 2, 1) := by decide +kernel
theorem dX11_isDue_19 : decode cX11_isDue 19 = .ok (.invokevirtual 141, 3) := by decide +kernel
theorem dX11_isDue_22 : decode cX11_isDue 22 = .ok (.ifCond .eq 7, 3) := by decide +kernel
theorem dX11_isDue_25 : decode cX11_isDue 25 = .ok (.iconst 1, 1) := by decide +kernel
theorem dX11_isDue_26 : decode cX11_isDue 26 = .ok (.goto 4, 3) := by decide +kernel
theorem dX11_isDue_29 : decode cX11_isDue 29 = .ok (.iconst 0, 1) := by decide +kernel
theorem dX11_isDue_30 : decode cX11_isDue 30 = .ok (.ireturn, 1) := by decide +kernel
theorem e_X11_isDue_0 (d : Nat) {l0 l1 : Int} {m : Mem} {e v : Int} {m' : Mem} (h : X11_isDue_0 l0 l1 m = some (e, v, m')) : Ex (d + 2) fm_X11_isDue 0 [(21, l0), (0, l1), (3, 0)] [] m (rr9 0 e v) m' := by
  unfold X11_isDue_0 at h
  refine x_aload_n dX11_isDue_0 rfl rfl (Or.inr (by decide)) (?_ : Ex _ _ 1 _ _ _ _ _)
  refine x_iload_n dX11_isDue_1 rfl rfl (?_ : Ex _ _ 2 _ _ _ _ _)
  obtain ⟨c1, h⟩ := chk_some h
  rcases calX_some h with ⟨v2, m3, g4, h⟩ | ⟨e13, v2, m3, x12, g4, h⟩
  · refine cV1 (e_X11_flowOf d g4) (cont0 (by decide) (?_ : Ex _ _ 5 _ _ _ _ _)) og_X11_flowOf rfl ml_RX11_114 11 rfl rfl c1 im_X11_flowOf se_X11_flowOf (Nat.le_of_ble_eq_true rfl) dX11_isDue_2
    obtain ⟨c5, h⟩ := chk_some h
    refine gt_10_6 c5 fl_RX11_120 dX11_isDue_5 (?_ : Ex _ _ 8 _ _ _ _ _)
    refine x_astore_n (ls2 := [(21, l0), (0, l1), (17, m3 v2 6)]) dX11_isDue_8 rfl (Nat.le_of_ble_eq_true rfl) (Or.inr (by decide)) rfl (?_ : Ex _ _ 9 _ _ _ _ _)
    refine x_aload_n dX11_isDue_9 rfl rfl (Or.inr (by decide)) (?_ : Ex _ _ 10 _ _ _ _ _)
    obtain ⟨c6, h⟩ := chk_some h
    refine gt_7_7 c6 fl_RX11_136 dX11_isDue_10 (?_ : Ex _ _ 13 _ _ _ _ _)
    refine x_bipush dX11_isDue_13 kb_20 (by decide) (?_ : Ex _ _ 15 _ _ _ _ _)
    rcases ite_some h with ⟨b7, h⟩ | ⟨b7, h⟩
    · refine x_icmp_neN dX11_isDue_15 (by decide) (fun hh => hh b7) (?_ : Ex _ _ 18 _ _ _ _ _)
      refine x_aload_n dX11_isDue_18 rfl rfl (Or.inr (by decide)) (?_ : Ex _ _ 19 _ _ _ _ _)
      obtain ⟨v8, m9, g10, h⟩ := cal_some h
      refine cV0 (e_X7_hasNews (d + 1) g10) (contN (by decide) (?_ : Ex _ _ 22 _ _ _ _ _)) og_X7_hasNews rfl ml_RX11_141 7 rfl rfl c6 im_X7_hasNews se_X7_hasNews (Nat.le_of_ble_eq_true rfl) dX11_isDue_19
      rcases ite_some h with ⟨b11, h⟩ | ⟨b11, h⟩
      · refine x_if_eq (tgt := 29) dX11_isDue_22 rfl b11 (?_ : Ex _ _ 29 _ _ _ _ _)
        refine x_iconst dX11_isDue_29 rfl (by decide) (?_ : Ex _ _ 30 _ _ _ _ _)
        cases h
        exact y_retX dX11_isDue_30 (by decide)
      · refine x_if_eqN dX11_isDue_22 (by decide) b11 (?_ : Ex _ _ 25 _ _ _ _ _)
        refine x_iconst dX11_isDue_25 rfl (by decide) (?_ : Ex _ _ 26 _ _ _ _ _)
        refine x_goto (tgt := 30) dX11_isDue_26 rfl (?_ : Ex _ _ 30 _ _ _ _ _)
        cases h
        exact y_retX dX11_isDue_30 (by decide)
    · refine x_icmp_ne (tgt := 29) dX11_isDue_15 rfl b7 (?_ : Ex _ _ 29 _ _ _ _ _)
      refine x_iconst dX11_isDue_29 rfl (by decide) (?_ : Ex _ _ 30 _ _ _ _ _)
      cases h
      exact y_retX dX11_isDue_30 (by decide)
  · cases h
    exact cV1 (e_X11_flowOf d g4) (contE x12 rfl) og_X11_flowOf rfl ml_RX11_114 11 rfl rfl c1 im_X11_flowOf se_X11_flowOf (Nat.le_of_ble_eq_true rfl) dX11_isDue_2
theorem e_X11_isDue (d : Nat) {a0 a1 : Int} {m : Mem} {e v : Int} {m' : Mem} (h : X11_isDue a0 a1 m = some (e, v, m')) : ExM (d + 2) fm_X11_isDue [(21, a0), (0, a1)] m (rr9 0 e v) m' := by
  obtain ⟨hb, h⟩ := boolX_some h
  exact ExM.of (by decide +kernel) (Nat.le_of_ble_eq_true rfl) (cat9 rfl) (retZX hb) (e_X11_isDue_0 d h)
theorem dX11_register_0 : decode cX11_register 0 = .ok (.aload_n 0, 1) := by decide +kernel
theorem dX11_register_1 : decode cX11_register 1 = .ok (.iload_n 1, 1) := by decide +kernel
theorem dX11_register_2 : decode cX11_register 2 = .ok (.invokevirtual 114, 3) := by decide +kernel
theorem dX11_register_5 : decode cX11_register 5 = .ok (.getfield 120, 3) := by decide +kernel
theorem dX11_register_8 : decode cX11_register 8 = .ok (.getfield 292, 3) := by decide +kernel
theorem dX11_register_11 : decode cX11_register 11 = .ok (.ireturn, 1) := by decide +kernel
theorem e_X11_register_0 (d : Nat) {l0 l1 : Int} {m : Mem} {e v : Int} {m' : Mem} (h : X11_register_0 l0 l1 m = some (e, v, m')) : Ex (d + 2) fm_X11_register 0 [(21, l0), (0, l1)] [] m (rr9 0 e v) m' := by
  unfold X11_register_0 at h
  refine x_aload_n dX11_register_0 rfl rfl (Or.inr (by decide)) (?_ : Ex _ _ 1 _ _ _ _ _)
  refine x_iload_n dX11_register_1 rfl rfl (?_ : Ex _ _ 2 _ _ _ _ _)
  obtain ⟨c1, h⟩ := chk_some h
  rcases calX_some h with ⟨v2, m3, g4, h⟩ | ⟨e8, v2, m3, x7, g4, h⟩
  · refine cV1 (e_X11_flowOf d g4) (cont0 (by decide) (?_ : Ex _ _ 5 _ _ _ _ _)) og_X11_flowOf rfl ml_RX11_114 11 rfl rfl c1 im_X11_flowOf se_X11_flowOf (Nat.le_of_ble_eq_true rfl) dX11_register_2
    obtain ⟨c5, h⟩ := chk_some h
    refine gt_10_6 c5 fl_RX11_120 dX11_register_5 (?_ : Ex _ _ 8 _ _ _ _ _)
    obtain ⟨c6, h⟩ := chk_some h
    refine gt_7_8 c6 fl_RX11_292 dX11_register_8 (?_ : Ex _ _ 11 _ _ _ _ _)
    cases h
    exact y_retX dX11_register_11 (by decide)
  · cases h
    exact cV1 (e_X11_flowOf d g4) (contE x7 rfl) og_X11_flowOf rfl ml_RX11_114 11 rfl rfl c1 im_X11_flowOf se_X11_flowOf (Nat.le_of_ble_eq_true rfl) dX11_register_2
theorem e_X11_register (d : Nat) {a0 a1 : Int} {m : Mem} {e v : Int} {m' : Mem} (h : X11_register a0 a1 m = some (e, v, m')) : ExM (d + 2) fm_X11_register [(21, a0), (0, a1)] m (rr9 0 e v) m' := by
  exact ExM.of (by decide +kernel) (Nat.le_of_ble_eq_true rfl) (cat9 rfl) retIX (e_X11_register_0 d h)
theorem dX11_place_0 : decode cX11_place 0 = .ok (.aload_n 0, 1) := by decide +kernel
theorem dX11_place_1 : decode cX11_place 1 = .ok (.iload_n 1, 1) := by decide +kernel
theorem dX11_place_2 : decode cX11_place 2 = .ok (.invokevirtual 114, 3) := by decide +kernel
theorem dX11_place_5 : decode cX11_place 5 = .ok (.getfield 120, 3) := by decide +kernel
theorem dX11_place_8 : decode cX11_place 8 = .ok (.getfield 295, 3) := by decide +kernel
theorem dX11_place_11 : decode cX11_place 11 = .ok (.ireturn, 1) := by decide +kernel
theorem e_X11_place_0 (d : Nat) {l0 l1 : Int} {m : Mem} {e v : Int} {m' : Mem} (h : X11_place_0 l0 l1 m = some (e, v, m')) : Ex (d + 2) fm_X11_place 0 [(21, l0), (0, l1)] [] m (rr9 0 e v) m' := by
  unfold X11_place_0 at h
  refine x_aload_n dX11_place_0 rfl rfl (Or.inr (by decide)) (?_ : Ex _ _ 1 _ _ _ _ _)
  refine x_iload_n dX11_place_1 rfl rfl (?_ : Ex _ _ 2 _ _ _ _ _)
  obtain ⟨c1, h⟩ := chk_some h
  rcases calX_some h with ⟨v2, m3, g4, h⟩ | ⟨e8, v2, m3, x7, g4, h⟩
  · refine cV1 (e_X11_flowOf d g4) (cont0 (by decide) (?_ : Ex _ _ 5 _ _ _ _ _)) og_X11_flowOf rfl ml_RX11_114 11 rfl rfl c1 im_X11_flowOf se_X11_flowOf (Nat.le_of_ble_eq_true rfl) dX11_place_2
    obtain ⟨c5, h⟩ := chk_some h
    refine gt_10_6 c5 fl_RX11_120 dX11_place_5 (?_ : Ex _ _ 8 _ _ _ _ _)
    obtain ⟨c6, h⟩ := chk_some h
    refine gt_7_9 c6 fl_RX11_295 dX11_place_8 (?_ : Ex _ _ 11 _ _ _ _ _)
    cases h
    exact y_retX dX11_place_11 (by decide)
  · cases h
    exact cV1 (e_X11_flowOf d g4) (contE x7 rfl) og_X11_flowOf rfl ml_RX11_114 11 rfl rfl c1 im_X11_flowOf se_X11_flowOf (Nat.le_of_ble_eq_true rfl) dX11_place_2
theorem e_X11_place (d : Nat) {a0 a1 : Int} {m : Mem} {e v : Int} {m' : Mem} (h : X11_place a0 a1 m = some (e, v, m')) : ExM (d + 2) fm_X11_place [(21, a0), (0, a1)] m (rr9 0 e v) m' := by
  exact ExM.of (by decide +kernel) (Nat.le_of_ble_eq_true rfl) (cat9 rfl) retIX (e_X11_place_0 d h)
theorem dX11_registerAnew_0 : decode cX11_registerAnew 0 = .ok (.aload_n 0, 1) := by decide +kernel
theorem dX11_registerAnew_1 : decode cX11_registerAnew 1 = .ok (.iload_n 1, 1) := by decide +kernel
theorem dX11_registerAnew_2 : decode cX11_registerAnew 2 = .ok (.invokevirtual 114, 3) := by decide +kernel
theorem dX11_registerAnew_5 : decode cX11_registerAnew 5 = .ok (.astore_n 3, 1) := by decide +kernel
theorem dX11_registerAnew_6 : decode cX11_registerAnew 6 = .ok (.aload_n 0, 1) := by decide +kernel
theorem dX11_registerAnew_7 : decode cX11_registerAnew 7 = .ok (.aload_n 3, 1) := by decide +kernel
theorem dX11_registerAnew_8 : decode cX11_registerAnew 8 = .ok (.iload_n 2, 1) := by decide +kernel
theorem dX11_registerAnew_9 : decode cX11_registerAnew 9 = .ok (.invokevirtual 132, 3) := by decide +kernel
theorem dX11_registerAnew_12 : decode cX11_registerAnew 12 = .ok (.astore 4, 2) := by decide +kernel
theorem dX11_registerAnew_14 : decode cX11_registerAnew 14 = .ok (.aload_n 0, 1) := by decide +kernel
theorem dX11_registerAnew_15 : decode cX11_registerAnew 15 = .ok (.getfield 36, 3) := by decide +kernel
theorem dX11_registerAnew_18 : decode cX11_registerAnew 18 = .ok (.aload 4, 2) := by decide +kernel
theorem dX11_registerAnew_20 : decode cX11_registerAnew 20 = .ok (.aload_n 3, 1) := by decide +kernel
theorem dX11_registerAnew_21 : decode cX11_registerAnew 21 = .ok (.getfield 120, 3) := by decide +kernel
theorem dX11_registerAnew_24 : decode cX11_registerAnew 24 = .ok (.getfield 144, 3) := by decide +kernel
theorem dX11_registerAnew_27 : decode cX11_registerAnew 27 = .ok (.aload_n 3, 1) := by decide +kernel
theorem dX11_registerAnew_28 : decode cX11_registerAnew 28 = .ok (.getfield 148, 3) := by decide +kernel
theorem dX11_registerAnew_31 : decode cX11_registerAnew 31 = .ok (.iconst 0, 1) := by decide +kernel
theorem dX11_registerAnew_32 : decode cX11_registerAnew 32 = .ok (.invokevirtual 151, 3) := by decide +kernel
theorem dX11_registerAnew_35 : decode cX11_registerAnew 35 = .ok (.ifCond .ne 7, 3) := by decide +kernel
theorem dX11_registerAnew_38 : decode cX11_registerAnew 38 = .ok (.sipush (-2000), 3) := by decide +kernel
theorem dX11_registerAnew_41 : decode cX11_registerAnew 41 = .ok (.ireturn, 1) := by decide +kernel
theorem dX11_registerAnew_42 : decode cX11_registerAnew 42 = .ok (.aload_n 0, 1) := by decide +kernel
theorem dX11_registerAnew_43 : decode cX11_registerAnew 43 = .ok (.getfield 36, 3) := by decide +kernel
theorem dX11_registerAnew_46 : decode cX11_registerAnew 46 = .ok (.getfield 298, 3) := by decide +kernel
theorem dX11_registerAnew_49 : decode cX11_registerAnew 49 = .ok (.ireturn, 1) := by decide +kernel
theorem e_X11_registerAnew_0 (d : Nat) {l0 l1 l2 : Int} {m : Mem} {e v : Int} {m' : Mem} (h : X11_registerAnew_0 l0 l1 l2 m = some (e, v, m')) : Ex (d + 6) fm_X11_registerAnew 0 [(21, l0), (0, l1), (0, l2), (3, 0), (3, 0)] [] m (rr9 0 e v) m' := by
  unfold X11_registerAnew_0 at h
  refine x_aload_n dX11_registerAnew_0 rfl rfl (Or.inr (by decide)) (?_ : Ex _ _ 1 _ _ _ _ _)
  refine x_iload_n dX11_registerAnew_1 rfl rfl (?_ : Ex _ _ 2 _ _ _ _ _)
  obtain ⟨c1, h⟩ := chk_some h
  rcases calX_some h with ⟨v2, m3, g4, h⟩ | ⟨e19, v2, m3, x18, g4, h⟩
  · refine cV1 (e_X11_flowOf (d + 4) g4) (cont0 (by decide) (?_ : Ex _ _ 5 _ _ _ _ _)) og_X11_flowOf rfl ml_RX11_114 11 rfl rfl c1 im_X11_flowOf se_X11_flowOf (Nat.le_of_ble_eq_true rfl) dX11_registerAnew_2
    refine x_astore_n (ls2 := [(21, l0), (0, l1), (0, l2), (20, v2), (3, 0)]) dX11_registerAnew_5 rfl (Nat.le_of_ble_eq_true rfl) (Or.inr (by decide)) rfl (?_ : Ex _ _ 6 _ _ _ _ _)
    refine x_aload_n dX11_registerAnew_6 rfl rfl (Or.inr (by decide)) (?_ : Ex _ _ 7 _ _ _ _ _)
    refine x_aload_n dX11_registerAnew_7 rfl rfl (Or.inr (by decide)) (?_ : Ex _ _ 8 _ _ _ _ _)
    refine x_iload_n dX11_registerAnew_8 rfl rfl (?_ : Ex _ _ 9 _ _ _ _ _)
    rcases calX_some h with ⟨v5, m6, g7, h⟩ | ⟨e17, v5, m6, x16, g7, h⟩
    · refine cV2 (e_X11_programOf (d + 3) g7) (cont0 (by decide) (?_ : Ex _ _ 12 _ _ _ _ _)) og_X11_programOf rfl ml_RX11_132 11 rfl rfl c1 im_X11_programOf se_X11_programOf (Nat.le_of_ble_eq_true rfl) dX11_registerAnew_9
      refine x_astore (ls2 := [(21, l0), (0, l1), (0, l2), (20, v2), (15, v5)]) dX11_registerAnew_12 (Nat.le_of_ble_eq_true rfl) (Or.inr (by decide)) rfl (?_ : Ex _ _ 14 _ _ _ _ _)
      refine x_aload_n dX11_registerAnew_14 rfl rfl (Or.inr (by decide)) (?_ : Ex _ _ 15 _ _ _ _ _)
      refine gt_11_4 c1 fl_RX11_36 dX11_registerAnew_15 (?_ : Ex _ _ 18 _ _ _ _ _)
      refine x_aload dX11_registerAnew_18 rfl (Or.inr (by decide)) (?_ : Ex _ _ 20 _ _ _ _ _)
      refine x_aload_n dX11_registerAnew_20 rfl rfl (Or.inr (by decide)) (?_ : Ex _ _ 21 _ _ _ _ _)
      obtain ⟨c8, h⟩ := chk_some h
      refine gt_10_6 c8 fl_RX11_120 dX11_registerAnew_21 (?_ : Ex _ _ 24 _ _ _ _ _)
      obtain ⟨c9, h⟩ := chk_some h
      refine gt_7_0 c9 fl_RX11_144 dX11_registerAnew_24 (?_ : Ex _ _ 27 _ _ _ _ _)
      refine x_aload_n dX11_registerAnew_27 rfl rfl (Or.inr (by decide)) (?_ : Ex _ _ 28 _ _ _ _ _)
      refine gt_10_5 c8 fl_RX11_148 dX11_registerAnew_28 (?_ : Ex _ _ 31 _ _ _ _ _)
      refine x_iconst dX11_registerAnew_31 rfl (by decide) (?_ : Ex _ _ 32 _ _ _ _ _)
      obtain ⟨c10, h⟩ := chk_some h
      obtain ⟨v11, m12, g13, h⟩ := cal_some h
      refine cV4 (e_X4_play d g13) (contN (by decide) (?_ : Ex _ _ 35 _ _ _ _ _)) og_X4_play rfl ml_RX11_151 4 rfl rfl c10 im_X4_play se_X4_play (Nat.le_of_ble_eq_true rfl) dX11_registerAnew_32
      rcases ite_some h with ⟨b14, h⟩ | ⟨b14, h⟩
      · refine x_if_neN dX11_registerAnew_35 (by decide) (fun hh => hh b14) (?_ : Ex _ _ 38 _ _ _ _ _)
        refine x_sipush dX11_registerAnew_38 ks_n2000 (by decide) (?_ : Ex _ _ 41 _ _ _ _ _)
        cases h
        exact y_retX dX11_registerAnew_41 (by decide)
      · refine x_if_ne (tgt := 42) dX11_registerAnew_35 rfl b14 (?_ : Ex _ _ 42 _ _ _ _ _)
        refine x_aload_n dX11_registerAnew_42 rfl rfl (Or.inr (by decide)) (?_ : Ex _ _ 43 _ _ _ _ _)
        refine gt_11_4 c1 fl_RX11_36 dX11_registerAnew_43 (?_ : Ex _ _ 46 _ _ _ _ _)
        obtain ⟨c15, h⟩ := chk_some h
        refine gt_4_2 c15 fl_RX11_298 dX11_registerAnew_46 (?_ : Ex _ _ 49 _ _ _ _ _)
        cases h
        exact y_retX dX11_registerAnew_49 (by decide)
    · cases h
      exact cV2 (e_X11_programOf (d + 3) g7) (contE x16 rfl) og_X11_programOf rfl ml_RX11_132 11 rfl rfl c1 im_X11_programOf se_X11_programOf (Nat.le_of_ble_eq_true rfl) dX11_registerAnew_9
  · cases h
    exact cV1 (e_X11_flowOf (d + 4) g4) (contE x18 rfl) og_X11_flowOf rfl ml_RX11_114 11 rfl rfl c1 im_X11_flowOf se_X11_flowOf (Nat.le_of_ble_eq_true rfl) dX11_registerAnew_2
theorem e_X11_registerAnew (d : Nat) {a0 a1 a2 : Int} {m : Mem} {e v : Int} {m' : Mem} (h : X11_registerAnew a0 a1 a2 m = some (e, v, m')) : ExM (d + 6) fm_X11_registerAnew [(21, a0), (0, a1), (0, a2)] m (rr9 0 e v) m' := by
  exact ExM.of (by decide +kernel) (Nat.le_of_ble_eq_true rfl) (cat9 rfl) retIX (e_X11_registerAnew_0 d h)
theorem dL_asks_0 : decode cL_asks 0 = .ok (.iload_n 1, 1) := by decide +kernel
theorem dL_asks_1 : decode cL_asks 1 = .ok (.ifCond .ne 16, 3) := by decide +kernel
theorem dL_asks_4 : decode cL_asks 4 = .ok (.aload_n 0, 1) := by decide +kernel
theorem dL_asks_5 : decode cL_asks 5 = .ok (.iload_n 2, 1) := by decide +kernel
theorem dL_asks_6 : decode cL_asks 6 = .ok (.iload_n 3, 1) := by decide +kernel
theorem dL_asks_7 : decode cL_asks 7 = .ok (.iload 4, 2) := by decide +kernel
theorem dL_asks_9 : decode cL_asks 9 = .ok (.iload 5, 2) := by decide +kernel
theorem dL_asks_11 : decode cL_asks 11 = .ok (.invokevirtual 7, 3) := by decide +kernel
theorem dL_asks_14 : decode cL_asks 14 = .ok (.goto 116, 3) := by decide +kernel
theorem dL_asks_17 : decode cL_asks 17 = .ok (.iload_n 1, 1) := by decide +kernel
theorem dL_asks_18 : decode cL_asks 18 = .ok (.iconst 1, 1) := by decide +kernel
theorem dL_asks_19 : decode cL_asks 19 = .ok (.if_icmp .ne 11, 3) := by decide +kernel
theorem dL_asks_22 : decode cL_asks 22 = .ok (.aload_n 0, 1) := by decide +kernel
theorem dL_asks_23 : decode cL_asks 23 = .ok (.iload_n 2, 1) := by decide +kernel
theorem dL_asks_24 : decode cL_asks 24 = .ok (.invokevirtual 13, 3) := by decide +kernel
theorem dL_asks_27 : decode cL_asks 27 = .ok (.goto 103, 3) := by decide +kernel
theorem dL_asks_30 : decode cL_asks 30 = .ok (.iload_n 1, 1) := by decide +kernel
theorem dL_asks_31 : decode cL_asks 31 = .ok (.iconst 2, 1) := by decide +kernel
theorem dL_asks_32 : decode cL_asks 32 = .ok (.if_icmp .ne 14, 3) := by decide +kernel
theorem dL_asks_35 : decode cL_asks 35 = .ok (.aload_n 0, 1) := by decide +kernel
theorem dL_asks_36 : decode cL_asks 36 = .ok (.iload_n 2, 1) := by decide +kernel
theorem dL_asks_37 : decode cL_asks 37 = .ok (.iload_n 3, 1) := by decide +kernel
theorem dL_asks_38 : decode cL_asks 38 = .ok (.iload 4, 2) := by decide +kernel
theorem dL_asks_40 : decode cL_asks 40 = .ok (.invokevirtual 17, 3) := by decide +kernel
theorem dL_asks_43 : decode cL_asks 43 = .ok (.goto 87, 3) := by decide +kernel
theorem dL_asks_46 : decode cL_asks 46 = .ok (.iload_n 1, 1) := by decide +kernel
theorem dL_asks_47 : decode cL_asks 47 = .ok (.iconst 3, 1) := by decide +kernel
theorem dL_asks_48 : decode cL_asks 48 = .ok (.if_icmp .ne 12, 3) := by decide +kernel
theorem dL_asks_51 : decode cL_asks 51 = .ok (.aload_n 0, 1) := by decide +kernel
theorem dL_asks_52 : decode cL_asks 52 = .ok (.iload_n 2, 1) := by decide +kernel
theorem dL_asks_53 : decode cL_asks 53 = .ok (.iload_n 3, 1) := by decide +kernel
theorem dL_asks_54 : decode cL_asks 54 = .ok (.invokevirtual 21, 3) := by decide +kernel
theorem dL_asks_57 : decode cL_asks 57 = .ok (.goto 73, 3) := by decide +kernel
theorem dL_asks_60 : decode cL_asks 60 = .ok (.iload_n 1, 1) := by decide +kernel
theorem dL_asks_61 : decode cL_asks 61 = .ok (.iconst 4, 1) := by decide +kernel
theorem dL_asks_62 : decode cL_asks 62 = .ok (.if_icmp .ne 12, 3) := by decide +kernel
theorem dL_asks_65 : decode cL_asks 65 = .ok (.aload_n 0, 1) := by decide +kernel
theorem dL_asks_66 : decode cL_asks 66 = .ok (.iload_n 2, 1) := by decide +kernel
theorem dL_asks_67 : decode cL_asks 67 = .ok (.iload_n 3, 1) := by decide +kernel
theorem dL_asks_68 : decode cL_asks 68 = .ok (.invokevirtual 25, 3) := by decide +kernel
theorem dL_asks_71 : decode cL_asks 71 = .ok (.goto 59, 3) := by decide +kernel
theorem dL_asks_74 : decode cL_asks 74 = .ok (.iload_n 1, 1) := by decide +kernel
theorem dL_asks_75 : decode cL_asks 75 = .ok (.iconst 5, 1) := by decide +kernel
theorem dL_asks_76 : decode cL_asks 76 = .ok (.if_icmp .ne 11, 3) := by decide +kernel
theorem dL_asks_79 : decode cL_asks 79 = .ok (.aload_n 0, 1) := by decide +kernel
theorem dL_asks_80 : decode cL_asks 80 = .ok (.iload_n 2, 1) := by decide +kernel
theorem dL_asks_81 : decode cL_asks 81 = .ok (.invokevirtual 28, 3) := by decide +kernel
theorem dL_asks_84 : decode cL_asks 84 = .ok (.goto 46, 3) := by decide +kernel
theorem dL_asks_87 : decode cL_asks 87 = .ok (.iload_n 1, 1) := by decide +kernel
theorem dL_asks_88 : decode cL_asks 88 = .ok (.bipush 6, 2) := by decide +kernel
theorem dL_asks_90 : decode cL_asks 90 = .ok (.if_icmp .ne 20, 3) := by decide +kernel
theorem dL_asks_93 : decode cL_asks 93 = .ok (.aload_n 0, 1) := by decide +kernel
theorem dL_asks_94 : decode cL_asks 94 = .ok (.iload_n 2, 1) := by decide +kernel
theorem dL_asks_95 : decode cL_asks 95 = .ok (.iload_n 3, 1) := by decide +kernel
theorem dL_asks_96 : decode cL_asks 96 = .ok (.invokevirtual 31, 3) := by decide +kernel
theorem dL_asks_99 : decode cL_asks 99 = .ok (.ifCond .eq 7, 3) := by decide +kernel
theorem dL_asks_102 : decode cL_asks 102 = .ok (.iconst 1, 1) := by decide +kernel
theorem dL_asks_103 : decode cL_asks 103 = .ok (.goto 27, 3) := by decide +kernel
theorem dL_asks_106 : decode cL_asks 106 = .ok (.iconst 0, 1) := by decide +kernel
theorem dL_asks_107 : decode cL_asks 107 = .ok (.goto 23, 3) := by decide +kernel
theorem dL_asks_110 : decode cL_asks 110 = .ok (.iload_n 1, 1) := by decide +kernel
theorem dL_asks_111 : decode cL_asks 111 = .ok (.bipush 7, 2) := by decide +kernel
theorem dL_asks_113 : decode cL_asks 113 = .ok (.if_icmp .ne 11, 3) := by decide +kernel
theorem dL_asks_116 : decode cL_asks 116 = .ok (.aload_n 0, 1) := by decide +kernel
theorem dL_asks_117 : decode cL_asks 117 = .ok (.iload_n 2, 1) := by decide +kernel
theorem dL_asks_118 : decode cL_asks 118 = .ok (.invokevirtual 35, 3) := by decide +kernel
theorem dL_asks_121 : decode cL_asks 121 = .ok (.goto 9, 3) := by decide +kernel
theorem dL_asks_124 : decode cL_asks 124 = .ok (.aload_n 0, 1) := by decide +kernel
theorem dL_asks_125 : decode cL_asks 125 = .ok (.iload_n 2, 1) := by decide +kernel
theorem dL_asks_126 : decode cL_asks 126 = .ok (.iload_n 3, 1) := by decide +kernel
theorem dL_asks_127 : decode cL_asks 127 = .ok (.invokevirtual 38, 3) := by decide +kernel
theorem dL_asks_130 : decode cL_asks 130 = .ok (.ireturn, 1) := by decide +kernel
theorem e_L_asks_0 (d : Nat) {l0 l1 l2 l3 l4 l5 : Int} {m : Mem} {e v : Int} {m' : Mem} (h : L_asks_0 l0 l1 l2 l3 l4 l5 m = some (e, v, m')) : Ex (d + 46) fm_L_asks 0 [(21, l0), (0, l1), (0, l2), (0, l3), (0, l4), (0, l5)] [] m (rr9 0 e v) m' := by
  unfold L_asks_0 at h
  refine x_iload_n dL_asks_0 rfl rfl (?_ : Ex _ _ 1 _ _ _ _ _)
  rcases ite_some h with ⟨b1, h⟩ | ⟨b1, h⟩
  · refine x_if_neN dL_asks_1 (by decide) (fun hh => hh b1) (?_ : Ex _ _ 4 _ _ _ _ _)
    refine x_aload_n dL_asks_4 rfl rfl (Or.inr (by decide)) (?_ : Ex _ _ 5 _ _ _ _ _)
    refine x_iload_n dL_asks_5 rfl rfl (?_ : Ex _ _ 6 _ _ _ _ _)
    refine x_iload_n dL_asks_6 rfl rfl (?_ : Ex _ _ 7 _ _ _ _ _)
    refine x_iload dL_asks_7 rfl (?_ : Ex _ _ 9 _ _ _ _ _)
    refine x_iload dL_asks_9 rfl (?_ : Ex _ _ 11 _ _ _ _ _)
    obtain ⟨c58, h⟩ := chk_some h
    rcases calX_some h with ⟨v59, m60, g61, h⟩ | ⟨e63, v59, m60, x62, g61, h⟩
    · refine cV4 (e_X11_step (d + 43) g61) (cont0 (by decide) (?_ : Ex _ _ 14 _ _ _ _ _)) og_X11_step rfl ml_RL_7 11 rfl rfl c58 im_X11_step se_X11_step (Nat.le_of_ble_eq_true rfl) dL_asks_11
      refine x_goto (tgt := 130) dL_asks_14 rfl (?_ : Ex _ _ 130 _ _ _ _ _)
      cases h
      exact y_retX dL_asks_130 (by decide)
    · cases h
      exact cV4 (e_X11_step (d + 43) g61) (contE x62 rfl) og_X11_step rfl ml_RL_7 11 rfl rfl c58 im_X11_step se_X11_step (Nat.le_of_ble_eq_true rfl) dL_asks_11
  · refine x_if_ne (tgt := 17) dL_asks_1 rfl b1 (?_ : Ex _ _ 17 _ _ _ _ _)
    refine x_iload_n dL_asks_17 rfl rfl (?_ : Ex _ _ 18 _ _ _ _ _)
    refine x_iconst dL_asks_18 rfl (by decide) (?_ : Ex _ _ 19 _ _ _ _ _)
    rcases ite_some h with ⟨b2, h⟩ | ⟨b2, h⟩
    · refine x_icmp_neN dL_asks_19 (by decide) (fun hh => hh b2) (?_ : Ex _ _ 22 _ _ _ _ _)
      refine x_aload_n dL_asks_22 rfl rfl (Or.inr (by decide)) (?_ : Ex _ _ 23 _ _ _ _ _)
      refine x_iload_n dL_asks_23 rfl rfl (?_ : Ex _ _ 24 _ _ _ _ _)
      obtain ⟨c52, h⟩ := chk_some h
      rcases calX_some h with ⟨v53, m54, g55, h⟩ | ⟨e57, v53, m54, x56, g55, h⟩
      · refine cV1 (e_X11_release (d + 42) g55) (cont0 (by decide) (?_ : Ex _ _ 27 _ _ _ _ _)) og_X11_release rfl ml_RL_13 11 rfl rfl c52 im_X11_release se_X11_release (Nat.le_of_ble_eq_true rfl) dL_asks_24
        refine x_goto (tgt := 130) dL_asks_27 rfl (?_ : Ex _ _ 130 _ _ _ _ _)
        cases h
        exact y_retX dL_asks_130 (by decide)
      · cases h
        exact cV1 (e_X11_release (d + 42) g55) (contE x56 rfl) og_X11_release rfl ml_RL_13 11 rfl rfl c52 im_X11_release se_X11_release (Nat.le_of_ble_eq_true rfl) dL_asks_24
    · refine x_icmp_ne (tgt := 30) dL_asks_19 rfl b2 (?_ : Ex _ _ 30 _ _ _ _ _)
      refine x_iload_n dL_asks_30 rfl rfl (?_ : Ex _ _ 31 _ _ _ _ _)
      refine x_iconst dL_asks_31 rfl (by decide) (?_ : Ex _ _ 32 _ _ _ _ _)
      rcases ite_some h with ⟨b3, h⟩ | ⟨b3, h⟩
      · refine x_icmp_neN dL_asks_32 (by decide) (fun hh => hh b3) (?_ : Ex _ _ 35 _ _ _ _ _)
        refine x_aload_n dL_asks_35 rfl rfl (Or.inr (by decide)) (?_ : Ex _ _ 36 _ _ _ _ _)
        refine x_iload_n dL_asks_36 rfl rfl (?_ : Ex _ _ 37 _ _ _ _ _)
        refine x_iload_n dL_asks_37 rfl rfl (?_ : Ex _ _ 38 _ _ _ _ _)
        refine x_iload dL_asks_38 rfl (?_ : Ex _ _ 40 _ _ _ _ _)
        obtain ⟨c46, h⟩ := chk_some h
        rcases calX_some h with ⟨v47, m48, g49, h⟩ | ⟨e51, v47, m48, x50, g49, h⟩
        · refine cV3 (e_X11_start (d + 42) g49) (cont0 (by decide) (?_ : Ex _ _ 43 _ _ _ _ _)) og_X11_start rfl ml_RL_17 11 rfl rfl c46 im_X11_start se_X11_start (Nat.le_of_ble_eq_true rfl) dL_asks_40
          refine x_goto (tgt := 130) dL_asks_43 rfl (?_ : Ex _ _ 130 _ _ _ _ _)
          cases h
          exact y_retX dL_asks_130 (by decide)
        · cases h
          exact cV3 (e_X11_start (d + 42) g49) (contE x50 rfl) og_X11_start rfl ml_RL_17 11 rfl rfl c46 im_X11_start se_X11_start (Nat.le_of_ble_eq_true rfl) dL_asks_40
      · refine x_icmp_ne (tgt := 46) dL_asks_32 rfl b3 (?_ : Ex _ _ 46 _ _ _ _ _)
        refine x_iload_n dL_asks_46 rfl rfl (?_ : Ex _ _ 47 _ _ _ _ _)
        refine x_iconst dL_asks_47 rfl (by decide) (?_ : Ex _ _ 48 _ _ _ _ _)
        rcases ite_some h with ⟨b4, h⟩ | ⟨b4, h⟩
        · refine x_icmp_neN dL_asks_48 (by decide) (fun hh => hh b4) (?_ : Ex _ _ 51 _ _ _ _ _)
          refine x_aload_n dL_asks_51 rfl rfl (Or.inr (by decide)) (?_ : Ex _ _ 52 _ _ _ _ _)
          refine x_iload_n dL_asks_52 rfl rfl (?_ : Ex _ _ 53 _ _ _ _ _)
          refine x_iload_n dL_asks_53 rfl rfl (?_ : Ex _ _ 54 _ _ _ _ _)
          obtain ⟨c40, h⟩ := chk_some h
          rcases calX_some h with ⟨v41, m42, g43, h⟩ | ⟨e45, v41, m42, x44, g43, h⟩
          · refine cV2 (e_X11_decide d g43) (cont0 (by decide) (?_ : Ex _ _ 57 _ _ _ _ _)) og_X11_decide rfl ml_RL_21 11 rfl rfl c40 im_X11_decide se_X11_decide (Nat.le_of_ble_eq_true rfl) dL_asks_54
            refine x_goto (tgt := 130) dL_asks_57 rfl (?_ : Ex _ _ 130 _ _ _ _ _)
            cases h
            exact y_retX dL_asks_130 (by decide)
          · cases h
            exact cV2 (e_X11_decide d g43) (contE x44 rfl) og_X11_decide rfl ml_RL_21 11 rfl rfl c40 im_X11_decide se_X11_decide (Nat.le_of_ble_eq_true rfl) dL_asks_54
        · refine x_icmp_ne (tgt := 60) dL_asks_48 rfl b4 (?_ : Ex _ _ 60 _ _ _ _ _)
          refine x_iload_n dL_asks_60 rfl rfl (?_ : Ex _ _ 61 _ _ _ _ _)
          refine x_iconst dL_asks_61 rfl (by decide) (?_ : Ex _ _ 62 _ _ _ _ _)
          rcases ite_some h with ⟨b5, h⟩ | ⟨b5, h⟩
          · refine x_icmp_neN dL_asks_62 (by decide) (fun hh => hh b5) (?_ : Ex _ _ 65 _ _ _ _ _)
            refine x_aload_n dL_asks_65 rfl rfl (Or.inr (by decide)) (?_ : Ex _ _ 66 _ _ _ _ _)
            refine x_iload_n dL_asks_66 rfl rfl (?_ : Ex _ _ 67 _ _ _ _ _)
            refine x_iload_n dL_asks_67 rfl rfl (?_ : Ex _ _ 68 _ _ _ _ _)
            obtain ⟨c34, h⟩ := chk_some h
            rcases calX_some h with ⟨v35, m36, g37, h⟩ | ⟨e39, v35, m36, x38, g37, h⟩
            · refine cV2 (e_X11_take (d + 42) g37) (cont0 (by decide) (?_ : Ex _ _ 71 _ _ _ _ _)) og_X11_take rfl ml_RL_25 11 rfl rfl c34 im_X11_take se_X11_take (Nat.le_of_ble_eq_true rfl) dL_asks_68
              refine x_goto (tgt := 130) dL_asks_71 rfl (?_ : Ex _ _ 130 _ _ _ _ _)
              cases h
              exact y_retX dL_asks_130 (by decide)
            · cases h
              exact cV2 (e_X11_take (d + 42) g37) (contE x38 rfl) og_X11_take rfl ml_RL_25 11 rfl rfl c34 im_X11_take se_X11_take (Nat.le_of_ble_eq_true rfl) dL_asks_68
          · refine x_icmp_ne (tgt := 74) dL_asks_62 rfl b5 (?_ : Ex _ _ 74 _ _ _ _ _)
            refine x_iload_n dL_asks_74 rfl rfl (?_ : Ex _ _ 75 _ _ _ _ _)
            refine x_iconst dL_asks_75 rfl (by decide) (?_ : Ex _ _ 76 _ _ _ _ _)
            rcases ite_some h with ⟨b6, h⟩ | ⟨b6, h⟩
            · refine x_icmp_neN dL_asks_76 (by decide) (fun hh => hh b6) (?_ : Ex _ _ 79 _ _ _ _ _)
              refine x_aload_n dL_asks_79 rfl rfl (Or.inr (by decide)) (?_ : Ex _ _ 80 _ _ _ _ _)
              refine x_iload_n dL_asks_80 rfl rfl (?_ : Ex _ _ 81 _ _ _ _ _)
              obtain ⟨c28, h⟩ := chk_some h
              rcases calX_some h with ⟨v29, m30, g31, h⟩ | ⟨e33, v29, m30, x32, g31, h⟩
              · refine cV1 (e_X11_beat (d + 43) g31) (cont0 (by decide) (?_ : Ex _ _ 84 _ _ _ _ _)) og_X11_beat rfl ml_RL_28 11 rfl rfl c28 im_X11_beat se_X11_beat (Nat.le_of_ble_eq_true rfl) dL_asks_81
                refine x_goto (tgt := 130) dL_asks_84 rfl (?_ : Ex _ _ 130 _ _ _ _ _)
                cases h
                exact y_retX dL_asks_130 (by decide)
              · cases h
                exact cV1 (e_X11_beat (d + 43) g31) (contE x32 rfl) og_X11_beat rfl ml_RL_28 11 rfl rfl c28 im_X11_beat se_X11_beat (Nat.le_of_ble_eq_true rfl) dL_asks_81
            · refine x_icmp_ne (tgt := 87) dL_asks_76 rfl b6 (?_ : Ex _ _ 87 _ _ _ _ _)
              refine x_iload_n dL_asks_87 rfl rfl (?_ : Ex _ _ 88 _ _ _ _ _)
              refine x_bipush dL_asks_88 kb_6 (by decide) (?_ : Ex _ _ 90 _ _ _ _ _)
              rcases ite_some h with ⟨b7, h⟩ | ⟨b7, h⟩
              · refine x_icmp_neN dL_asks_90 (by decide) (fun hh => hh b7) (?_ : Ex _ _ 93 _ _ _ _ _)
                refine x_aload_n dL_asks_93 rfl rfl (Or.inr (by decide)) (?_ : Ex _ _ 94 _ _ _ _ _)
                refine x_iload_n dL_asks_94 rfl rfl (?_ : Ex _ _ 95 _ _ _ _ _)
                refine x_iload_n dL_asks_95 rfl rfl (?_ : Ex _ _ 96 _ _ _ _ _)
                obtain ⟨c21, h⟩ := chk_some h
                rcases calX_some h with ⟨v22, m23, g24, h⟩ | ⟨e27, v22, m23, x26, g24, h⟩
                · refine cV2 (e_X11_end (d + 43) g24) (cont0 (by decide) (?_ : Ex _ _ 99 _ _ _ _ _)) og_X11_end rfl ml_RL_31 11 rfl rfl c21 im_X11_end se_X11_end (Nat.le_of_ble_eq_true rfl) dL_asks_96
                  rcases ite_some h with ⟨b25, h⟩ | ⟨b25, h⟩
                  · refine x_if_eq (tgt := 106) dL_asks_99 rfl b25 (?_ : Ex _ _ 106 _ _ _ _ _)
                    refine x_iconst dL_asks_106 rfl (by decide) (?_ : Ex _ _ 107 _ _ _ _ _)
                    refine x_goto (tgt := 130) dL_asks_107 rfl (?_ : Ex _ _ 130 _ _ _ _ _)
                    cases h
                    exact y_retX dL_asks_130 (by decide)
                  · refine x_if_eqN dL_asks_99 (by decide) b25 (?_ : Ex _ _ 102 _ _ _ _ _)
                    refine x_iconst dL_asks_102 rfl (by decide) (?_ : Ex _ _ 103 _ _ _ _ _)
                    refine x_goto (tgt := 130) dL_asks_103 rfl (?_ : Ex _ _ 130 _ _ _ _ _)
                    cases h
                    exact y_retX dL_asks_130 (by decide)
                · cases h
                  exact cV2 (e_X11_end (d + 43) g24) (contE x26 rfl) og_X11_end rfl ml_RL_31 11 rfl rfl c21 im_X11_end se_X11_end (Nat.le_of_ble_eq_true rfl) dL_asks_96
              · refine x_icmp_ne (tgt := 110) dL_asks_90 rfl b7 (?_ : Ex _ _ 110 _ _ _ _ _)
                refine x_iload_n dL_asks_110 rfl rfl (?_ : Ex _ _ 111 _ _ _ _ _)
                refine x_bipush dL_asks_111 kb_7 (by decide) (?_ : Ex _ _ 113 _ _ _ _ _)
                rcases ite_some h with ⟨b8, h⟩ | ⟨b8, h⟩
                · refine x_icmp_neN dL_asks_113 (by decide) (fun hh => hh b8) (?_ : Ex _ _ 116 _ _ _ _ _)
                  refine x_aload_n dL_asks_116 rfl rfl (Or.inr (by decide)) (?_ : Ex _ _ 117 _ _ _ _ _)
                  refine x_iload_n dL_asks_117 rfl rfl (?_ : Ex _ _ 118 _ _ _ _ _)
                  obtain ⟨c15, h⟩ := chk_some h
                  rcases calX_some h with ⟨v16, m17, g18, h⟩ | ⟨e20, v16, m17, x19, g18, h⟩
                  · refine cV1 (e_X11_fail (d + 42) g18) (cont0 (by decide) (?_ : Ex _ _ 121 _ _ _ _ _)) og_X11_fail rfl ml_RL_35 11 rfl rfl c15 im_X11_fail se_X11_fail (Nat.le_of_ble_eq_true rfl) dL_asks_118
                    refine x_goto (tgt := 130) dL_asks_121 rfl (?_ : Ex _ _ 130 _ _ _ _ _)
                    cases h
                    exact y_retX dL_asks_130 (by decide)
                  · cases h
                    exact cV1 (e_X11_fail (d + 42) g18) (contE x19 rfl) og_X11_fail rfl ml_RL_35 11 rfl rfl c15 im_X11_fail se_X11_fail (Nat.le_of_ble_eq_true rfl) dL_asks_118
                · refine x_icmp_ne (tgt := 124) dL_asks_113 rfl b8 (?_ : Ex _ _ 124 _ _ _ _ _)
                  refine x_aload_n dL_asks_124 rfl rfl (Or.inr (by decide)) (?_ : Ex _ _ 125 _ _ _ _ _)
                  refine x_iload_n dL_asks_125 rfl rfl (?_ : Ex _ _ 126 _ _ _ _ _)
                  refine x_iload_n dL_asks_126 rfl rfl (?_ : Ex _ _ 127 _ _ _ _ _)
                  obtain ⟨c9, h⟩ := chk_some h
                  rcases calX_some h with ⟨v10, m11, g12, h⟩ | ⟨e14, v10, m11, x13, g12, h⟩
                  · refine cV2 (e_X11_registerAnew (d + 39) g12) (cont0 (by decide) (?_ : Ex _ _ 130 _ _ _ _ _)) og_X11_registerAnew rfl ml_RL_38 11 rfl rfl c9 im_X11_registerAnew se_X11_registerAnew (Nat.le_of_ble_eq_true rfl) dL_asks_127
                    cases h
                    exact y_retX dL_asks_130 (by decide)
                  · cases h
                    exact cV2 (e_X11_registerAnew (d + 39) g12) (contE x13 rfl) og_X11_registerAnew rfl ml_RL_38 11 rfl rfl c9 im_X11_registerAnew se_X11_registerAnew (Nat.le_of_ble_eq_true rfl) dL_asks_127
theorem e_L_asks (d : Nat) {a0 a1 a2 a3 a4 a5 : Int} {m : Mem} {e v : Int} {m' : Mem} (h : L_asks a0 a1 a2 a3 a4 a5 m = some (e, v, m')) : ExM (d + 46) fm_L_asks [(21, a0), (0, a1), (0, a2), (0, a3), (0, a4), (0, a5)] m (rr9 0 e v) m' := by
  exact ExM.of (by decide +kernel) (Nat.le_of_ble_eq_true rfl) (cat9 rfl) retIX (e_L_asks_0 d h)
theorem dL_on_0 : decode cL_on 0 = .ok (.aload_n 0, 1) := by decide +kernel
theorem dL_on_1 : decode cL_on 1 = .ok (.iload_n 1, 1) := by decide +kernel
theorem dL_on_2 : decode cL_on 2 = .ok (.iload_n 2, 1) := by decide +kernel
theorem dL_on_3 : decode cL_on 3 = .ok (.iload_n 3, 1) := by decide +kernel
theorem dL_on_4 : decode cL_on 4 = .ok (.iload 4, 2) := by decide +kernel
theorem dL_on_6 : decode cL_on 6 = .ok (.iload 5, 2) := by decide +kernel
theorem dL_on_8 : decode cL_on 8 = .ok (.invokestatic 41, 3) := by decide +kernel
theorem dL_on_11 : decode cL_on 11 = .ok (.ireturn, 1) := by decide +kernel
theorem dL_on_12 : decode cL_on 12 = .ok (.astore 6, 2) := by decide +kernel
theorem dL_on_14 : decode cL_on 14 = .ok (.ldc 49, 2) := by decide +kernel
theorem dL_on_16 : decode cL_on 16 = .ok (.ireturn, 1) := by decide +kernel
theorem dL_on_17 : decode cL_on 17 = .ok (.astore 6, 2) := by decide +kernel
theorem dL_on_19 : decode cL_on 19 = .ok (.ldc 52, 2) := by decide +kernel
theorem dL_on_21 : decode cL_on 21 = .ok (.ireturn, 1) := by decide +kernel
theorem dL_on_22 : decode cL_on 22 = .ok (.astore 6, 2) := by decide +kernel
theorem dL_on_24 : decode cL_on 24 = .ok (.ldc 55, 2) := by decide +kernel
theorem dL_on_26 : decode cL_on 26 = .ok (.ireturn, 1) := by decide +kernel
theorem e_L_on_0 (d : Nat) {l0 l1 l2 l3 l4 l5 : Int} {m : Mem} {v : Int} {m' : Mem} (h : L_on_0 l0 l1 l2 l3 l4 l5 m = some (v, m')) : Ex (d + 47) fm_L_on 0 [(21, l0), (0, l1), (0, l2), (0, l3), (0, l4), (0, l5), (3, 0)] [] m (.inl (0, v)) m' := by
  unfold L_on_0 at h
  refine x_aload_n dL_on_0 rfl rfl (Or.inr (by decide)) (?_ : Ex _ _ 1 _ _ _ _ _)
  refine x_iload_n dL_on_1 rfl rfl (?_ : Ex _ _ 2 _ _ _ _ _)
  refine x_iload_n dL_on_2 rfl rfl (?_ : Ex _ _ 3 _ _ _ _ _)
  refine x_iload_n dL_on_3 rfl rfl (?_ : Ex _ _ 4 _ _ _ _ _)
  refine x_iload dL_on_4 rfl (?_ : Ex _ _ 6 _ _ _ _ _)
  refine x_iload dL_on_6 rfl (?_ : Ex _ _ 8 _ _ _ _ _)
  rcases calT_some h with ⟨v1, m2, g3, h⟩ | ⟨e5, v1, m2, x4, g3, h⟩
  · refine cS6 (e_L_asks d g3) (cont0 (by decide) (?_ : Ex _ _ 11 _ _ _ _ _)) og_L_asks rfl ml_RL_41 sm_L_asks (Nat.le_of_ble_eq_true rfl) dL_on_8
    cases h
    exact x_ret dL_on_11 (by decide : (0 : Int) ≠ 3)
  · rcases ite_some h with ⟨b6, h⟩ | ⟨b6, h⟩
    · refine cS6 (e_L_asks d g3) (contH [] [(0, 11, 17, 50), (0, 11, 22, 53)] (0, 11, 12, 47) x4 (by subst b6; rfl) rfl (by decide) (by decide) cl_RL_47 ca_xIO (fun z hz => nomatch hz) (h_astore (ls2 := [(21, l0), (0, l1), (0, l2), (0, l3), (0, l4), (0, l5), (3, 0)]) dL_on_12 (Nat.le_of_ble_eq_true rfl) rfl (?_ : Ex _ _ 14 _ _ _ _ _))) og_L_asks rfl ml_RL_41 sm_L_asks (Nat.le_of_ble_eq_true rfl) dL_on_8
      refine x_ldc (x := (-90001)) kc_RL_49 dL_on_14 (by decide +kernel) (by decide) (?_ : Ex _ _ 16 _ _ _ _ _)
      cases h
      exact x_ret dL_on_16 (by decide : (0 : Int) ≠ 3)
    rcases ite_some h with ⟨b7, h⟩ | ⟨b7, h⟩
    · refine cS6 (e_L_asks d g3) (contH [(0, 11, 12, 47)] [(0, 11, 22, 53)] (0, 11, 17, 50) x4 (by subst b7; rfl) rfl (by decide) (by decide) cl_RL_50 ca_xIA (cH1 ⟨by decide, _, cl_RL_47, by decide⟩) (h_astore (ls2 := [(21, l0), (0, l1), (0, l2), (0, l3), (0, l4), (0, l5), (3, 0)]) dL_on_17 (Nat.le_of_ble_eq_true rfl) rfl (?_ : Ex _ _ 19 _ _ _ _ _))) og_L_asks rfl ml_RL_41 sm_L_asks (Nat.le_of_ble_eq_true rfl) dL_on_8
      refine x_ldc (x := (-90002)) kc_RL_52 dL_on_19 (by decide +kernel) (by decide) (?_ : Ex _ _ 21 _ _ _ _ _)
      cases h
      exact x_ret dL_on_21 (by decide : (0 : Int) ≠ 3)
    rcases ite_some h with ⟨b8, h⟩ | ⟨b8, h⟩
    · refine cS6 (e_L_asks d g3) (contH [(0, 11, 12, 47), (0, 11, 17, 50)] [] (0, 11, 22, 53) x4 (by subst b8; rfl) rfl (by decide) (by decide) cl_RL_53 ca_xIS (cH2 ⟨by decide, _, cl_RL_47, by decide⟩ ⟨by decide, _, cl_RL_50, by decide⟩) (h_astore (ls2 := [(21, l0), (0, l1), (0, l2), (0, l3), (0, l4), (0, l5), (3, 0)]) dL_on_22 (Nat.le_of_ble_eq_true rfl) rfl (?_ : Ex _ _ 24 _ _ _ _ _))) og_L_asks rfl ml_RL_41 sm_L_asks (Nat.le_of_ble_eq_true rfl) dL_on_8
      refine x_ldc (x := (-90003)) kc_RL_55 dL_on_24 (by decide +kernel) (by decide) (?_ : Ex _ _ 26 _ _ _ _ _)
      cases h
      exact x_ret dL_on_26 (by decide : (0 : Int) ≠ 3)
    cases h
theorem e_L_on (d : Nat) {a0 a1 a2 a3 a4 a5 : Int} {m : Mem} {v : Int} {m' : Mem} (h : L_on a0 a1 a2 a3 a4 a5 m = some (v, m')) : ExM (d + 47) fm_L_on [(21, a0), (0, a1), (0, a2), (0, a3), (0, a4), (0, a5)] m (.inl (0, v)) m' := by
  exact ExM.of (by decide +kernel) (Nat.le_of_ble_eq_true rfl) (cat9 rfl) retI (e_L_on_0 d h)
theorem dL_isHistory_0 : decode cL_isHistory 0 = .ok (.aload_n 0, 1) := by decide +kernel
theorem dL_isHistory_1 : decode cL_isHistory 1 = .ok (.iload_n 1, 1) := by decide +kernel
theorem dL_isHistory_2 : decode cL_isHistory 2 = .ok (.iload_n 2, 1) := by decide +kernel
theorem dL_isHistory_3 : decode cL_isHistory 3 = .ok (.invokevirtual 56, 3) := by decide +kernel
theorem dL_isHistory_6 : decode cL_isHistory 6 = .ok (.istore_n 3, 1) := by decide +kernel
theorem dL_isHistory_7 : decode cL_isHistory 7 = .ok (.aload_n 0, 1) := by decide +kernel
theorem dL_isHistory_8 : decode cL_isHistory 8 = .ok (.iload_n 1, 1) := by decide +kernel
theorem dL_isHistory_9 : decode cL_isHistory 9 = .ok (.iload_n 2, 1) := by decide +kernel
theorem dL_isHistory_10 : decode cL_isHistory 10 = .ok (.invokevirtual 59, 3) := by decide +kernel
theorem dL_isHistory_13 : decode cL_isHistory 13 = .ok (.istore 4, 2) := by decide +kernel
theorem dL_isHistory_15 : decode cL_isHistory 15 = .ok (.iconst 0, 1) := by decide +kernel
theorem dL_isHistory_16 : decode cL_isHistory 16 = .ok (.istore 5, 2) := by decide +kernel
theorem dL_isHistory_18 : decode cL_isHistory 18 = .ok (.iload_n 3, 1) := by decide +kernel
theorem dL_isHistory_19 : decode cL_isHistory 19 = .ok (.ifCond .le 23, 3) := by decide +kernel
theorem dL_isHistory_22 : decode cL_isHistory 22 = .ok (.iload_n 3, 1) := by decide +kernel
theorem dL_isHistory_23 : decode cL_isHistory 23 = .ok (.bipush 80, 2) := by decide +kernel
theorem dL_isHistory_25 : decode cL_isHistory 25 = .ok (.if_icmp .gt 17, 3) := by decide +kernel
theorem dL_isHistory_28 : decode cL_isHistory 28 = .ok (.aload_n 0, 1) := by decide +kernel
theorem dL_isHistory_29 : decode cL_isHistory 29 = .ok (.iload_n 1, 1) := by decide +kernel
theorem dL_isHistory_30 : decode cL_isHistory 30 = .ok (.iload_n 2, 1) := by decide +kernel
theorem dL_isHistory_31 : decode cL_isHistory 31 = .ok (.iconst 0, 1) := by decide +kernel
theorem dL_isHistory_32 : decode cL_isHistory 32 = .ok (.invokevirtual 62, 3) := by decide +kernel
theorem dL_isHistory_35 : decode cL_isHistory 35 = .ok (.ifCond .ne 7, 3) := by decide +kernel
theorem dL_isHistory_38 : decode cL_isHistory 38 = .ok (.iconst 1, 1) := by decide +kernel
theorem dL_isHistory_39 : decode cL_isHistory 39 = .ok (.goto 4, 3) := by decide +kernel
theorem dL_isHistory_42 : decode cL_isHistory 42 = .ok (.iconst 0, 1) := by decide +kernel
theorem dL_isHistory_43 : decode cL_isHistory 43 = .ok (.istore 6, 2) := by decide +kernel
theorem dL_isHistory_45 : decode cL_isHistory 45 = .ok (.iconst 0, 1) := by decide +kernel
theorem dL_isHistory_46 : decode cL_isHistory 46 = .ok (.istore 7, 2) := by decide +kernel
theorem dL_isHistory_48 : decode cL_isHistory 48 = .ok (.iconst 0, 1) := by decide +kernel
theorem dL_isHistory_49 : decode cL_isHistory 49 = .ok (.istore 8, 2) := by decide +kernel
theorem dL_isHistory_51 : decode cL_isHistory 51 = .ok (.iconst 0, 1) := by decide +kernel
theorem dL_isHistory_52 : decode cL_isHistory 52 = .ok (.istore 9, 2) := by decide +kernel
theorem dL_isHistory_54 : decode cL_isHistory 54 = .ok (.iconst 0, 1) := by decide +kernel
theorem dL_isHistory_55 : decode cL_isHistory 55 = .ok (.istore 10, 2) := by decide +kernel
theorem dL_isHistory_57 : decode cL_isHistory 57 = .ok (.iconst 1, 1) := by decide +kernel
theorem dL_isHistory_58 : decode cL_isHistory 58 = .ok (.istore 11, 2) := by decide +kernel
theorem dL_isHistory_60 : decode cL_isHistory 60 = .ok (.iload 11, 2) := by decide +kernel
theorem dL_isHistory_62 : decode cL_isHistory 62 = .ok (.iload_n 3, 1) := by decide +kernel
theorem dL_isHistory_63 : decode cL_isHistory 63 = .ok (.if_icmp .ge 266, 3) := by decide +kernel
theorem dL_isHistory_66 : decode cL_isHistory 66 = .ok (.iload 6, 2) := by decide +kernel
theorem dL_isHistory_68 : decode cL_isHistory 68 = .ok (.ifCond .eq 261, 3) := by decide +kernel
theorem dL_isHistory_71 : decode cL_isHistory 71 = .ok (.aload_n 0, 1) := by decide +kernel
theorem dL_isHistory_72 : decode cL_isHistory 72 = .ok (.iload_n 1, 1) := by decide +kernel
theorem dL_isHistory_73 : decode cL_isHistory 73 = .ok (.iload_n 2, 1) := by decide +kernel
theorem dL_isHistory_74 : decode cL_isHistory 74 = .ok (.iload 11, 2) := by decide +kernel
theorem dL_isHistory_76 : decode cL_isHistory 76 = .ok (.invokevirtual 62, 3) := by decide +kernel
theorem dL_isHistory_79 : decode cL_isHistory 79 = .ok (.istore 12, 2) := by decide +kernel
theorem dL_isHistory_81 : decode cL_isHistory 81 = .ok (.aload_n 0, 1) := by decide +kernel
theorem dL_isHistory_82 : decode cL_isHistory 82 = .ok (.iload_n 1, 1) := by decide +kernel
theorem dL_isHistory_83 : decode cL_isHistory 83 = .ok (.iload_n 2, 1) := by decide +kernel
theorem dL_isHistory_84 : decode cL_isHistory 84 = .ok (.iload 11, 2) := by decide +kernel
theorem dL_isHistory_86 : decode cL_isHistory 86 = .ok (.iconst 1, 1) := by decide +kernel
theorem dL_isHistory_87 : decode cL_isHistory 87 = .ok (.invokevirtual 65, 3) := by decide +kernel
theorem dL_isHistory_90 : decode cL_isHistory 90 = .ok (.istore 13, 2) := by decide +kernel
theorem dL_isHistory_92 : decode cL_isHistory 92 = .ok (.iload 12, 2) := by decide +kernel
theorem dL_isHistory_94 : decode cL_isHistory 94 = .ok (.ifCond .le 48, 3) := by decide +kernel
theorem dL_isHistory_97 : decode cL_isHistory 97 = .ok (.iload 12, 2) := by decide +kernel
theorem dL_isHistory_99 : decode cL_isHistory 99 = .ok (.bipush 17, 2) := by decide +kernel
theorem dL_isHistory_101 : decode cL_isHistory 101 = .ok (.if_icmp .ge 41, 3) := by decide +kernel
theorem dL_isHistory_104 : decode cL_isHistory 104 = .ok (.iload 12, 2) := by decide +kernel
theorem dL_isHistory_106 : decode cL_isHistory 106 = .ok (.bipush 8, 2) := by decide +kernel
theorem dL_isHistory_108 : decode cL_isHistory 108 = .ok (.if_icmp .lt 8, 3) := by decide +kernel
theorem dL_isHistory_111 : decode cL_isHistory 111 = .ok (.iload 5, 2) := by decide +kernel
theorem dL_isHistory_113 : decode cL_isHistory 113 = .ok (.ifCond .eq 29, 3) := by decide +kernel
theorem dL_isHistory_116 : decode cL_isHistory 116 = .ok (.iload 12, 2) := by decide +kernel
theorem dL_isHistory_118 : decode cL_isHistory 118 = .ok (.bipush 16, 2) := by decide +kernel
theorem dL_isHistory_120 : decode cL_isHistory 120 = .ok (.if_icmp .ne 18, 3) := by decide +kernel
theorem dL_isHistory_123 : decode cL_isHistory 123 = .ok (.iload 11, 2) := by decide +kernel
theorem dL_isHistory_125 : decode cL_isHistory 125 = .ok (.iload_n 3, 1) := by decide +kernel
theorem dL_isHistory_126 : decode cL_isHistory 126 = .ok (.iconst 1, 1) := by decide +kernel
theorem dL_isHistory_127 : decode cL_isHistory 127 = .ok (.isub, 1) := by decide +kernel
theorem dL_isHistory_128 : decode cL_isHistory 128 = .ok (.if_icmp .ne 14, 3) := by decide +kernel
theorem dL_isHistory_131 : decode cL_isHistory 131 = .ok (.iload 13, 2) := by decide +kernel
theorem dL_isHistory_133 : decode cL_isHistory 133 = .ok (.iload 4, 2) := by decide +kernel
theorem dL_isHistory_135 : decode cL_isHistory 135 = .ok (.if_icmp .ne 7, 3) := by decide +kernel
theorem dL_isHistory_138 : decode cL_isHistory 138 = .ok (.iconst 1, 1) := by decide +kernel
theorem dL_isHistory_139 : decode cL_isHistory 139 = .ok (.goto 4, 3) := by decide +kernel
theorem dL_isHistory_142 : decode cL_isHistory 142 = .ok (.iconst 0, 1) := by decide +kernel
theorem dL_isHistory_143 : decode cL_isHistory 143 = .ok (.istore 6, 2) := by decide +kernel
theorem dL_isHistory_145 : decode cL_isHistory 145 = .ok (.iload 12, 2) := by decide +kernel
theorem dL_isHistory_147 : decode cL_isHistory 147 = .ok (.bipush 7, 2) := by decide +kernel
theorem dL_isHistory_149 : decode cL_isHistory 149 = .ok (.if_icmp .eq 15, 3) := by decide +kernel
theorem dL_isHistory_152 : decode cL_isHistory 152 = .ok (.iload 5, 2) := by decide +kernel
theorem dL_isHistory_154 : decode cL_isHistory 154 = .ok (.ifCond .eq 14, 3) := by decide +kernel
theorem dL_isHistory_157 : decode cL_isHistory 157 = .ok (.iload 12, 2) := by decide +kernel
theorem dL_isHistory_159 : decode cL_isHistory 159 = .ok (.bipush 7, 2) := by decide +kernel
theorem dL_isHistory_161 : decode cL_isHistory 161 = .ok (.if_icmp .le 7, 3) := by decide +kernel
theorem dL_isHistory_164 : decode cL_isHistory 164 = .ok (.iconst 1, 1) := by decide +kernel
theorem dL_isHistory_165 : decode cL_isHistory 165 = .ok (.goto 4, 3) := by decide +kernel
theorem dL_isHistory_168 : decode cL_isHistory 168 = .ok (.iconst 0, 1) := by decide +kernel
theorem dL_isHistory_169 : decode cL_isHistory 169 = .ok (.istore 5, 2) := by decide +kernel
theorem dL_isHistory_171 : decode cL_isHistory 171 = .ok (.iload 7, 2) := by decide +kernel
theorem dL_isHistory_173 : decode cL_isHistory 173 = .ok (.iload 12, 2) := by decide +kernel
theorem dL_isHistory_175 : decode cL_isHistory 175 = .ok (.bipush 8, 2) := by decide +kernel
theorem dL_isHistory_177 : decode cL_isHistory 177 = .ok (.if_icmp .eq 10, 3) := by decide +kernel
theorem dL_isHistory_180 : decode cL_isHistory 180 = .ok (.iload 12, 2) := by decide +kernel
theorem dL_isHistory_182 : decode cL_isHistory 182 = .ok (.bipush 15, 2) := by decide +kernel
theorem dL_isHistory_184 : decode cL_isHistory 184 = .ok (.if_icmp .ne 7, 3) := by decide +kernel
theorem dL_isHistory_187 : decode cL_isHistory 187 = .ok (.iconst 1, 1) := by decide +kernel
theorem dL_isHistory_188 : decode cL_isHistory 188 = .ok (.goto 4, 3) := by decide +kernel
theorem dL_isHistory_191 : decode cL_isHistory 191 = .ok (.iconst 0, 1) := by decide +kernel
theorem dL_isHistory_192 : decode cL_isHistory 192 = .ok (.iadd, 1) := by decide +kernel
theorem dL_isHistory_193 : decode cL_isHistory 193 = .ok (.istore 7, 2) := by decide +kernel
theorem dL_isHistory_195 : decode cL_isHistory 195 = .ok (.iload 8, 2) := by decide +kernel
theorem dL_isHistory_197 : decode cL_isHistory 197 = .ok (.iload 12, 2) := by decide +kernel
theorem dL_isHistory_199 : decode cL_isHistory 199 = .ok (.bipush 10, 2) := by decide +kernel
theorem dL_isHistory_201 : decode cL_isHistory 201 = .ok (.if_icmp .ne 7, 3) := by decide +kernel
theorem dL_isHistory_204 : decode cL_isHistory 204 = .ok (.iconst 1, 1) := by decide +kernel
theorem dL_isHistory_205 : decode cL_isHistory 205 = .ok (.goto 4, 3) := by decide +kernel
theorem dL_isHistory_208 : decode cL_isHistory 208 = .ok (.iconst 0, 1) := by decide +kernel
theorem dL_isHistory_209 : decode cL_isHistory 209 = .ok (.iadd, 1) := by decide +kernel
theorem dL_isHistory_210 : decode cL_isHistory 210 = .ok (.istore 8, 2) := by decide +kernel
theorem dL_isHistory_212 : decode cL_isHistory 212 = .ok (.iload 9, 2) := by decide +kernel
theorem dL_isHistory_214 : decode cL_isHistory 214 = .ok (.iload 12, 2) := by decide +kernel
theorem dL_isHistory_216 : decode cL_isHistory 216 = .ok (.bipush 12, 2) := by decide +kernel
theorem dL_isHistory_218 : decode cL_isHistory 218 = .ok (.if_icmp .ne 7, 3) := by decide +kernel
theorem dL_isHistory_221 : decode cL_isHistory 221 = .ok (.iconst 1, 1) := by decide +kernel
theorem dL_isHistory_222 : decode cL_isHistory 222 = .ok (.goto 4, 3) := by decide +kernel
theorem dL_isHistory_225 : decode cL_isHistory 225 = .ok (.iconst 0, 1) := by decide +kernel
theorem dL_isHistory_226 : decode cL_isHistory 226 = .ok (.iadd, 1) := by decide +kernel
theorem dL_isHistory_227 : decode cL_isHistory 227 = .ok (.istore 9, 2) := by decide +kernel
theorem dL_isHistory_229 : decode cL_isHistory 229 = .ok (.iload 10, 2) := by decide +kernel
theorem dL_isHistory_231 : decode cL_isHistory 231 = .ok (.iload 12, 2) := by decide +kernel
theorem dL_isHistory_233 : decode cL_isHistory 233 = .ok (.bipush 6, 2) := by decide +kernel
theorem dL_isHistory_235 : decode cL_isHistory 235 = .ok (.if_icmp .ne 7, 3) := by decide +kernel
theorem dL_isHistory_238 : decode cL_isHistory 238 = .ok (.iconst 1, 1) := by decide +kernel
theorem dL_isHistory_239 : decode cL_isHistory 239 = .ok (.goto 4, 3) := by decide +kernel
theorem dL_isHistory_242 : decode cL_isHistory 242 = .ok (.iconst 0, 1) := by decide +kernel
theorem dL_isHistory_243 : decode cL_isHistory 243 = .ok (.iadd, 1) := by decide +kernel
theorem dL_isHistory_244 : decode cL_isHistory 244 = .ok (.istore 10, 2) := by decide +kernel
theorem dL_isHistory_246 : decode cL_isHistory 246 = .ok (.iload 6, 2) := by decide +kernel
theorem dL_isHistory_248 : decode cL_isHistory 248 = .ok (.ifCond .eq 72, 3) := by decide +kernel
theorem dL_isHistory_251 : decode cL_isHistory 251 = .ok (.iload 12, 2) := by decide +kernel
theorem dL_isHistory_253 : decode cL_isHistory 253 = .ok (.iconst 1, 1) := by decide +kernel
theorem dL_isHistory_254 : decode cL_isHistory 254 = .ok (.if_icmp .eq 16, 3) := by decide +kernel
theorem dL_isHistory_257 : decode cL_isHistory 257 = .ok (.iload 12, 2) := by decide +kernel
theorem dL_isHistory_259 : decode cL_isHistory 259 = .ok (.iconst 2, 1) := by decide +kernel
theorem dL_isHistory_260 : decode cL_isHistory 260 = .ok (.if_icmp .eq 10, 3) := by decide +kernel
theorem dL_isHistory_263 : decode cL_isHistory 263 = .ok (.iload 12, 2) := by decide +kernel
theorem dL_isHistory_265 : decode cL_isHistory 265 = .ok (.bipush 9, 2) := by decide +kernel
theorem dL_isHistory_267 : decode cL_isHistory 267 = .ok (.if_icmp .ne 10, 3) := by decide +kernel
theorem dL_isHistory_270 : decode cL_isHistory 270 = .ok (.iload 13, 2) := by decide +kernel
theorem dL_isHistory_272 : decode cL_isHistory 272 = .ok (.iload 7, 2) := by decide +kernel
theorem dL_isHistory_274 : decode cL_isHistory 274 = .ok (.if_icmp .ge 46, 3) := by decide +kernel
theorem dL_isHistory_277 : decode cL_isHistory 277 = .ok (.iload 12, 2) := by decide +kernel
theorem dL_isHistory_279 : decode cL_isHistory 279 = .ok (.iconst 3, 1) := by decide +kernel
theorem dL_isHistory_280 : decode cL_isHistory 280 = .ok (.if_icmp .eq 10, 3) := by decide +kernel
theorem dL_isHistory_283 : decode cL_isHistory 283 = .ok (.iload 12, 2) := by decide +kernel
theorem dL_isHistory_285 : decode cL_isHistory 285 = .ok (.bipush 11, 2) := by decide +kernel
theorem dL_isHistory_287 : decode cL_isHistory 287 = .ok (.if_icmp .ne 10, 3) := by decide +kernel
theorem dL_isHistory_290 : decode cL_isHistory 290 = .ok (.iload 13, 2) := by decide +kernel
theorem dL_isHistory_292 : decode cL_isHistory 292 = .ok (.iload 8, 2) := by decide +kernel
theorem dL_isHistory_294 : decode cL_isHistory 294 = .ok (.if_icmp .ge 26, 3) := by decide +kernel
theorem dL_isHistory_297 : decode cL_isHistory 297 = .ok (.iload 12, 2) := by decide +kernel
theorem dL_isHistory_299 : decode cL_isHistory 299 = .ok (.iconst 5, 1) := by decide +kernel
theorem dL_isHistory_300 : decode cL_isHistory 300 = .ok (.if_icmp .ne 10, 3) := by decide +kernel
theorem dL_isHistory_303 : decode cL_isHistory 303 = .ok (.iload 13, 2) := by decide +kernel
theorem dL_isHistory_305 : decode cL_isHistory 305 = .ok (.iload 9, 2) := by decide +kernel
theorem dL_isHistory_307 : decode cL_isHistory 307 = .ok (.if_icmp .ge 13, 3) := by decide +kernel
theorem dL_isHistory_310 : decode cL_isHistory 310 = .ok (.iload 10, 2) := by decide +kernel
theorem dL_isHistory_312 : decode cL_isHistory 312 = .ok (.iconst 2, 1) := by decide +kernel
theorem dL_isHistory_313 : decode cL_isHistory 313 = .ok (.if_icmp .ge 7, 3) := by decide +kernel
theorem dL_isHistory_316 : decode cL_isHistory 316 = .ok (.iconst 1, 1) := by decide +kernel
theorem dL_isHistory_317 : decode cL_isHistory 317 = .ok (.goto 4, 3) := by decide +kernel
theorem dL_isHistory_320 : decode cL_isHistory 320 = .ok (.iconst 0, 1) := by decide +kernel
theorem dL_isHistory_321 : decode cL_isHistory 321 = .ok (.istore 6, 2) := by decide +kernel
theorem dL_isHistory_323 : decode cL_isHistory 323 = .ok (.iinc 11 1, 3) := by decide +kernel
theorem dL_isHistory_326 : decode cL_isHistory 326 = .ok (.goto (-266), 3) := by decide +kernel
theorem dL_isHistory_329 : decode cL_isHistory 329 = .ok (.aload_n 0, 1) := by decide +kernel
theorem dL_isHistory_330 : decode cL_isHistory 330 = .ok (.iload_n 1, 1) := by decide +kernel
theorem dL_isHistory_331 : decode cL_isHistory 331 = .ok (.iload_n 2, 1) := by decide +kernel
theorem dL_isHistory_332 : decode cL_isHistory 332 = .ok (.iload_n 3, 1) := by decide +kernel
theorem dL_isHistory_333 : decode cL_isHistory 333 = .ok (.iconst 1, 1) := by decide +kernel
theorem dL_isHistory_334 : decode cL_isHistory 334 = .ok (.isub, 1) := by decide +kernel
theorem dL_isHistory_335 : decode cL_isHistory 335 = .ok (.invokevirtual 62, 3) := by decide +kernel
theorem dL_isHistory_338 : decode cL_isHistory 338 = .ok (.bipush 16, 2) := by decide +kernel
theorem dL_isHistory_340 : decode cL_isHistory 340 = .ok (.if_icmp .ne 7, 3) := by decide +kernel
theorem dL_isHistory_343 : decode cL_isHistory 343 = .ok (.iconst 1, 1) := by decide +kernel
theorem dL_isHistory_344 : decode cL_isHistory 344 = .ok (.goto 4, 3) := by decide +kernel
theorem dL_isHistory_347 : decode cL_isHistory 347 = .ok (.iconst 0, 1) := by decide +kernel
theorem dL_isHistory_348 : decode cL_isHistory 348 = .ok (.istore 11, 2) := by decide +kernel
theorem dL_isHistory_350 : decode cL_isHistory 350 = .ok (.iload 6, 2) := by decide +kernel
theorem dL_isHistory_352 : decode cL_isHistory 352 = .ok (.ifCond .eq 60, 3) := by decide +kernel
theorem dL_isHistory_355 : decode cL_isHistory 355 = .ok (.iload 11, 2) := by decide +kernel
theorem dL_isHistory_357 : decode cL_isHistory 357 = .ok (.iload 4, 2) := by decide +kernel
theorem dL_isHistory_359 : decode cL_isHistory 359 = .ok (.bipush 20, 2) := by decide +kernel
theorem dL_isHistory_361 : decode cL_isHistory 361 = .ok (.if_icmp .eq 14, 3) := by decide +kernel
theorem dL_isHistory_364 : decode cL_isHistory 364 = .ok (.iload 4, 2) := by decide +kernel
theorem dL_isHistory_366 : decode cL_isHistory 366 = .ok (.bipush 24, 2) := by decide +kernel
theorem dL_isHistory_368 : decode cL_isHistory 368 = .ok (.if_icmp .eq 7, 3) := by decide +kernel
theorem dL_isHistory_371 : decode cL_isHistory 371 = .ok (.iconst 1, 1) := by decide +kernel
theorem dL_isHistory_372 : decode cL_isHistory 372 = .ok (.goto 4, 3) := by decide +kernel
theorem dL_isHistory_375 : decode cL_isHistory 375 = .ok (.iconst 0, 1) := by decide +kernel
theorem dL_isHistory_376 : decode cL_isHistory 376 = .ok (.if_icmp .ne 36, 3) := by decide +kernel
theorem dL_isHistory_379 : decode cL_isHistory 379 = .ok (.iload 4, 2) := by decide +kernel
theorem dL_isHistory_381 : decode cL_isHistory 381 = .ok (.bipush 20, 2) := by decide +kernel
theorem dL_isHistory_383 : decode cL_isHistory 383 = .ok (.if_icmp .eq 9, 3) := by decide +kernel
theorem dL_isHistory_386 : decode cL_isHistory 386 = .ok (.iload_n 3, 1) := by decide +kernel
theorem dL_isHistory_387 : decode cL_isHistory 387 = .ok (.bipush 80, 2) := by decide +kernel
theorem dL_isHistory_389 : decode cL_isHistory 389 = .ok (.if_icmp .gt 23, 3) := by decide +kernel
theorem dL_isHistory_392 : decode cL_isHistory 392 = .ok (.iload_n 2, 1) := by decide +kernel
theorem dL_isHistory_393 : decode cL_isHistory 393 = .ok (.aload_n 0, 1) := by decide +kernel
theorem dL_isHistory_394 : decode cL_isHistory 394 = .ok (.iload_n 1, 1) := by decide +kernel
theorem dL_isHistory_395 : decode cL_isHistory 395 = .ok (.invokevirtual 69, 3) := by decide +kernel
theorem dL_isHistory_398 : decode cL_isHistory 398 = .ok (.if_icmp .eq 10, 3) := by decide +kernel
theorem dL_isHistory_401 : decode cL_isHistory 401 = .ok (.iload 4, 2) := by decide +kernel
theorem dL_isHistory_403 : decode cL_isHistory 403 = .ok (.bipush 14, 2) := by decide +kernel
theorem dL_isHistory_405 : decode cL_isHistory 405 = .ok (.if_icmp .ne 7, 3) := by decide +kernel
theorem dL_isHistory_408 : decode cL_isHistory 408 = .ok (.iconst 1, 1) := by decide +kernel
theorem dL_isHistory_409 : decode cL_isHistory 409 = .ok (.goto 4, 3) := by decide +kernel
theorem dL_isHistory_412 : decode cL_isHistory 412 = .ok (.iconst 0, 1) := by decide +kernel
theorem dL_isHistory_413 : decode cL_isHistory 413 = .ok (.ireturn, 1) := by decide +kernel
theorem e_L_isHistory_392 (d : Nat) {l0 l1 l2 l4 : Int} {m : Mem} {v : Int} {m' : Mem} (h : L_isHistory_392 l0 l1 l2 l4 m = some (v, m')) : Ex (d + 5) fm_L_isHistory 392 [(21, l0), (0, l1), (0, l2), (3, 0), (0, l4), (3, 0), (3, 0), (3, 0), (3, 0), (3, 0), (3, 0), (3, 0), (3, 0), (3, 0)] [] m (.inl (0, v)) m' := by
  unfold L_isHistory_392 at h
  refine x_iload_n dL_isHistory_392 rfl rfl (?_ : Ex _ _ 393 _ _ _ _ _)
  refine x_aload_n dL_isHistory_393 rfl rfl (Or.inr (by decide)) (?_ : Ex _ _ 394 _ _ _ _ _)
  refine x_iload_n dL_isHistory_394 rfl rfl (?_ : Ex _ _ 395 _ _ _ _ _)
  obtain ⟨c1, h⟩ := chk_some h
  obtain ⟨v2, m3, g4, h⟩ := cal0_some h
  refine cV1 (e_X11_runs (d + 2) g4) (cont0 (by decide) (?_ : Ex _ _ 398 _ _ _ _ _)) og_X11_runs rfl ml_RL_69 11 rfl rfl c1 im_X11_runs se_X11_runs (Nat.le_of_ble_eq_true rfl) dL_isHistory_395
  rcases ite_some h with ⟨b5, h⟩ | ⟨b5, h⟩
  · refine x_icmp_eq (tgt := 408) dL_isHistory_398 rfl b5 (?_ : Ex _ _ 408 _ _ _ _ _)
    refine x_iconst dL_isHistory_408 rfl (by decide) (?_ : Ex _ _ 409 _ _ _ _ _)
    refine x_goto (tgt := 413) dL_isHistory_409 rfl (?_ : Ex _ _ 413 _ _ _ _ _)
    cases h
    exact x_ret dL_isHistory_413 (by decide : (0 : Int) ≠ 3)
  · refine x_icmp_eqN dL_isHistory_398 (by decide) b5 (?_ : Ex _ _ 401 _ _ _ _ _)
    refine x_iload dL_isHistory_401 rfl (?_ : Ex _ _ 403 _ _ _ _ _)
    refine x_bipush dL_isHistory_403 kb_14 (by decide) (?_ : Ex _ _ 405 _ _ _ _ _)
    rcases ite_some h with ⟨b6, h⟩ | ⟨b6, h⟩
    · refine x_icmp_neN dL_isHistory_405 (by decide) (fun hh => hh b6) (?_ : Ex _ _ 408 _ _ _ _ _)
      refine x_iconst dL_isHistory_408 rfl (by decide) (?_ : Ex _ _ 409 _ _ _ _ _)
      refine x_goto (tgt := 413) dL_isHistory_409 rfl (?_ : Ex _ _ 413 _ _ _ _ _)
      cases h
      exact x_ret dL_isHistory_413 (by decide : (0 : Int) ≠ 3)
    · refine x_icmp_ne (tgt := 412) dL_isHistory_405 rfl b6 (?_ : Ex _ _ 412 _ _ _ _ _)
      refine x_iconst dL_isHistory_412 rfl (by decide) (?_ : Ex _ _ 413 _ _ _ _ _)
      cases h
      exact x_ret dL_isHistory_413 (by decide : (0 : Int) ≠ 3)
theorem e_L_isHistory_376 (d : Nat) {l0 l1 l2 l3 l4 s0 s1 : Int} {m : Mem} {v : Int} {m' : Mem} (h : L_isHistory_376 l0 l1 l2 l3 l4 s0 s1 m = some (v, m')) : Ex (d + 5) fm_L_isHistory 376 [(21, l0), (0, l1), (0, l2), (0, l3), (0, l4), (3, 0), (3, 0), (3, 0), (3, 0), (3, 0), (3, 0), (3, 0), (3, 0), (3, 0)] [(0, s0), (0, s1)] m (.inl (0, v)) m' := by
  unfold L_isHistory_376 at h
  rcases ite_some h with ⟨b1, h⟩ | ⟨b1, h⟩
  · refine x_icmp_neN dL_isHistory_376 (by decide) (fun hh => hh b1) (?_ : Ex _ _ 379 _ _ _ _ _)
    refine x_iload dL_isHistory_379 rfl (?_ : Ex _ _ 381 _ _ _ _ _)
    refine x_bipush dL_isHistory_381 kb_20 (by decide) (?_ : Ex _ _ 383 _ _ _ _ _)
    rcases ite_some h with ⟨b2, h⟩ | ⟨b2, h⟩
    · refine x_icmp_eq (tgt := 392) dL_isHistory_383 rfl b2 (?_ : Ex _ _ 392 _ _ _ _ _)
      refine Ex.wk (ls2 := [(21, l0), (0, l1), (0, l2), (3, 0), (0, l4), (3, 0), (3, 0), (3, 0), (3, 0), (3, 0), (3, 0), (3, 0), (3, 0), (3, 0)]) ⟨Or.inr rfl, Or.inr rfl, Or.inr rfl, Or.inl rfl, Or.inr rfl, Or.inl rfl, Or.inl rfl, Or.inl rfl, Or.inl rfl, Or.inl rfl, Or.inl rfl, Or.inl rfl, Or.inl rfl, Or.inl rfl, trivial⟩ ?_
      exact e_L_isHistory_392 d h
    · refine x_icmp_eqN dL_isHistory_383 (by decide) b2 (?_ : Ex _ _ 386 _ _ _ _ _)
      refine x_iload_n dL_isHistory_386 rfl rfl (?_ : Ex _ _ 387 _ _ _ _ _)
      refine x_bipush dL_isHistory_387 kb_80 (by decide) (?_ : Ex _ _ 389 _ _ _ _ _)
      rcases ite_some h with ⟨b3, h⟩ | ⟨b3, h⟩
      · refine x_icmp_gt (tgt := 412) dL_isHistory_389 rfl b3 (?_ : Ex _ _ 412 _ _ _ _ _)
        refine x_iconst dL_isHistory_412 rfl (by decide) (?_ : Ex _ _ 413 _ _ _ _ _)
        cases h
        exact x_ret dL_isHistory_413 (by decide : (0 : Int) ≠ 3)
      · refine x_icmp_gtN dL_isHistory_389 (by decide) b3 (?_ : Ex _ _ 392 _ _ _ _ _)
        refine Ex.wk (ls2 := [(21, l0), (0, l1), (0, l2), (3, 0), (0, l4), (3, 0), (3, 0), (3, 0), (3, 0), (3, 0), (3, 0), (3, 0), (3, 0), (3, 0)]) ⟨Or.inr rfl, Or.inr rfl, Or.inr rfl, Or.inl rfl, Or.inr rfl, Or.inl rfl, Or.inl rfl, Or.inl rfl, Or.inl rfl, Or.inl rfl, Or.inl rfl, Or.inl rfl, Or.inl rfl, Or.inl rfl, trivial⟩ ?_
        exact e_L_isHistory_392 d h
  · refine x_icmp_ne (tgt := 412) dL_isHistory_376 rfl b1 (?_ : Ex _ _ 412 _ _ _ _ _)
    refine x_iconst dL_isHistory_412 rfl (by decide) (?_ : Ex _ _ 413 _ _ _ _ _)
    cases h
    exact x_ret dL_isHistory_413 (by decide : (0 : Int) ≠ 3)
theorem e_L_isHistory_348 (d : Nat) {l0 l1 l2 l3 l4 l6 s0 : Int} {m : Mem} {v : Int} {m' : Mem} (h : L_isHistory_348 l0 l1 l2 l3 l4 l6 s0 m = some (v, m')) : Ex (d + 5) fm_L_isHistory 348 [(21, l0), (0, l1), (0, l2), (0, l3), (0, l4), (3, 0), (0, l6), (3, 0), (3, 0), (3, 0), (3, 0), (3, 0), (3, 0), (3, 0)] [(0, s0)] m (.inl (0, v)) m' := by
  unfold L_isHistory_348 at h
  refine x_istore (ls2 := [(21, l0), (0, l1), (0, l2), (0, l3), (0, l4), (3, 0), (0, l6), (3, 0), (3, 0), (3, 0), (3, 0), (0, s0), (3, 0), (3, 0)]) dL_isHistory_348 (Nat.le_of_ble_eq_true rfl) rfl (?_ : Ex _ _ 350 _ _ _ _ _)
  refine x_iload dL_isHistory_350 rfl (?_ : Ex _ _ 352 _ _ _ _ _)
  rcases ite_some h with ⟨b1, h⟩ | ⟨b1, h⟩
  · refine x_if_eq (tgt := 412) dL_isHistory_352 rfl b1 (?_ : Ex _ _ 412 _ _ _ _ _)
    refine x_iconst dL_isHistory_412 rfl (by decide) (?_ : Ex _ _ 413 _ _ _ _ _)
    cases h
    exact x_ret dL_isHistory_413 (by decide : (0 : Int) ≠ 3)
  · refine x_if_eqN dL_isHistory_352 (by decide) b1 (?_ : Ex _ _ 355 _ _ _ _ _)
    refine x_iload dL_isHistory_355 rfl (?_ : Ex _ _ 357 _ _ _ _ _)
    refine x_iload dL_isHistory_357 rfl (?_ : Ex _ _ 359 _ _ _ _ _)
    refine x_bipush dL_isHistory_359 kb_20 (by decide) (?_ : Ex _ _ 361 _ _ _ _ _)
    rcases ite_some h with ⟨b2, h⟩ | ⟨b2, h⟩
    · refine x_icmp_eq (tgt := 375) dL_isHistory_361 rfl b2 (?_ : Ex _ _ 375 _ _ _ _ _)
      refine x_iconst dL_isHistory_375 rfl (by decide) (?_ : Ex _ _ 376 _ _ _ _ _)
      refine Ex.wk (ls2 := [(21, l0), (0, l1), (0, l2), (0, l3), (0, l4), (3, 0), (3, 0), (3, 0), (3, 0), (3, 0), (3, 0), (3, 0), (3, 0), (3, 0)]) ⟨Or.inr rfl, Or.inr rfl, Or.inr rfl, Or.inr rfl, Or.inr rfl, Or.inl rfl, Or.inl rfl, Or.inl rfl, Or.inl rfl, Or.inl rfl, Or.inl rfl, Or.inl rfl, Or.inl rfl, Or.inl rfl, trivial⟩ ?_
      exact e_L_isHistory_376 d h
    · refine x_icmp_eqN dL_isHistory_361 (by decide) b2 (?_ : Ex _ _ 364 _ _ _ _ _)
      refine x_iload dL_isHistory_364 rfl (?_ : Ex _ _ 366 _ _ _ _ _)
      refine x_bipush dL_isHistory_366 kb_24 (by decide) (?_ : Ex _ _ 368 _ _ _ _ _)
      rcases ite_some h with ⟨b3, h⟩ | ⟨b3, h⟩
      · refine x_icmp_eq (tgt := 375) dL_isHistory_368 rfl b3 (?_ : Ex _ _ 375 _ _ _ _ _)
        refine x_iconst dL_isHistory_375 rfl (by decide) (?_ : Ex _ _ 376 _ _ _ _ _)
        refine Ex.wk (ls2 := [(21, l0), (0, l1), (0, l2), (0, l3), (0, l4), (3, 0), (3, 0), (3, 0), (3, 0), (3, 0), (3, 0), (3, 0), (3, 0), (3, 0)]) ⟨Or.inr rfl, Or.inr rfl, Or.inr rfl, Or.inr rfl, Or.inr rfl, Or.inl rfl, Or.inl rfl, Or.inl rfl, Or.inl rfl, Or.inl rfl, Or.inl rfl, Or.inl rfl, Or.inl rfl, Or.inl rfl, trivial⟩ ?_
        exact e_L_isHistory_376 d h
      · refine x_icmp_eqN dL_isHistory_368 (by decide) b3 (?_ : Ex _ _ 371 _ _ _ _ _)
        refine x_iconst dL_isHistory_371 rfl (by decide) (?_ : Ex _ _ 372 _ _ _ _ _)
        refine x_goto (tgt := 376) dL_isHistory_372 rfl (?_ : Ex _ _ 376 _ _ _ _ _)
        refine Ex.wk (ls2 := [(21, l0), (0, l1), (0, l2), (0, l3), (0, l4), (3, 0), (3, 0), (3, 0), (3, 0), (3, 0), (3, 0), (3, 0), (3, 0), (3, 0)]) ⟨Or.inr rfl, Or.inr rfl, Or.inr rfl, Or.inr rfl, Or.inr rfl, Or.inl rfl, Or.inl rfl, Or.inl rfl, Or.inl rfl, Or.inl rfl, Or.inl rfl, Or.inl rfl, Or.inl rfl, Or.inl rfl, trivial⟩ ?_
        exact e_L_isHistory_376 d h
theorem e_L_isHistory_329 (d : Nat) {l0 l1 l2 l3 l4 l6 : Int} {m : Mem} {v : Int} {m' : Mem} (h : L_isHistory_329 l0 l1 l2 l3 l4 l6 m = some (v, m')) : Ex (d + 5) fm_L_isHistory 329 [(21, l0), (0, l1), (0, l2), (0, l3), (0, l4), (3, 0), (0, l6), (3, 0), (3, 0), (3, 0), (3, 0), (3, 0), (3, 0), (3, 0)] [] m (.inl (0, v)) m' := by
  unfold L_isHistory_329 at h
  refine x_aload_n dL_isHistory_329 rfl rfl (Or.inr (by decide)) (?_ : Ex _ _ 330 _ _ _ _ _)
  refine x_iload_n dL_isHistory_330 rfl rfl (?_ : Ex _ _ 331 _ _ _ _ _)
  refine x_iload_n dL_isHistory_331 rfl rfl (?_ : Ex _ _ 332 _ _ _ _ _)
  refine x_iload_n dL_isHistory_332 rfl rfl (?_ : Ex _ _ 333 _ _ _ _ _)
  refine x_iconst dL_isHistory_333 rfl (by decide) (?_ : Ex _ _ 334 _ _ _ _ _)
  obtain ⟨c1, h⟩ := chk_some h
  refine x_isub dL_isHistory_334 c1 (?_ : Ex _ _ 335 _ _ _ _ _)
  obtain ⟨c2, h⟩ := chk_some h
  obtain ⟨v3, m4, g5, h⟩ := cal0_some h
  refine cV3 (e_X11_eventKind d g5) (cont0 (by decide) (?_ : Ex _ _ 338 _ _ _ _ _)) og_X11_eventKind rfl ml_RL_62 11 rfl rfl c2 im_X11_eventKind se_X11_eventKind (Nat.le_of_ble_eq_true rfl) dL_isHistory_335
  refine x_bipush dL_isHistory_338 kb_16 (by decide) (?_ : Ex _ _ 340 _ _ _ _ _)
  rcases ite_some h with ⟨b6, h⟩ | ⟨b6, h⟩
  · refine x_icmp_neN dL_isHistory_340 (by decide) (fun hh => hh b6) (?_ : Ex _ _ 343 _ _ _ _ _)
    refine x_iconst dL_isHistory_343 rfl (by decide) (?_ : Ex _ _ 344 _ _ _ _ _)
    refine x_goto (tgt := 348) dL_isHistory_344 rfl (?_ : Ex _ _ 348 _ _ _ _ _)
    exact e_L_isHistory_348 d h
  · refine x_icmp_ne (tgt := 347) dL_isHistory_340 rfl b6 (?_ : Ex _ _ 347 _ _ _ _ _)
    refine x_iconst dL_isHistory_347 rfl (by decide) (?_ : Ex _ _ 348 _ _ _ _ _)
    exact e_L_isHistory_348 d h
theorem e_L_isHistory_310 (d : Nat) {k60 : Int → Int → Int → Int → Int → Int → Int → Int → Int → Int → Int → Int → Mem → Option R2} (hk60 : ∀ {l0 l1 l2 l3 l4 l5 l6 l7 l8 l9 l10 l11 : Int} {m : Mem} {v : Int} {m' : Mem}, k60 l0 l1 l2 l3 l4 l5 l6 l7 l8 l9 l10 l11 m = some (v, m') → Ex (d + 5) fm_L_isHistory 60 [(21, l0), (0, l1), (0, l2), (0, l3), (0, l4), (0, l5), (0, l6), (0, l7), (0, l8), (0, l9), (0, l10), (0, l11), (3, 0), (3, 0)] [] m (.inl (0, v)) m') {l0 l1 l2 l3 l4 l5 l7 l8 l9 l10 l11 : Int} {m : Mem} {v : Int} {m' : Mem} (h : L_isHistory_310 k60 l0 l1 l2 l3 l4 l5 l7 l8 l9 l10 l11 m = some (v, m')) : Ex (d + 5) fm_L_isHistory 310 [(21, l0), (0, l1), (0, l2), (0, l3), (0, l4), (0, l5), (3, 0), (0, l7), (0, l8), (0, l9), (0, l10), (0, l11), (3, 0), (3, 0)] [] m (.inl (0, v)) m' := by
  unfold L_isHistory_310 at h
  refine x_iload dL_isHistory_310 rfl (?_ : Ex _ _ 312 _ _ _ _ _)
  refine x_iconst dL_isHistory_312 rfl (by decide) (?_ : Ex _ _ 313 _ _ _ _ _)
  rcases ite_some h with ⟨b1, h⟩ | ⟨b1, h⟩
  · refine x_icmp_ge (tgt := 320) dL_isHistory_313 rfl b1 (?_ : Ex _ _ 320 _ _ _ _ _)
    refine x_iconst dL_isHistory_320 rfl (by decide) (?_ : Ex _ _ 321 _ _ _ _ _)
    refine x_istore (ls2 := [(21, l0), (0, l1), (0, l2), (0, l3), (0, l4), (0, l5), (0, 0), (0, l7), (0, l8), (0, l9), (0, l10), (0, l11), (3, 0), (3, 0)]) dL_isHistory_321 (Nat.le_of_ble_eq_true rfl) rfl (?_ : Ex _ _ 323 _ _ _ _ _)
    obtain ⟨c2, h⟩ := chk_some h
    refine x_iinc (ls2 := [(21, l0), (0, l1), (0, l2), (0, l3), (0, l4), (0, l5), (0, 0), (0, l7), (0, l8), (0, l9), (0, l10), (0, (l11 + 1)), (3, 0), (3, 0)]) dL_isHistory_323 rfl c2 rfl (?_ : Ex _ _ 326 _ _ _ _ _)
    refine x_goto (tgt := 60) dL_isHistory_326 rfl (?_ : Ex _ _ 60 _ _ _ _ _)
    exact hk60 h
  · refine x_icmp_geN dL_isHistory_313 (by decide) b1 (?_ : Ex _ _ 316 _ _ _ _ _)
    refine x_iconst dL_isHistory_316 rfl (by decide) (?_ : Ex _ _ 317 _ _ _ _ _)
    refine x_goto (tgt := 321) dL_isHistory_317 rfl (?_ : Ex _ _ 321 _ _ _ _ _)
    refine x_istore (ls2 := [(21, l0), (0, l1), (0, l2), (0, l3), (0, l4), (0, l5), (0, 1), (0, l7), (0, l8), (0, l9), (0, l10), (0, l11), (3, 0), (3, 0)]) dL_isHistory_321 (Nat.le_of_ble_eq_true rfl) rfl (?_ : Ex _ _ 323 _ _ _ _ _)
    obtain ⟨c3, h⟩ := chk_some h
    refine x_iinc (ls2 := [(21, l0), (0, l1), (0, l2), (0, l3), (0, l4), (0, l5), (0, 1), (0, l7), (0, l8), (0, l9), (0, l10), (0, (l11 + 1)), (3, 0), (3, 0)]) dL_isHistory_323 rfl c3 rfl (?_ : Ex _ _ 326 _ _ _ _ _)
    refine x_goto (tgt := 60) dL_isHistory_326 rfl (?_ : Ex _ _ 60 _ _ _ _ _)
    exact hk60 h
theorem e_L_isHistory_297 (d : Nat) {k60 : Int → Int → Int → Int → Int → Int → Int → Int → Int → Int → Int → Int → Mem → Option R2} (hk60 : ∀ {l0 l1 l2 l3 l4 l5 l6 l7 l8 l9 l10 l11 : Int} {m : Mem} {v : Int} {m' : Mem}, k60 l0 l1 l2 l3 l4 l5 l6 l7 l8 l9 l10 l11 m = some (v, m') → Ex (d + 5) fm_L_isHistory 60 [(21, l0), (0, l1), (0, l2), (0, l3), (0, l4), (0, l5), (0, l6), (0, l7), (0, l8), (0, l9), (0, l10), (0, l11), (3, 0), (3, 0)] [] m (.inl (0, v)) m') {l0 l1 l2 l3 l4 l5 l7 l8 l9 l10 l11 l12 l13 : Int} {m : Mem} {v : Int} {m' : Mem} (h : L_isHistory_297 k60 l0 l1 l2 l3 l4 l5 l7 l8 l9 l10 l11 l12 l13 m = some (v, m')) : Ex (d + 5) fm_L_isHistory 297 [(21, l0), (0, l1), (0, l2), (0, l3), (0, l4), (0, l5), (3, 0), (0, l7), (0, l8), (0, l9), (0, l10), (0, l11), (0, l12), (0, l13)] [] m (.inl (0, v)) m' := by
  unfold L_isHistory_297 at h
  refine x_iload dL_isHistory_297 rfl (?_ : Ex _ _ 299 _ _ _ _ _)
  refine x_iconst dL_isHistory_299 rfl (by decide) (?_ : Ex _ _ 300 _ _ _ _ _)
  rcases ite_some h with ⟨b1, h⟩ | ⟨b1, h⟩
  · refine x_icmp_neN dL_isHistory_300 (by decide) (fun hh => hh b1) (?_ : Ex _ _ 303 _ _ _ _ _)
    refine x_iload dL_isHistory_303 rfl (?_ : Ex _ _ 305 _ _ _ _ _)
    refine x_iload dL_isHistory_305 rfl (?_ : Ex _ _ 307 _ _ _ _ _)
    rcases ite_some h with ⟨b2, h⟩ | ⟨b2, h⟩
    · refine x_icmp_ge (tgt := 320) dL_isHistory_307 rfl b2 (?_ : Ex _ _ 320 _ _ _ _ _)
      refine x_iconst dL_isHistory_320 rfl (by decide) (?_ : Ex _ _ 321 _ _ _ _ _)
      refine x_istore (ls2 := [(21, l0), (0, l1), (0, l2), (0, l3), (0, l4), (0, l5), (0, 0), (0, l7), (0, l8), (0, l9), (0, l10), (0, l11), (0, l12), (0, l13)]) dL_isHistory_321 (Nat.le_of_ble_eq_true rfl) rfl (?_ : Ex _ _ 323 _ _ _ _ _)
      obtain ⟨c3, h⟩ := chk_some h
      refine x_iinc (ls2 := [(21, l0), (0, l1), (0, l2), (0, l3), (0, l4), (0, l5), (0, 0), (0, l7), (0, l8), (0, l9), (0, l10), (0, (l11 + 1)), (0, l12), (0, l13)]) dL_isHistory_323 rfl c3 rfl (?_ : Ex _ _ 326 _ _ _ _ _)
      refine x_goto (tgt := 60) dL_isHistory_326 rfl (?_ : Ex _ _ 60 _ _ _ _ _)
      refine Ex.wk (ls2 := [(21, l0), (0, l1), (0, l2), (0, l3), (0, l4), (0, l5), (0, 0), (0, l7), (0, l8), (0, l9), (0, l10), (0, (l11 + 1)), (3, 0), (3, 0)]) ⟨Or.inr rfl, Or.inr rfl, Or.inr rfl, Or.inr rfl, Or.inr rfl, Or.inr rfl, Or.inr rfl, Or.inr rfl, Or.inr rfl, Or.inr rfl, Or.inr rfl, Or.inr rfl, Or.inl rfl, Or.inl rfl, trivial⟩ ?_
      exact hk60 h
    · refine x_icmp_geN dL_isHistory_307 (by decide) b2 (?_ : Ex _ _ 310 _ _ _ _ _)
      refine Ex.wk (ls2 := [(21, l0), (0, l1), (0, l2), (0, l3), (0, l4), (0, l5), (3, 0), (0, l7), (0, l8), (0, l9), (0, l10), (0, l11), (3, 0), (3, 0)]) ⟨Or.inr rfl, Or.inr rfl, Or.inr rfl, Or.inr rfl, Or.inr rfl, Or.inr rfl, Or.inl rfl, Or.inr rfl, Or.inr rfl, Or.inr rfl, Or.inr rfl, Or.inr rfl, Or.inl rfl, Or.inl rfl, trivial⟩ ?_
      exact e_L_isHistory_310 d hk60 h
  · refine x_icmp_ne (tgt := 310) dL_isHistory_300 rfl b1 (?_ : Ex _ _ 310 _ _ _ _ _)
    refine Ex.wk (ls2 := [(21, l0), (0, l1), (0, l2), (0, l3), (0, l4), (0, l5), (3, 0), (0, l7), (0, l8), (0, l9), (0, l10), (0, l11), (3, 0), (3, 0)]) ⟨Or.inr rfl, Or.inr rfl, Or.inr rfl, Or.inr rfl, Or.inr rfl, Or.inr rfl, Or.inl rfl, Or.inr rfl, Or.inr rfl, Or.inr rfl, Or.inr rfl, Or.inr rfl, Or.inl rfl, Or.inl rfl, trivial⟩ ?_
    exact e_L_isHistory_310 d hk60 h
theorem e_L_isHistory_290 (d : Nat) {k60 : Int → Int → Int → Int → Int → Int → Int → Int → Int → Int → Int → Int → Mem → Option R2} (hk60 : ∀ {l0 l1 l2 l3 l4 l5 l6 l7 l8 l9 l10 l11 : Int} {m : Mem} {v : Int} {m' : Mem}, k60 l0 l1 l2 l3 l4 l5 l6 l7 l8 l9 l10 l11 m = some (v, m') → Ex (d + 5) fm_L_isHistory 60 [(21, l0), (0, l1), (0, l2), (0, l3), (0, l4), (0, l5), (0, l6), (0, l7), (0, l8), (0, l9), (0, l10), (0, l11), (3, 0), (3, 0)] [] m (.inl (0, v)) m') {l0 l1 l2 l3 l4 l5 l7 l8 l9 l10 l11 l12 l13 : Int} {m : Mem} {v : Int} {m' : Mem} (h : L_isHistory_290 k60 l0 l1 l2 l3 l4 l5 l7 l8 l9 l10 l11 l12 l13 m = some (v, m')) : Ex (d + 5) fm_L_isHistory 290 [(21, l0), (0, l1), (0, l2), (0, l3), (0, l4), (0, l5), (3, 0), (0, l7), (0, l8), (0, l9), (0, l10), (0, l11), (0, l12), (0, l13)] [] m (.inl (0, v)) m' := by
  unfold L_isHistory_290 at h
  refine x_iload dL_isHistory_290 rfl (?_ : Ex _ _ 292 _ _ _ _ _)
  refine x_iload dL_isHistory_292 rfl (?_ : Ex _ _ 294 _ _ _ _ _)
  rcases ite_some h with ⟨b1, h⟩ | ⟨b1, h⟩
  · refine x_icmp_ge (tgt := 320) dL_isHistory_294 rfl b1 (?_ : Ex _ _ 320 _ _ _ _ _)
    refine x_iconst dL_isHistory_320 rfl (by decide) (?_ : Ex _ _ 321 _ _ _ _ _)
    refine x_istore (ls2 := [(21, l0), (0, l1), (0, l2), (0, l3), (0, l4), (0, l5), (0, 0), (0, l7), (0, l8), (0, l9), (0, l10), (0, l11), (0, l12), (0, l13)]) dL_isHistory_321 (Nat.le_of_ble_eq_true rfl) rfl (?_ : Ex _ _ 323 _ _ _ _ _)
    obtain ⟨c2, h⟩ := chk_some h
    refine x_iinc (ls2 := [(21, l0), (0, l1), (0, l2), (0, l3), (0, l4), (0, l5), (0, 0), (0, l7), (0, l8), (0, l9), (0, l10), (0, (l11 + 1)), (0, l12), (0, l13)]) dL_isHistory_323 rfl c2 rfl (?_ : Ex _ _ 326 _ _ _ _ _)
    refine x_goto (tgt := 60) dL_isHistory_326 rfl (?_ : Ex _ _ 60 _ _ _ _ _)
    refine Ex.wk (ls2 := [(21, l0), (0, l1), (0, l2), (0, l3), (0, l4), (0, l5), (0, 0), (0, l7), (0, l8), (0, l9), (0, l10), (0, (l11 + 1)), (3, 0), (3, 0)]) ⟨Or.inr rfl, Or.inr rfl, Or.inr rfl, Or.inr rfl, Or.inr rfl, Or.inr rfl, Or.inr rfl, Or.inr rfl, Or.inr rfl, Or.inr rfl, Or.inr rfl, Or.inr rfl, Or.inl rfl, Or.inl rfl, trivial⟩ ?_
    exact hk60 h
  · refine x_icmp_geN dL_isHistory_294 (by decide) b1 (?_ : Ex _ _ 297 _ _ _ _ _)
    exact e_L_isHistory_297 d hk60 h
theorem e_L_isHistory_277 (d : Nat) {k60 : Int → Int → Int → Int → Int → Int → Int → Int → Int → Int → Int → Int → Mem → Option R2} (hk60 : ∀ {l0 l1 l2 l3 l4 l5 l6 l7 l8 l9 l10 l11 : Int} {m : Mem} {v : Int} {m' : Mem}, k60 l0 l1 l2 l3 l4 l5 l6 l7 l8 l9 l10 l11 m = some (v, m') → Ex (d + 5) fm_L_isHistory 60 [(21, l0), (0, l1), (0, l2), (0, l3), (0, l4), (0, l5), (0, l6), (0, l7), (0, l8), (0, l9), (0, l10), (0, l11), (3, 0), (3, 0)] [] m (.inl (0, v)) m') {l0 l1 l2 l3 l4 l5 l7 l8 l9 l10 l11 l12 l13 : Int} {m : Mem} {v : Int} {m' : Mem} (h : L_isHistory_277 k60 l0 l1 l2 l3 l4 l5 l7 l8 l9 l10 l11 l12 l13 m = some (v, m')) : Ex (d + 5) fm_L_isHistory 277 [(21, l0), (0, l1), (0, l2), (0, l3), (0, l4), (0, l5), (3, 0), (0, l7), (0, l8), (0, l9), (0, l10), (0, l11), (0, l12), (0, l13)] [] m (.inl (0, v)) m' := by
  unfold L_isHistory_277 at h
  refine x_iload dL_isHistory_277 rfl (?_ : Ex _ _ 279 _ _ _ _ _)
  refine x_iconst dL_isHistory_279 rfl (by decide) (?_ : Ex _ _ 280 _ _ _ _ _)
  rcases ite_some h with ⟨b1, h⟩ | ⟨b1, h⟩
  · refine x_icmp_eq (tgt := 290) dL_isHistory_280 rfl b1 (?_ : Ex _ _ 290 _ _ _ _ _)
    exact e_L_isHistory_290 d hk60 h
  · refine x_icmp_eqN dL_isHistory_280 (by decide) b1 (?_ : Ex _ _ 283 _ _ _ _ _)
    refine x_iload dL_isHistory_283 rfl (?_ : Ex _ _ 285 _ _ _ _ _)
    refine x_bipush dL_isHistory_285 kb_11 (by decide) (?_ : Ex _ _ 287 _ _ _ _ _)
    rcases ite_some h with ⟨b2, h⟩ | ⟨b2, h⟩
    · refine x_icmp_neN dL_isHistory_287 (by decide) (fun hh => hh b2) (?_ : Ex _ _ 290 _ _ _ _ _)
      exact e_L_isHistory_290 d hk60 h
    · refine x_icmp_ne (tgt := 297) dL_isHistory_287 rfl b2 (?_ : Ex _ _ 297 _ _ _ _ _)
      exact e_L_isHistory_297 d hk60 h
theorem e_L_isHistory_270 (d : Nat) {k60 : Int → Int → Int → Int → Int → Int → Int → Int → Int → Int → Int → Int → Mem → Option R2} (hk60 : ∀ {l0 l1 l2 l3 l4 l5 l6 l7 l8 l9 l10 l11 : Int} {m : Mem} {v : Int} {m' : Mem}, k60 l0 l1 l2 l3 l4 l5 l6 l7 l8 l9 l10 l11 m = some (v, m') → Ex (d + 5) fm_L_isHistory 60 [(21, l0), (0, l1), (0, l2), (0, l3), (0, l4), (0, l5), (0, l6), (0, l7), (0, l8), (0, l9), (0, l10), (0, l11), (3, 0), (3, 0)] [] m (.inl (0, v)) m') {l0 l1 l2 l3 l4 l5 l7 l8 l9 l10 l11 l12 l13 : Int} {m : Mem} {v : Int} {m' : Mem} (h : L_isHistory_270 k60 l0 l1 l2 l3 l4 l5 l7 l8 l9 l10 l11 l12 l13 m = some (v, m')) : Ex (d + 5) fm_L_isHistory 270 [(21, l0), (0, l1), (0, l2), (0, l3), (0, l4), (0, l5), (3, 0), (0, l7), (0, l8), (0, l9), (0, l10), (0, l11), (0, l12), (0, l13)] [] m (.inl (0, v)) m' := by
  unfold L_isHistory_270 at h
  refine x_iload dL_isHistory_270 rfl (?_ : Ex _ _ 272 _ _ _ _ _)
  refine x_iload dL_isHistory_272 rfl (?_ : Ex _ _ 274 _ _ _ _ _)
  rcases ite_some h with ⟨b1, h⟩ | ⟨b1, h⟩
  · refine x_icmp_ge (tgt := 320) dL_isHistory_274 rfl b1 (?_ : Ex _ _ 320 _ _ _ _ _)
    refine x_iconst dL_isHistory_320 rfl (by decide) (?_ : Ex _ _ 321 _ _ _ _ _)
    refine x_istore (ls2 := [(21, l0), (0, l1), (0, l2), (0, l3), (0, l4), (0, l5), (0, 0), (0, l7), (0, l8), (0, l9), (0, l10), (0, l11), (0, l12), (0, l13)]) dL_isHistory_321 (Nat.le_of_ble_eq_true rfl) rfl (?_ : Ex _ _ 323 _ _ _ _ _)
    obtain ⟨c2, h⟩ := chk_some h
    refine x_iinc (ls2 := [(21, l0), (0, l1), (0, l2), (0, l3), (0, l4), (0, l5), (0, 0), (0, l7), (0, l8), (0, l9), (0, l10), (0, (l11 + 1)), (0, l12), (0, l13)]) dL_isHistory_323 rfl c2 rfl (?_ : Ex _ _ 326 _ _ _ _ _)
    refine x_goto (tgt := 60) dL_isHistory_326 rfl (?_ : Ex _ _ 60 _ _ _ _ _)
    refine Ex.wk (ls2 := [(21, l0), (0, l1), (0, l2), (0, l3), (0, l4), (0, l5), (0, 0), (0, l7), (0, l8), (0, l9), (0, l10), (0, (l11 + 1)), (3, 0), (3, 0)]) ⟨Or.inr rfl, Or.inr rfl, Or.inr rfl, Or.inr rfl, Or.inr rfl, Or.inr rfl, Or.inr rfl, Or.inr rfl, Or.inr rfl, Or.inr rfl, Or.inr rfl, Or.inr rfl, Or.inl rfl, Or.inl rfl, trivial⟩ ?_
    exact hk60 h
  · refine x_icmp_geN dL_isHistory_274 (by decide) b1 (?_ : Ex _ _ 277 _ _ _ _ _)
    exact e_L_isHistory_277 d hk60 h
theorem e_L_isHistory_243 (d : Nat) {k60 : Int → Int → Int → Int → Int → Int → Int → Int → Int → Int → Int → Int → Mem → Option R2} (hk60 : ∀ {l0 l1 l2 l3 l4 l5 l6 l7 l8 l9 l10 l11 : Int} {m : Mem} {v : Int} {m' : Mem}, k60 l0 l1 l2 l3 l4 l5 l6 l7 l8 l9 l10 l11 m = some (v, m') → Ex (d + 5) fm_L_isHistory 60 [(21, l0), (0, l1), (0, l2), (0, l3), (0, l4), (0, l5), (0, l6), (0, l7), (0, l8), (0, l9), (0, l10), (0, l11), (3, 0), (3, 0)] [] m (.inl (0, v)) m') {l0 l1 l2 l3 l4 l5 l6 l7 l8 l9 l11 l12 l13 s0 s1 : Int} {m : Mem} {v : Int} {m' : Mem} (h : L_isHistory_243 k60 l0 l1 l2 l3 l4 l5 l6 l7 l8 l9 l11 l12 l13 s0 s1 m = some (v, m')) : Ex (d + 5) fm_L_isHistory 243 [(21, l0), (0, l1), (0, l2), (0, l3), (0, l4), (0, l5), (0, l6), (0, l7), (0, l8), (0, l9), (3, 0), (0, l11), (0, l12), (0, l13)] [(0, s0), (0, s1)] m (.inl (0, v)) m' := by
  unfold L_isHistory_243 at h
  obtain ⟨c1, h⟩ := chk_some h
  refine x_iadd dL_isHistory_243 c1 (?_ : Ex _ _ 244 _ _ _ _ _)
  refine x_istore (ls2 := [(21, l0), (0, l1), (0, l2), (0, l3), (0, l4), (0, l5), (0, l6), (0, l7), (0, l8), (0, l9), (0, (s1 + s0)), (0, l11), (0, l12), (0, l13)]) dL_isHistory_244 (Nat.le_of_ble_eq_true rfl) rfl (?_ : Ex _ _ 246 _ _ _ _ _)
  refine x_iload dL_isHistory_246 rfl (?_ : Ex _ _ 248 _ _ _ _ _)
  rcases ite_some h with ⟨b2, h⟩ | ⟨b2, h⟩
  · refine x_if_eq (tgt := 320) dL_isHistory_248 rfl b2 (?_ : Ex _ _ 320 _ _ _ _ _)
    refine x_iconst dL_isHistory_320 rfl (by decide) (?_ : Ex _ _ 321 _ _ _ _ _)
    refine x_istore (ls2 := [(21, l0), (0, l1), (0, l2), (0, l3), (0, l4), (0, l5), (0, 0), (0, l7), (0, l8), (0, l9), (0, (s1 + s0)), (0, l11), (0, l12), (0, l13)]) dL_isHistory_321 (Nat.le_of_ble_eq_true rfl) rfl (?_ : Ex _ _ 323 _ _ _ _ _)
    obtain ⟨c3, h⟩ := chk_some h
    refine x_iinc (ls2 := [(21, l0), (0, l1), (0, l2), (0, l3), (0, l4), (0, l5), (0, 0), (0, l7), (0, l8), (0, l9), (0, (s1 + s0)), (0, (l11 + 1)), (0, l12), (0, l13)]) dL_isHistory_323 rfl c3 rfl (?_ : Ex _ _ 326 _ _ _ _ _)
    refine x_goto (tgt := 60) dL_isHistory_326 rfl (?_ : Ex _ _ 60 _ _ _ _ _)
    refine Ex.wk (ls2 := [(21, l0), (0, l1), (0, l2), (0, l3), (0, l4), (0, l5), (0, 0), (0, l7), (0, l8), (0, l9), (0, (s1 + s0)), (0, (l11 + 1)), (3, 0), (3, 0)]) ⟨Or.inr rfl, Or.inr rfl, Or.inr rfl, Or.inr rfl, Or.inr rfl, Or.inr rfl, Or.inr rfl, Or.inr rfl, Or.inr rfl, Or.inr rfl, Or.inr rfl, Or.inr rfl, Or.inl rfl, Or.inl rfl, trivial⟩ ?_
    exact hk60 h
  · refine x_if_eqN dL_isHistory_248 (by decide) b2 (?_ : Ex _ _ 251 _ _ _ _ _)
    refine x_iload dL_isHistory_251 rfl (?_ : Ex _ _ 253 _ _ _ _ _)
    refine x_iconst dL_isHistory_253 rfl (by decide) (?_ : Ex _ _ 254 _ _ _ _ _)
    rcases ite_some h with ⟨b4, h⟩ | ⟨b4, h⟩
    · refine x_icmp_eq (tgt := 270) dL_isHistory_254 rfl b4 (?_ : Ex _ _ 270 _ _ _ _ _)
      refine Ex.wk (ls2 := [(21, l0), (0, l1), (0, l2), (0, l3), (0, l4), (0, l5), (3, 0), (0, l7), (0, l8), (0, l9), (0, (s1 + s0)), (0, l11), (0, l12), (0, l13)]) ⟨Or.inr rfl, Or.inr rfl, Or.inr rfl, Or.inr rfl, Or.inr rfl, Or.inr rfl, Or.inl rfl, Or.inr rfl, Or.inr rfl, Or.inr rfl, Or.inr rfl, Or.inr rfl, Or.inr rfl, Or.inr rfl, trivial⟩ ?_
      exact e_L_isHistory_270 d hk60 h
    · refine x_icmp_eqN dL_isHistory_254 (by decide) b4 (?_ : Ex _ _ 257 _ _ _ _ _)
      refine x_iload dL_isHistory_257 rfl (?_ : Ex _ _ 259 _ _ _ _ _)
      refine x_iconst dL_isHistory_259 rfl (by decide) (?_ : Ex _ _ 260 _ _ _ _ _)
      rcases ite_some h with ⟨b5, h⟩ | ⟨b5, h⟩
      · refine x_icmp_eq (tgt := 270) dL_isHistory_260 rfl b5 (?_ : Ex _ _ 270 _ _ _ _ _)
        refine Ex.wk (ls2 := [(21, l0), (0, l1), (0, l2), (0, l3), (0, l4), (0, l5), (3, 0), (0, l7), (0, l8), (0, l9), (0, (s1 + s0)), (0, l11), (0, l12), (0, l13)]) ⟨Or.inr rfl, Or.inr rfl, Or.inr rfl, Or.inr rfl, Or.inr rfl, Or.inr rfl, Or.inl rfl, Or.inr rfl, Or.inr rfl, Or.inr rfl, Or.inr rfl, Or.inr rfl, Or.inr rfl, Or.inr rfl, trivial⟩ ?_
        exact e_L_isHistory_270 d hk60 h
      · refine x_icmp_eqN dL_isHistory_260 (by decide) b5 (?_ : Ex _ _ 263 _ _ _ _ _)
        refine x_iload dL_isHistory_263 rfl (?_ : Ex _ _ 265 _ _ _ _ _)
        refine x_bipush dL_isHistory_265 kb_9 (by decide) (?_ : Ex _ _ 267 _ _ _ _ _)
        rcases ite_some h with ⟨b6, h⟩ | ⟨b6, h⟩
        · refine x_icmp_neN dL_isHistory_267 (by decide) (fun hh => hh b6) (?_ : Ex _ _ 270 _ _ _ _ _)
          refine Ex.wk (ls2 := [(21, l0), (0, l1), (0, l2), (0, l3), (0, l4), (0, l5), (3, 0), (0, l7), (0, l8), (0, l9), (0, (s1 + s0)), (0, l11), (0, l12), (0, l13)]) ⟨Or.inr rfl, Or.inr rfl, Or.inr rfl, Or.inr rfl, Or.inr rfl, Or.inr rfl, Or.inl rfl, Or.inr rfl, Or.inr rfl, Or.inr rfl, Or.inr rfl, Or.inr rfl, Or.inr rfl, Or.inr rfl, trivial⟩ ?_
          exact e_L_isHistory_270 d hk60 h
        · refine x_icmp_ne (tgt := 277) dL_isHistory_267 rfl b6 (?_ : Ex _ _ 277 _ _ _ _ _)
          refine Ex.wk (ls2 := [(21, l0), (0, l1), (0, l2), (0, l3), (0, l4), (0, l5), (3, 0), (0, l7), (0, l8), (0, l9), (0, (s1 + s0)), (0, l11), (0, l12), (0, l13)]) ⟨Or.inr rfl, Or.inr rfl, Or.inr rfl, Or.inr rfl, Or.inr rfl, Or.inr rfl, Or.inl rfl, Or.inr rfl, Or.inr rfl, Or.inr rfl, Or.inr rfl, Or.inr rfl, Or.inr rfl, Or.inr rfl, trivial⟩ ?_
          exact e_L_isHistory_277 d hk60 h
theorem e_L_isHistory_226 (d : Nat) {k60 : Int → Int → Int → Int → Int → Int → Int → Int → Int → Int → Int → Int → Mem → Option R2} (hk60 : ∀ {l0 l1 l2 l3 l4 l5 l6 l7 l8 l9 l10 l11 : Int} {m : Mem} {v : Int} {m' : Mem}, k60 l0 l1 l2 l3 l4 l5 l6 l7 l8 l9 l10 l11 m = some (v, m') → Ex (d + 5) fm_L_isHistory 60 [(21, l0), (0, l1), (0, l2), (0, l3), (0, l4), (0, l5), (0, l6), (0, l7), (0, l8), (0, l9), (0, l10), (0, l11), (3, 0), (3, 0)] [] m (.inl (0, v)) m') {l0 l1 l2 l3 l4 l5 l6 l7 l8 l10 l11 l12 l13 s0 s1 : Int} {m : Mem} {v : Int} {m' : Mem} (h : L_isHistory_226 k60 l0 l1 l2 l3 l4 l5 l6 l7 l8 l10 l11 l12 l13 s0 s1 m = some (v, m')) : Ex (d + 5) fm_L_isHistory 226 [(21, l0), (0, l1), (0, l2), (0, l3), (0, l4), (0, l5), (0, l6), (0, l7), (0, l8), (3, 0), (0, l10), (0, l11), (0, l12), (0, l13)] [(0, s0), (0, s1)] m (.inl (0, v)) m' := by
  unfold L_isHistory_226 at h
  obtain ⟨c1, h⟩ := chk_some h
  refine x_iadd dL_isHistory_226 c1 (?_ : Ex _ _ 227 _ _ _ _ _)
  refine x_istore (ls2 := [(21, l0), (0, l1), (0, l2), (0, l3), (0, l4), (0, l5), (0, l6), (0, l7), (0, l8), (0, (s1 + s0)), (0, l10), (0, l11), (0, l12), (0, l13)]) dL_isHistory_227 (Nat.le_of_ble_eq_true rfl) rfl (?_ : Ex _ _ 229 _ _ _ _ _)
  refine x_iload dL_isHistory_229 rfl (?_ : Ex _ _ 231 _ _ _ _ _)
  refine x_iload dL_isHistory_231 rfl (?_ : Ex _ _ 233 _ _ _ _ _)
  refine x_bipush dL_isHistory_233 kb_6 (by decide) (?_ : Ex _ _ 235 _ _ _ _ _)
  rcases ite_some h with ⟨b2, h⟩ | ⟨b2, h⟩
  · refine x_icmp_neN dL_isHistory_235 (by decide) (fun hh => hh b2) (?_ : Ex _ _ 238 _ _ _ _ _)
    refine x_iconst dL_isHistory_238 rfl (by decide) (?_ : Ex _ _ 239 _ _ _ _ _)
    refine x_goto (tgt := 243) dL_isHistory_239 rfl (?_ : Ex _ _ 243 _ _ _ _ _)
    refine Ex.wk (ls2 := [(21, l0), (0, l1), (0, l2), (0, l3), (0, l4), (0, l5), (0, l6), (0, l7), (0, l8), (0, (s1 + s0)), (3, 0), (0, l11), (0, l12), (0, l13)]) ⟨Or.inr rfl, Or.inr rfl, Or.inr rfl, Or.inr rfl, Or.inr rfl, Or.inr rfl, Or.inr rfl, Or.inr rfl, Or.inr rfl, Or.inr rfl, Or.inl rfl, Or.inr rfl, Or.inr rfl, Or.inr rfl, trivial⟩ ?_
    exact e_L_isHistory_243 d hk60 h
  · refine x_icmp_ne (tgt := 242) dL_isHistory_235 rfl b2 (?_ : Ex _ _ 242 _ _ _ _ _)
    refine x_iconst dL_isHistory_242 rfl (by decide) (?_ : Ex _ _ 243 _ _ _ _ _)
    refine Ex.wk (ls2 := [(21, l0), (0, l1), (0, l2), (0, l3), (0, l4), (0, l5), (0, l6), (0, l7), (0, l8), (0, (s1 + s0)), (3, 0), (0, l11), (0, l12), (0, l13)]) ⟨Or.inr rfl, Or.inr rfl, Or.inr rfl, Or.inr rfl, Or.inr rfl, Or.inr rfl, Or.inr rfl, Or.inr rfl, Or.inr rfl, Or.inr rfl, Or.inl rfl, Or.inr rfl, Or.inr rfl, Or.inr rfl, trivial⟩ ?_
    exact e_L_isHistory_243 d hk60 h
theorem e_L_isHistory_209 (d : Nat) {k60 : Int → Int → Int → Int → Int → Int → Int → Int → Int → Int → Int → Int → Mem → Option R2} (hk60 : ∀ {l0 l1 l2 l3 l4 l5 l6 l7 l8 l9 l10 l11 : Int} {m : Mem} {v : Int} {m' : Mem}, k60 l0 l1 l2 l3 l4 l5 l6 l7 l8 l9 l10 l11 m = some (v, m') → Ex (d + 5) fm_L_isHistory 60 [(21, l0), (0, l1), (0, l2), (0, l3), (0, l4), (0, l5), (0, l6), (0, l7), (0, l8), (0, l9), (0, l10), (0, l11), (3, 0), (3, 0)] [] m (.inl (0, v)) m') {l0 l1 l2 l3 l4 l5 l6 l7 l9 l10 l11 l12 l13 s0 s1 : Int} {m : Mem} {v : Int} {m' : Mem} (h : L_isHistory_209 k60 l0 l1 l2 l3 l4 l5 l6 l7 l9 l10 l11 l12 l13 s0 s1 m = some (v, m')) : Ex (d + 5) fm_L_isHistory 209 [(21, l0), (0, l1), (0, l2), (0, l3), (0, l4), (0, l5), (0, l6), (0, l7), (3, 0), (0, l9), (0, l10), (0, l11), (0, l12), (0, l13)] [(0, s0), (0, s1)] m (.inl (0, v)) m' := by
  unfold L_isHistory_209 at h
  obtain ⟨c1, h⟩ := chk_some h
  refine x_iadd dL_isHistory_209 c1 (?_ : Ex _ _ 210 _ _ _ _ _)
  refine x_istore (ls2 := [(21, l0), (0, l1), (0, l2), (0, l3), (0, l4), (0, l5), (0, l6), (0, l7), (0, (s1 + s0)), (0, l9), (0, l10), (0, l11), (0, l12), (0, l13)]) dL_isHistory_210 (Nat.le_of_ble_eq_true rfl) rfl (?_ : Ex _ _ 212 _ _ _ _ _)
  refine x_iload dL_isHistory_212 rfl (?_ : Ex _ _ 214 _ _ _ _ _)
  refine x_iload dL_isHistory_214 rfl (?_ : Ex _ _ 216 _ _ _ _ _)
  refine x_bipush dL_isHistory_216 kb_12 (by decide) (?_ : Ex _ _ 218 _ _ _ _ _)
  rcases ite_some h with ⟨b2, h⟩ | ⟨b2, h⟩
  · refine x_icmp_neN dL_isHistory_218 (by decide) (fun hh => hh b2) (?_ : Ex _ _ 221 _ _ _ _ _)
    refine x_iconst dL_isHistory_221 rfl (by decide) (?_ : Ex _ _ 222 _ _ _ _ _)
    refine x_goto (tgt := 226) dL_isHistory_222 rfl (?_ : Ex _ _ 226 _ _ _ _ _)
    refine Ex.wk (ls2 := [(21, l0), (0, l1), (0, l2), (0, l3), (0, l4), (0, l5), (0, l6), (0, l7), (0, (s1 + s0)), (3, 0), (0, l10), (0, l11), (0, l12), (0, l13)]) ⟨Or.inr rfl, Or.inr rfl, Or.inr rfl, Or.inr rfl, Or.inr rfl, Or.inr rfl, Or.inr rfl, Or.inr rfl, Or.inr rfl, Or.inl rfl, Or.inr rfl, Or.inr rfl, Or.inr rfl, Or.inr rfl, trivial⟩ ?_
    exact e_L_isHistory_226 d hk60 h
  · refine x_icmp_ne (tgt := 225) dL_isHistory_218 rfl b2 (?_ : Ex _ _ 225 _ _ _ _ _)
    refine x_iconst dL_isHistory_225 rfl (by decide) (?_ : Ex _ _ 226 _ _ _ _ _)
    refine Ex.wk (ls2 := [(21, l0), (0, l1), (0, l2), (0, l3), (0, l4), (0, l5), (0, l6), (0, l7), (0, (s1 + s0)), (3, 0), (0, l10), (0, l11), (0, l12), (0, l13)]) ⟨Or.inr rfl, Or.inr rfl, Or.inr rfl, Or.inr rfl, Or.inr rfl, Or.inr rfl, Or.inr rfl, Or.inr rfl, Or.inr rfl, Or.inl rfl, Or.inr rfl, Or.inr rfl, Or.inr rfl, Or.inr rfl, trivial⟩ ?_
    exact e_L_isHistory_226 d hk60 h
theorem e_L_isHistory_192 (d : Nat) {k60 : Int → Int → Int → Int → Int → Int → Int → Int → Int → Int → Int → Int → Mem → Option R2} (hk60 : ∀ {l0 l1 l2 l3 l4 l5 l6 l7 l8 l9 l10 l11 : Int} {m : Mem} {v : Int} {m' : Mem}, k60 l0 l1 l2 l3 l4 l5 l6 l7 l8 l9 l10 l11 m = some (v, m') → Ex (d + 5) fm_L_isHistory 60 [(21, l0), (0, l1), (0, l2), (0, l3), (0, l4), (0, l5), (0, l6), (0, l7), (0, l8), (0, l9), (0, l10), (0, l11), (3, 0), (3, 0)] [] m (.inl (0, v)) m') {l0 l1 l2 l3 l4 l5 l6 l8 l9 l10 l11 l12 l13 s0 s1 : Int} {m : Mem} {v : Int} {m' : Mem} (h : L_isHistory_192 k60 l0 l1 l2 l3 l4 l5 l6 l8 l9 l10 l11 l12 l13 s0 s1 m = some (v, m')) : Ex (d + 5) fm_L_isHistory 192 [(21, l0), (0, l1), (0, l2), (0, l3), (0, l4), (0, l5), (0, l6), (3, 0), (0, l8), (0, l9), (0, l10), (0, l11), (0, l12), (0, l13)] [(0, s0), (0, s1)] m (.inl (0, v)) m' := by
  unfold L_isHistory_192 at h
  obtain ⟨c1, h⟩ := chk_some h
  refine x_iadd dL_isHistory_192 c1 (?_ : Ex _ _ 193 _ _ _ _ _)
  refine x_istore (ls2 := [(21, l0), (0, l1), (0, l2), (0, l3), (0, l4), (0, l5), (0, l6), (0, (s1 + s0)), (0, l8), (0, l9), (0, l10), (0, l11), (0, l12), (0, l13)]) dL_isHistory_193 (Nat.le_of_ble_eq_true rfl) rfl (?_ : Ex _ _ 195 _ _ _ _ _)
  refine x_iload dL_isHistory_195 rfl (?_ : Ex _ _ 197 _ _ _ _ _)
  refine x_iload dL_isHistory_197 rfl (?_ : Ex _ _ 199 _ _ _ _ _)
  refine x_bipush dL_isHistory_199 kb_10 (by decide) (?_ : Ex _ _ 201 _ _ _ _ _)
  rcases ite_some h with ⟨b2, h⟩ | ⟨b2, h⟩
  · refine x_icmp_neN dL_isHistory_201 (by decide) (fun hh => hh b2) (?_ : Ex _ _ 204 _ _ _ _ _)
    refine x_iconst dL_isHistory_204 rfl (by decide) (?_ : Ex _ _ 205 _ _ _ _ _)
    refine x_goto (tgt := 209) dL_isHistory_205 rfl (?_ : Ex _ _ 209 _ _ _ _ _)
    refine Ex.wk (ls2 := [(21, l0), (0, l1), (0, l2), (0, l3), (0, l4), (0, l5), (0, l6), (0, (s1 + s0)), (3, 0), (0, l9), (0, l10), (0, l11), (0, l12), (0, l13)]) ⟨Or.inr rfl, Or.inr rfl, Or.inr rfl, Or.inr rfl, Or.inr rfl, Or.inr rfl, Or.inr rfl, Or.inr rfl, Or.inl rfl, Or.inr rfl, Or.inr rfl, Or.inr rfl, Or.inr rfl, Or.inr rfl, trivial⟩ ?_
    exact e_L_isHistory_209 d hk60 h
  · refine x_icmp_ne (tgt := 208) dL_isHistory_201 rfl b2 (?_ : Ex _ _ 208 _ _ _ _ _)
    refine x_iconst dL_isHistory_208 rfl (by decide) (?_ : Ex _ _ 209 _ _ _ _ _)
    refine Ex.wk (ls2 := [(21, l0), (0, l1), (0, l2), (0, l3), (0, l4), (0, l5), (0, l6), (0, (s1 + s0)), (3, 0), (0, l9), (0, l10), (0, l11), (0, l12), (0, l13)]) ⟨Or.inr rfl, Or.inr rfl, Or.inr rfl, Or.inr rfl, Or.inr rfl, Or.inr rfl, Or.inr rfl, Or.inr rfl, Or.inl rfl, Or.inr rfl, Or.inr rfl, Or.inr rfl, Or.inr rfl, Or.inr rfl, trivial⟩ ?_
    exact e_L_isHistory_209 d hk60 h
theorem e_L_isHistory_169 (d : Nat) {k60 : Int → Int → Int → Int → Int → Int → Int → Int → Int → Int → Int → Int → Mem → Option R2} (hk60 : ∀ {l0 l1 l2 l3 l4 l5 l6 l7 l8 l9 l10 l11 : Int} {m : Mem} {v : Int} {m' : Mem}, k60 l0 l1 l2 l3 l4 l5 l6 l7 l8 l9 l10 l11 m = some (v, m') → Ex (d + 5) fm_L_isHistory 60 [(21, l0), (0, l1), (0, l2), (0, l3), (0, l4), (0, l5), (0, l6), (0, l7), (0, l8), (0, l9), (0, l10), (0, l11), (3, 0), (3, 0)] [] m (.inl (0, v)) m') {l0 l1 l2 l3 l4 l6 l7 l8 l9 l10 l11 l12 l13 s0 : Int} {m : Mem} {v : Int} {m' : Mem} (h : L_isHistory_169 k60 l0 l1 l2 l3 l4 l6 l7 l8 l9 l10 l11 l12 l13 s0 m = some (v, m')) : Ex (d + 5) fm_L_isHistory 169 [(21, l0), (0, l1), (0, l2), (0, l3), (0, l4), (3, 0), (0, l6), (0, l7), (0, l8), (0, l9), (0, l10), (0, l11), (0, l12), (0, l13)] [(0, s0)] m (.inl (0, v)) m' := by
  unfold L_isHistory_169 at h
  refine x_istore (ls2 := [(21, l0), (0, l1), (0, l2), (0, l3), (0, l4), (0, s0), (0, l6), (0, l7), (0, l8), (0, l9), (0, l10), (0, l11), (0, l12), (0, l13)]) dL_isHistory_169 (Nat.le_of_ble_eq_true rfl) rfl (?_ : Ex _ _ 171 _ _ _ _ _)
  refine x_iload dL_isHistory_171 rfl (?_ : Ex _ _ 173 _ _ _ _ _)
  refine x_iload dL_isHistory_173 rfl (?_ : Ex _ _ 175 _ _ _ _ _)
  refine x_bipush dL_isHistory_175 kb_8 (by decide) (?_ : Ex _ _ 177 _ _ _ _ _)
  rcases ite_some h with ⟨b1, h⟩ | ⟨b1, h⟩
  · refine x_icmp_eq (tgt := 187) dL_isHistory_177 rfl b1 (?_ : Ex _ _ 187 _ _ _ _ _)
    refine x_iconst dL_isHistory_187 rfl (by decide) (?_ : Ex _ _ 188 _ _ _ _ _)
    refine x_goto (tgt := 192) dL_isHistory_188 rfl (?_ : Ex _ _ 192 _ _ _ _ _)
    refine Ex.wk (ls2 := [(21, l0), (0, l1), (0, l2), (0, l3), (0, l4), (0, s0), (0, l6), (3, 0), (0, l8), (0, l9), (0, l10), (0, l11), (0, l12), (0, l13)]) ⟨Or.inr rfl, Or.inr rfl, Or.inr rfl, Or.inr rfl, Or.inr rfl, Or.inr rfl, Or.inr rfl, Or.inl rfl, Or.inr rfl, Or.inr rfl, Or.inr rfl, Or.inr rfl, Or.inr rfl, Or.inr rfl, trivial⟩ ?_
    exact e_L_isHistory_192 d hk60 h
  · refine x_icmp_eqN dL_isHistory_177 (by decide) b1 (?_ : Ex _ _ 180 _ _ _ _ _)
    refine x_iload dL_isHistory_180 rfl (?_ : Ex _ _ 182 _ _ _ _ _)
    refine x_bipush dL_isHistory_182 kb_15 (by decide) (?_ : Ex _ _ 184 _ _ _ _ _)
    rcases ite_some h with ⟨b2, h⟩ | ⟨b2, h⟩
    · refine x_icmp_neN dL_isHistory_184 (by decide) (fun hh => hh b2) (?_ : Ex _ _ 187 _ _ _ _ _)
      refine x_iconst dL_isHistory_187 rfl (by decide) (?_ : Ex _ _ 188 _ _ _ _ _)
      refine x_goto (tgt := 192) dL_isHistory_188 rfl (?_ : Ex _ _ 192 _ _ _ _ _)
      refine Ex.wk (ls2 := [(21, l0), (0, l1), (0, l2), (0, l3), (0, l4), (0, s0), (0, l6), (3, 0), (0, l8), (0, l9), (0, l10), (0, l11), (0, l12), (0, l13)]) ⟨Or.inr rfl, Or.inr rfl, Or.inr rfl, Or.inr rfl, Or.inr rfl, Or.inr rfl, Or.inr rfl, Or.inl rfl, Or.inr rfl, Or.inr rfl, Or.inr rfl, Or.inr rfl, Or.inr rfl, Or.inr rfl, trivial⟩ ?_
      exact e_L_isHistory_192 d hk60 h
    · refine x_icmp_ne (tgt := 191) dL_isHistory_184 rfl b2 (?_ : Ex _ _ 191 _ _ _ _ _)
      refine x_iconst dL_isHistory_191 rfl (by decide) (?_ : Ex _ _ 192 _ _ _ _ _)
      refine Ex.wk (ls2 := [(21, l0), (0, l1), (0, l2), (0, l3), (0, l4), (0, s0), (0, l6), (3, 0), (0, l8), (0, l9), (0, l10), (0, l11), (0, l12), (0, l13)]) ⟨Or.inr rfl, Or.inr rfl, Or.inr rfl, Or.inr rfl, Or.inr rfl, Or.inr rfl, Or.inr rfl, Or.inl rfl, Or.inr rfl, Or.inr rfl, Or.inr rfl, Or.inr rfl, Or.inr rfl, Or.inr rfl, trivial⟩ ?_
      exact e_L_isHistory_192 d hk60 h
theorem e_L_isHistory_143 (d : Nat) {k60 : Int → Int → Int → Int → Int → Int → Int → Int → Int → Int → Int → Int → Mem → Option R2} (hk60 : ∀ {l0 l1 l2 l3 l4 l5 l6 l7 l8 l9 l10 l11 : Int} {m : Mem} {v : Int} {m' : Mem}, k60 l0 l1 l2 l3 l4 l5 l6 l7 l8 l9 l10 l11 m = some (v, m') → Ex (d + 5) fm_L_isHistory 60 [(21, l0), (0, l1), (0, l2), (0, l3), (0, l4), (0, l5), (0, l6), (0, l7), (0, l8), (0, l9), (0, l10), (0, l11), (3, 0), (3, 0)] [] m (.inl (0, v)) m') {l0 l1 l2 l3 l4 l5 l7 l8 l9 l10 l11 l12 l13 s0 : Int} {m : Mem} {v : Int} {m' : Mem} (h : L_isHistory_143 k60 l0 l1 l2 l3 l4 l5 l7 l8 l9 l10 l11 l12 l13 s0 m = some (v, m')) : Ex (d + 5) fm_L_isHistory 143 [(21, l0), (0, l1), (0, l2), (0, l3), (0, l4), (0, l5), (3, 0), (0, l7), (0, l8), (0, l9), (0, l10), (0, l11), (0, l12), (0, l13)] [(0, s0)] m (.inl (0, v)) m' := by
  unfold L_isHistory_143 at h
  refine x_istore (ls2 := [(21, l0), (0, l1), (0, l2), (0, l3), (0, l4), (0, l5), (0, s0), (0, l7), (0, l8), (0, l9), (0, l10), (0, l11), (0, l12), (0, l13)]) dL_isHistory_143 (Nat.le_of_ble_eq_true rfl) rfl (?_ : Ex _ _ 145 _ _ _ _ _)
  refine x_iload dL_isHistory_145 rfl (?_ : Ex _ _ 147 _ _ _ _ _)
  refine x_bipush dL_isHistory_147 kb_7 (by decide) (?_ : Ex _ _ 149 _ _ _ _ _)
  rcases ite_some h with ⟨b1, h⟩ | ⟨b1, h⟩
  · refine x_icmp_eq (tgt := 164) dL_isHistory_149 rfl b1 (?_ : Ex _ _ 164 _ _ _ _ _)
    refine x_iconst dL_isHistory_164 rfl (by decide) (?_ : Ex _ _ 165 _ _ _ _ _)
    refine x_goto (tgt := 169) dL_isHistory_165 rfl (?_ : Ex _ _ 169 _ _ _ _ _)
    refine Ex.wk (ls2 := [(21, l0), (0, l1), (0, l2), (0, l3), (0, l4), (3, 0), (0, s0), (0, l7), (0, l8), (0, l9), (0, l10), (0, l11), (0, l12), (0, l13)]) ⟨Or.inr rfl, Or.inr rfl, Or.inr rfl, Or.inr rfl, Or.inr rfl, Or.inl rfl, Or.inr rfl, Or.inr rfl, Or.inr rfl, Or.inr rfl, Or.inr rfl, Or.inr rfl, Or.inr rfl, Or.inr rfl, trivial⟩ ?_
    exact e_L_isHistory_169 d hk60 h
  · refine x_icmp_eqN dL_isHistory_149 (by decide) b1 (?_ : Ex _ _ 152 _ _ _ _ _)
    refine x_iload dL_isHistory_152 rfl (?_ : Ex _ _ 154 _ _ _ _ _)
    rcases ite_some h with ⟨b2, h⟩ | ⟨b2, h⟩
    · refine x_if_eq (tgt := 168) dL_isHistory_154 rfl b2 (?_ : Ex _ _ 168 _ _ _ _ _)
      refine x_iconst dL_isHistory_168 rfl (by decide) (?_ : Ex _ _ 169 _ _ _ _ _)
      refine Ex.wk (ls2 := [(21, l0), (0, l1), (0, l2), (0, l3), (0, l4), (3, 0), (0, s0), (0, l7), (0, l8), (0, l9), (0, l10), (0, l11), (0, l12), (0, l13)]) ⟨Or.inr rfl, Or.inr rfl, Or.inr rfl, Or.inr rfl, Or.inr rfl, Or.inl rfl, Or.inr rfl, Or.inr rfl, Or.inr rfl, Or.inr rfl, Or.inr rfl, Or.inr rfl, Or.inr rfl, Or.inr rfl, trivial⟩ ?_
      exact e_L_isHistory_169 d hk60 h
    · refine x_if_eqN dL_isHistory_154 (by decide) b2 (?_ : Ex _ _ 157 _ _ _ _ _)
      refine x_iload dL_isHistory_157 rfl (?_ : Ex _ _ 159 _ _ _ _ _)
      refine x_bipush dL_isHistory_159 kb_7 (by decide) (?_ : Ex _ _ 161 _ _ _ _ _)
      rcases ite_some h with ⟨b3, h⟩ | ⟨b3, h⟩
      · refine x_icmp_le (tgt := 168) dL_isHistory_161 rfl b3 (?_ : Ex _ _ 168 _ _ _ _ _)
        refine x_iconst dL_isHistory_168 rfl (by decide) (?_ : Ex _ _ 169 _ _ _ _ _)
        refine Ex.wk (ls2 := [(21, l0), (0, l1), (0, l2), (0, l3), (0, l4), (3, 0), (0, s0), (0, l7), (0, l8), (0, l9), (0, l10), (0, l11), (0, l12), (0, l13)]) ⟨Or.inr rfl, Or.inr rfl, Or.inr rfl, Or.inr rfl, Or.inr rfl, Or.inl rfl, Or.inr rfl, Or.inr rfl, Or.inr rfl, Or.inr rfl, Or.inr rfl, Or.inr rfl, Or.inr rfl, Or.inr rfl, trivial⟩ ?_
        exact e_L_isHistory_169 d hk60 h
      · refine x_icmp_leN dL_isHistory_161 (by decide) b3 (?_ : Ex _ _ 164 _ _ _ _ _)
        refine x_iconst dL_isHistory_164 rfl (by decide) (?_ : Ex _ _ 165 _ _ _ _ _)
        refine x_goto (tgt := 169) dL_isHistory_165 rfl (?_ : Ex _ _ 169 _ _ _ _ _)
        refine Ex.wk (ls2 := [(21, l0), (0, l1), (0, l2), (0, l3), (0, l4), (3, 0), (0, s0), (0, l7), (0, l8), (0, l9), (0, l10), (0, l11), (0, l12), (0, l13)]) ⟨Or.inr rfl, Or.inr rfl, Or.inr rfl, Or.inr rfl, Or.inr rfl, Or.inl rfl, Or.inr rfl, Or.inr rfl, Or.inr rfl, Or.inr rfl, Or.inr rfl, Or.inr rfl, Or.inr rfl, Or.inr rfl, trivial⟩ ?_
        exact e_L_isHistory_169 d hk60 h
theorem e_L_isHistory_116 (d : Nat) {k60 : Int → Int → Int → Int → Int → Int → Int → Int → Int → Int → Int → Int → Mem → Option R2} (hk60 : ∀ {l0 l1 l2 l3 l4 l5 l6 l7 l8 l9 l10 l11 : Int} {m : Mem} {v : Int} {m' : Mem}, k60 l0 l1 l2 l3 l4 l5 l6 l7 l8 l9 l10 l11 m = some (v, m') → Ex (d + 5) fm_L_isHistory 60 [(21, l0), (0, l1), (0, l2), (0, l3), (0, l4), (0, l5), (0, l6), (0, l7), (0, l8), (0, l9), (0, l10), (0, l11), (3, 0), (3, 0)] [] m (.inl (0, v)) m') {l0 l1 l2 l3 l4 l5 l7 l8 l9 l10 l11 l12 l13 : Int} {m : Mem} {v : Int} {m' : Mem} (h : L_isHistory_116 k60 l0 l1 l2 l3 l4 l5 l7 l8 l9 l10 l11 l12 l13 m = some (v, m')) : Ex (d + 5) fm_L_isHistory 116 [(21, l0), (0, l1), (0, l2), (0, l3), (0, l4), (0, l5), (3, 0), (0, l7), (0, l8), (0, l9), (0, l10), (0, l11), (0, l12), (0, l13)] [] m (.inl (0, v)) m' := by
  unfold L_isHistory_116 at h
  refine x_iload dL_isHistory_116 rfl (?_ : Ex _ _ 118 _ _ _ _ _)
  refine x_bipush dL_isHistory_118 kb_16 (by decide) (?_ : Ex _ _ 120 _ _ _ _ _)
  rcases ite_some h with ⟨b1, h⟩ | ⟨b1, h⟩
  · refine x_icmp_neN dL_isHistory_120 (by decide) (fun hh => hh b1) (?_ : Ex _ _ 123 _ _ _ _ _)
    refine x_iload dL_isHistory_123 rfl (?_ : Ex _ _ 125 _ _ _ _ _)
    refine x_iload_n dL_isHistory_125 rfl rfl (?_ : Ex _ _ 126 _ _ _ _ _)
    refine x_iconst dL_isHistory_126 rfl (by decide) (?_ : Ex _ _ 127 _ _ _ _ _)
    obtain ⟨c2, h⟩ := chk_some h
    refine x_isub dL_isHistory_127 c2 (?_ : Ex _ _ 128 _ _ _ _ _)
    rcases ite_some h with ⟨b3, h⟩ | ⟨b3, h⟩
    · refine x_icmp_neN dL_isHistory_128 (by decide) (fun hh => hh b3) (?_ : Ex _ _ 131 _ _ _ _ _)
      refine x_iload dL_isHistory_131 rfl (?_ : Ex _ _ 133 _ _ _ _ _)
      refine x_iload dL_isHistory_133 rfl (?_ : Ex _ _ 135 _ _ _ _ _)
      rcases ite_some h with ⟨b4, h⟩ | ⟨b4, h⟩
      · refine x_icmp_neN dL_isHistory_135 (by decide) (fun hh => hh b4) (?_ : Ex _ _ 138 _ _ _ _ _)
        refine x_iconst dL_isHistory_138 rfl (by decide) (?_ : Ex _ _ 139 _ _ _ _ _)
        refine x_goto (tgt := 143) dL_isHistory_139 rfl (?_ : Ex _ _ 143 _ _ _ _ _)
        exact e_L_isHistory_143 d hk60 h
      · refine x_icmp_ne (tgt := 142) dL_isHistory_135 rfl b4 (?_ : Ex _ _ 142 _ _ _ _ _)
        refine x_iconst dL_isHistory_142 rfl (by decide) (?_ : Ex _ _ 143 _ _ _ _ _)
        exact e_L_isHistory_143 d hk60 h
    · refine x_icmp_ne (tgt := 142) dL_isHistory_128 rfl b3 (?_ : Ex _ _ 142 _ _ _ _ _)
      refine x_iconst dL_isHistory_142 rfl (by decide) (?_ : Ex _ _ 143 _ _ _ _ _)
      exact e_L_isHistory_143 d hk60 h
  · refine x_icmp_ne (tgt := 138) dL_isHistory_120 rfl b1 (?_ : Ex _ _ 138 _ _ _ _ _)
    refine x_iconst dL_isHistory_138 rfl (by decide) (?_ : Ex _ _ 139 _ _ _ _ _)
    refine x_goto (tgt := 143) dL_isHistory_139 rfl (?_ : Ex _ _ 143 _ _ _ _ _)
    exact e_L_isHistory_143 d hk60 h
theorem e_L_isHistory_60 (d : Nat) {k329 : Int → Int → Int → Int → Int → Int → Mem → Option R2} (hk329 : ∀ {l0 l1 l2 l3 l4 l6 : Int} {m : Mem} {v : Int} {m' : Mem}, k329 l0 l1 l2 l3 l4 l6 m = some (v, m') → Ex (d + 5) fm_L_isHistory 329 [(21, l0), (0, l1), (0, l2), (0, l3), (0, l4), (3, 0), (0, l6), (3, 0), (3, 0), (3, 0), (3, 0), (3, 0), (3, 0), (3, 0)] [] m (.inl (0, v)) m') : ∀ (n : Nat) {l0 l1 l2 l3 l4 l5 l6 l7 l8 l9 l10 l11 : Int} {m : Mem} {v : Int} {m' : Mem}, L_isHistory_60 k329 n l0 l1 l2 l3 l4 l5 l6 l7 l8 l9 l10 l11 m = some (v, m') → Ex (d + 5) fm_L_isHistory 60 [(21, l0), (0, l1), (0, l2), (0, l3), (0, l4), (0, l5), (0, l6), (0, l7), (0, l8), (0, l9), (0, l10), (0, l11), (3, 0), (3, 0)] [] m (.inl (0, v)) m' := by
  intro n
  induction n with
  | zero =>
    intro l0 l1 l2 l3 l4 l5 l6 l7 l8 l9 l10 l11 m v m' h
    have h : (none : Option R2) = some _ := h
    cases h
  | succ n ih =>
    intro l0 l1 l2 l3 l4 l5 l6 l7 l8 l9 l10 l11 m v m' h
    rw [L_isHistory_60] at h
    refine x_iload dL_isHistory_60 rfl (?_ : Ex _ _ 62 _ _ _ _ _)
    refine x_iload_n dL_isHistory_62 rfl rfl (?_ : Ex _ _ 63 _ _ _ _ _)
    rcases ite_some h with ⟨b1, h⟩ | ⟨b1, h⟩
    · refine x_icmp_ge (tgt := 329) dL_isHistory_63 rfl b1 (?_ : Ex _ _ 329 _ _ _ _ _)
      refine Ex.wk (ls2 := [(21, l0), (0, l1), (0, l2), (0, l3), (0, l4), (3, 0), (0, l6), (3, 0), (3, 0), (3, 0), (3, 0), (3, 0), (3, 0), (3, 0)]) ⟨Or.inr rfl, Or.inr rfl, Or.inr rfl, Or.inr rfl, Or.inr rfl, Or.inl rfl, Or.inr rfl, Or.inl rfl, Or.inl rfl, Or.inl rfl, Or.inl rfl, Or.inl rfl, Or.inl rfl, Or.inl rfl, trivial⟩ ?_
      exact hk329 h
    · refine x_icmp_geN dL_isHistory_63 (by decide) b1 (?_ : Ex _ _ 66 _ _ _ _ _)
      refine x_iload dL_isHistory_66 rfl (?_ : Ex _ _ 68 _ _ _ _ _)
      rcases ite_some h with ⟨b2, h⟩ | ⟨b2, h⟩
      · refine x_if_eq (tgt := 329) dL_isHistory_68 rfl b2 (?_ : Ex _ _ 329 _ _ _ _ _)
        refine Ex.wk (ls2 := [(21, l0), (0, l1), (0, l2), (0, l3), (0, l4), (3, 0), (0, l6), (3, 0), (3, 0), (3, 0), (3, 0), (3, 0), (3, 0), (3, 0)]) ⟨Or.inr rfl, Or.inr rfl, Or.inr rfl, Or.inr rfl, Or.inr rfl, Or.inl rfl, Or.inr rfl, Or.inl rfl, Or.inl rfl, Or.inl rfl, Or.inl rfl, Or.inl rfl, Or.inl rfl, Or.inl rfl, trivial⟩ ?_
        exact hk329 h
      · refine x_if_eqN dL_isHistory_68 (by decide) b2 (?_ : Ex _ _ 71 _ _ _ _ _)
        refine x_aload_n dL_isHistory_71 rfl rfl (Or.inr (by decide)) (?_ : Ex _ _ 72 _ _ _ _ _)
        refine x_iload_n dL_isHistory_72 rfl rfl (?_ : Ex _ _ 73 _ _ _ _ _)
        refine x_iload_n dL_isHistory_73 rfl rfl (?_ : Ex _ _ 74 _ _ _ _ _)
        refine x_iload dL_isHistory_74 rfl (?_ : Ex _ _ 76 _ _ _ _ _)
        obtain ⟨c3, h⟩ := chk_some h
        obtain ⟨v4, m5, g6, h⟩ := cal0_some h
        refine cV3 (e_X11_eventKind d g6) (cont0 (by decide) (?_ : Ex _ _ 79 _ _ _ _ _)) og_X11_eventKind rfl ml_RL_62 11 rfl rfl c3 im_X11_eventKind se_X11_eventKind (Nat.le_of_ble_eq_true rfl) dL_isHistory_76
        refine x_istore (ls2 := [(21, l0), (0, l1), (0, l2), (0, l3), (0, l4), (0, l5), (0, l6), (0, l7), (0, l8), (0, l9), (0, l10), (0, l11), (0, v4), (3, 0)]) dL_isHistory_79 (Nat.le_of_ble_eq_true rfl) rfl (?_ : Ex _ _ 81 _ _ _ _ _)
        refine x_aload_n dL_isHistory_81 rfl rfl (Or.inr (by decide)) (?_ : Ex _ _ 82 _ _ _ _ _)
        refine x_iload_n dL_isHistory_82 rfl rfl (?_ : Ex _ _ 83 _ _ _ _ _)
        refine x_iload_n dL_isHistory_83 rfl rfl (?_ : Ex _ _ 84 _ _ _ _ _)
        refine x_iload dL_isHistory_84 rfl (?_ : Ex _ _ 86 _ _ _ _ _)
        refine x_iconst dL_isHistory_86 rfl (by decide) (?_ : Ex _ _ 87 _ _ _ _ _)
        obtain ⟨v7, m8, g9, h⟩ := cal0_some h
        refine cV4 (e_X11_eventNumber d g9) (cont0 (by decide) (?_ : Ex _ _ 90 _ _ _ _ _)) og_X11_eventNumber rfl ml_RL_65 11 rfl rfl c3 im_X11_eventNumber se_X11_eventNumber (Nat.le_of_ble_eq_true rfl) dL_isHistory_87
        refine x_istore (ls2 := [(21, l0), (0, l1), (0, l2), (0, l3), (0, l4), (0, l5), (0, l6), (0, l7), (0, l8), (0, l9), (0, l10), (0, l11), (0, v4), (0, v7)]) dL_isHistory_90 (Nat.le_of_ble_eq_true rfl) rfl (?_ : Ex _ _ 92 _ _ _ _ _)
        refine x_iload dL_isHistory_92 rfl (?_ : Ex _ _ 94 _ _ _ _ _)
        rcases ite_some h with ⟨b10, h⟩ | ⟨b10, h⟩
        · refine x_if_le (tgt := 142) dL_isHistory_94 rfl b10 (?_ : Ex _ _ 142 _ _ _ _ _)
          refine x_iconst dL_isHistory_142 rfl (by decide) (?_ : Ex _ _ 143 _ _ _ _ _)
          refine Ex.wk (ls2 := [(21, l0), (0, l1), (0, l2), (0, l3), (0, l4), (0, l5), (3, 0), (0, l7), (0, l8), (0, l9), (0, l10), (0, l11), (0, v4), (0, v7)]) ⟨Or.inr rfl, Or.inr rfl, Or.inr rfl, Or.inr rfl, Or.inr rfl, Or.inr rfl, Or.inl rfl, Or.inr rfl, Or.inr rfl, Or.inr rfl, Or.inr rfl, Or.inr rfl, Or.inr rfl, Or.inr rfl, trivial⟩ ?_
          exact e_L_isHistory_143 d ih h
        · refine x_if_leN dL_isHistory_94 (by decide) b10 (?_ : Ex _ _ 97 _ _ _ _ _)
          refine x_iload dL_isHistory_97 rfl (?_ : Ex _ _ 99 _ _ _ _ _)
          refine x_bipush dL_isHistory_99 kb_17 (by decide) (?_ : Ex _ _ 101 _ _ _ _ _)
          rcases ite_some h with ⟨b11, h⟩ | ⟨b11, h⟩
          · refine x_icmp_ge (tgt := 142) dL_isHistory_101 rfl b11 (?_ : Ex _ _ 142 _ _ _ _ _)
            refine x_iconst dL_isHistory_142 rfl (by decide) (?_ : Ex _ _ 143 _ _ _ _ _)
            refine Ex.wk (ls2 := [(21, l0), (0, l1), (0, l2), (0, l3), (0, l4), (0, l5), (3, 0), (0, l7), (0, l8), (0, l9), (0, l10), (0, l11), (0, v4), (0, v7)]) ⟨Or.inr rfl, Or.inr rfl, Or.inr rfl, Or.inr rfl, Or.inr rfl, Or.inr rfl, Or.inl rfl, Or.inr rfl, Or.inr rfl, Or.inr rfl, Or.inr rfl, Or.inr rfl, Or.inr rfl, Or.inr rfl, trivial⟩ ?_
            exact e_L_isHistory_143 d ih h
          · refine x_icmp_geN dL_isHistory_101 (by decide) b11 (?_ : Ex _ _ 104 _ _ _ _ _)
            refine x_iload dL_isHistory_104 rfl (?_ : Ex _ _ 106 _ _ _ _ _)
            refine x_bipush dL_isHistory_106 kb_8 (by decide) (?_ : Ex _ _ 108 _ _ _ _ _)
            rcases ite_some h with ⟨b12, h⟩ | ⟨b12, h⟩
            · refine x_icmp_lt (tgt := 116) dL_isHistory_108 rfl b12 (?_ : Ex _ _ 116 _ _ _ _ _)
              refine Ex.wk (ls2 := [(21, l0), (0, l1), (0, l2), (0, l3), (0, l4), (0, l5), (3, 0), (0, l7), (0, l8), (0, l9), (0, l10), (0, l11), (0, v4), (0, v7)]) ⟨Or.inr rfl, Or.inr rfl, Or.inr rfl, Or.inr rfl, Or.inr rfl, Or.inr rfl, Or.inl rfl, Or.inr rfl, Or.inr rfl, Or.inr rfl, Or.inr rfl, Or.inr rfl, Or.inr rfl, Or.inr rfl, trivial⟩ ?_
              exact e_L_isHistory_116 d ih h
            · refine x_icmp_ltN dL_isHistory_108 (by decide) b12 (?_ : Ex _ _ 111 _ _ _ _ _)
              refine x_iload dL_isHistory_111 rfl (?_ : Ex _ _ 113 _ _ _ _ _)
              rcases ite_some h with ⟨b13, h⟩ | ⟨b13, h⟩
              · refine x_if_eq (tgt := 142) dL_isHistory_113 rfl b13 (?_ : Ex _ _ 142 _ _ _ _ _)
                refine x_iconst dL_isHistory_142 rfl (by decide) (?_ : Ex _ _ 143 _ _ _ _ _)
                refine Ex.wk (ls2 := [(21, l0), (0, l1), (0, l2), (0, l3), (0, l4), (0, l5), (3, 0), (0, l7), (0, l8), (0, l9), (0, l10), (0, l11), (0, v4), (0, v7)]) ⟨Or.inr rfl, Or.inr rfl, Or.inr rfl, Or.inr rfl, Or.inr rfl, Or.inr rfl, Or.inl rfl, Or.inr rfl, Or.inr rfl, Or.inr rfl, Or.inr rfl, Or.inr rfl, Or.inr rfl, Or.inr rfl, trivial⟩ ?_
                exact e_L_isHistory_143 d ih h
              · refine x_if_eqN dL_isHistory_113 (by decide) b13 (?_ : Ex _ _ 116 _ _ _ _ _)
                refine Ex.wk (ls2 := [(21, l0), (0, l1), (0, l2), (0, l3), (0, l4), (0, l5), (3, 0), (0, l7), (0, l8), (0, l9), (0, l10), (0, l11), (0, v4), (0, v7)]) ⟨Or.inr rfl, Or.inr rfl, Or.inr rfl, Or.inr rfl, Or.inr rfl, Or.inr rfl, Or.inl rfl, Or.inr rfl, Or.inr rfl, Or.inr rfl, Or.inr rfl, Or.inr rfl, Or.inr rfl, Or.inr rfl, trivial⟩ ?_
                exact e_L_isHistory_116 d ih h
theorem e_L_isHistory_43 (d : Nat) {l0 l1 l2 l3 l4 l5 s0 : Int} {m : Mem} {v : Int} {m' : Mem} (h : L_isHistory_43 l0 l1 l2 l3 l4 l5 s0 m = some (v, m')) : Ex (d + 5) fm_L_isHistory 43 [(21, l0), (0, l1), (0, l2), (0, l3), (0, l4), (0, l5), (3, 0), (3, 0), (3, 0), (3, 0), (3, 0), (3, 0), (3, 0), (3, 0)] [(0, s0)] m (.inl (0, v)) m' := by
  unfold L_isHistory_43 at h
  refine x_istore (ls2 := [(21, l0), (0, l1), (0, l2), (0, l3), (0, l4), (0, l5), (0, s0), (3, 0), (3, 0), (3, 0), (3, 0), (3, 0), (3, 0), (3, 0)]) dL_isHistory_43 (Nat.le_of_ble_eq_true rfl) rfl (?_ : Ex _ _ 45 _ _ _ _ _)
  refine x_iconst dL_isHistory_45 rfl (by decide) (?_ : Ex _ _ 46 _ _ _ _ _)
  refine x_istore (ls2 := [(21, l0), (0, l1), (0, l2), (0, l3), (0, l4), (0, l5), (0, s0), (0, 0), (3, 0), (3, 0), (3, 0), (3, 0), (3, 0), (3, 0)]) dL_isHistory_46 (Nat.le_of_ble_eq_true rfl) rfl (?_ : Ex _ _ 48 _ _ _ _ _)
  refine x_iconst dL_isHistory_48 rfl (by decide) (?_ : Ex _ _ 49 _ _ _ _ _)
  refine x_istore (ls2 := [(21, l0), (0, l1), (0, l2), (0, l3), (0, l4), (0, l5), (0, s0), (0, 0), (0, 0), (3, 0), (3, 0), (3, 0), (3, 0), (3, 0)]) dL_isHistory_49 (Nat.le_of_ble_eq_true rfl) rfl (?_ : Ex _ _ 51 _ _ _ _ _)
  refine x_iconst dL_isHistory_51 rfl (by decide) (?_ : Ex _ _ 52 _ _ _ _ _)
  refine x_istore (ls2 := [(21, l0), (0, l1), (0, l2), (0, l3), (0, l4), (0, l5), (0, s0), (0, 0), (0, 0), (0, 0), (3, 0), (3, 0), (3, 0), (3, 0)]) dL_isHistory_52 (Nat.le_of_ble_eq_true rfl) rfl (?_ : Ex _ _ 54 _ _ _ _ _)
  refine x_iconst dL_isHistory_54 rfl (by decide) (?_ : Ex _ _ 55 _ _ _ _ _)
  refine x_istore (ls2 := [(21, l0), (0, l1), (0, l2), (0, l3), (0, l4), (0, l5), (0, s0), (0, 0), (0, 0), (0, 0), (0, 0), (3, 0), (3, 0), (3, 0)]) dL_isHistory_55 (Nat.le_of_ble_eq_true rfl) rfl (?_ : Ex _ _ 57 _ _ _ _ _)
  refine x_iconst dL_isHistory_57 rfl (by decide) (?_ : Ex _ _ 58 _ _ _ _ _)
  refine x_istore (ls2 := [(21, l0), (0, l1), (0, l2), (0, l3), (0, l4), (0, l5), (0, s0), (0, 0), (0, 0), (0, 0), (0, 0), (0, 1), (3, 0), (3, 0)]) dL_isHistory_58 (Nat.le_of_ble_eq_true rfl) rfl (?_ : Ex _ _ 60 _ _ _ _ _)
  exact e_L_isHistory_60 d (fun h => e_L_isHistory_329 d h) fuel9 h
theorem e_L_isHistory_0 (d : Nat) {l0 l1 l2 : Int} {m : Mem} {v : Int} {m' : Mem} (h : L_isHistory_0 l0 l1 l2 m = some (v, m')) : Ex (d + 5) fm_L_isHistory 0 [(21, l0), (0, l1), (0, l2), (3, 0), (3, 0), (3, 0), (3, 0), (3, 0), (3, 0), (3, 0), (3, 0), (3, 0), (3, 0), (3, 0)] [] m (.inl (0, v)) m' := by
  unfold L_isHistory_0 at h
  refine x_aload_n dL_isHistory_0 rfl rfl (Or.inr (by decide)) (?_ : Ex _ _ 1 _ _ _ _ _)
  refine x_iload_n dL_isHistory_1 rfl rfl (?_ : Ex _ _ 2 _ _ _ _ _)
  refine x_iload_n dL_isHistory_2 rfl rfl (?_ : Ex _ _ 3 _ _ _ _ _)
  obtain ⟨c1, h⟩ := chk_some h
  obtain ⟨v2, m3, g4, h⟩ := cal0_some h
  refine cV2 (e_X11_events (d + 1) g4) (cont0 (by decide) (?_ : Ex _ _ 6 _ _ _ _ _)) og_X11_events rfl ml_RL_56 11 rfl rfl c1 im_X11_events se_X11_events (Nat.le_of_ble_eq_true rfl) dL_isHistory_3
  refine x_istore_n (ls2 := [(21, l0), (0, l1), (0, l2), (0, v2), (3, 0), (3, 0), (3, 0), (3, 0), (3, 0), (3, 0), (3, 0), (3, 0), (3, 0), (3, 0)]) dL_isHistory_6 rfl (Nat.le_of_ble_eq_true rfl) rfl (?_ : Ex _ _ 7 _ _ _ _ _)
  refine x_aload_n dL_isHistory_7 rfl rfl (Or.inr (by decide)) (?_ : Ex _ _ 8 _ _ _ _ _)
  refine x_iload_n dL_isHistory_8 rfl rfl (?_ : Ex _ _ 9 _ _ _ _ _)
  refine x_iload_n dL_isHistory_9 rfl rfl (?_ : Ex _ _ 10 _ _ _ _ _)
  obtain ⟨v5, m6, g7, h⟩ := cal0_some h
  refine cV2 (e_X11_state (d + 1) g7) (cont0 (by decide) (?_ : Ex _ _ 13 _ _ _ _ _)) og_X11_state rfl ml_RL_59 11 rfl rfl c1 im_X11_state se_X11_state (Nat.le_of_ble_eq_true rfl) dL_isHistory_10
  refine x_istore (ls2 := [(21, l0), (0, l1), (0, l2), (0, v2), (0, v5), (3, 0), (3, 0), (3, 0), (3, 0), (3, 0), (3, 0), (3, 0), (3, 0), (3, 0)]) dL_isHistory_13 (Nat.le_of_ble_eq_true rfl) rfl (?_ : Ex _ _ 15 _ _ _ _ _)
  refine x_iconst dL_isHistory_15 rfl (by decide) (?_ : Ex _ _ 16 _ _ _ _ _)
  refine x_istore (ls2 := [(21, l0), (0, l1), (0, l2), (0, v2), (0, v5), (0, 0), (3, 0), (3, 0), (3, 0), (3, 0), (3, 0), (3, 0), (3, 0), (3, 0)]) dL_isHistory_16 (Nat.le_of_ble_eq_true rfl) rfl (?_ : Ex _ _ 18 _ _ _ _ _)
  refine x_iload_n dL_isHistory_18 rfl rfl (?_ : Ex _ _ 19 _ _ _ _ _)
  rcases ite_some h with ⟨b8, h⟩ | ⟨b8, h⟩
  · refine x_if_le (tgt := 42) dL_isHistory_19 rfl b8 (?_ : Ex _ _ 42 _ _ _ _ _)
    refine x_iconst dL_isHistory_42 rfl (by decide) (?_ : Ex _ _ 43 _ _ _ _ _)
    exact e_L_isHistory_43 d h
  · refine x_if_leN dL_isHistory_19 (by decide) b8 (?_ : Ex _ _ 22 _ _ _ _ _)
    refine x_iload_n dL_isHistory_22 rfl rfl (?_ : Ex _ _ 23 _ _ _ _ _)
    refine x_bipush dL_isHistory_23 kb_80 (by decide) (?_ : Ex _ _ 25 _ _ _ _ _)
    rcases ite_some h with ⟨b9, h⟩ | ⟨b9, h⟩
    · refine x_icmp_gt (tgt := 42) dL_isHistory_25 rfl b9 (?_ : Ex _ _ 42 _ _ _ _ _)
      refine x_iconst dL_isHistory_42 rfl (by decide) (?_ : Ex _ _ 43 _ _ _ _ _)
      exact e_L_isHistory_43 d h
    · refine x_icmp_gtN dL_isHistory_25 (by decide) b9 (?_ : Ex _ _ 28 _ _ _ _ _)
      refine x_aload_n dL_isHistory_28 rfl rfl (Or.inr (by decide)) (?_ : Ex _ _ 29 _ _ _ _ _)
      refine x_iload_n dL_isHistory_29 rfl rfl (?_ : Ex _ _ 30 _ _ _ _ _)
      refine x_iload_n dL_isHistory_30 rfl rfl (?_ : Ex _ _ 31 _ _ _ _ _)
      refine x_iconst dL_isHistory_31 rfl (by decide) (?_ : Ex _ _ 32 _ _ _ _ _)
      obtain ⟨v10, m11, g12, h⟩ := cal0_some h
      refine cV3 (e_X11_eventKind d g12) (cont0 (by decide) (?_ : Ex _ _ 35 _ _ _ _ _)) og_X11_eventKind rfl ml_RL_62 11 rfl rfl c1 im_X11_eventKind se_X11_eventKind (Nat.le_of_ble_eq_true rfl) dL_isHistory_32
      rcases ite_some h with ⟨b13, h⟩ | ⟨b13, h⟩
      · refine x_if_neN dL_isHistory_35 (by decide) (fun hh => hh b13) (?_ : Ex _ _ 38 _ _ _ _ _)
        refine x_iconst dL_isHistory_38 rfl (by decide) (?_ : Ex _ _ 39 _ _ _ _ _)
        refine x_goto (tgt := 43) dL_isHistory_39 rfl (?_ : Ex _ _ 43 _ _ _ _ _)
        exact e_L_isHistory_43 d h
      · refine x_if_ne (tgt := 42) dL_isHistory_35 rfl b13 (?_ : Ex _ _ 42 _ _ _ _ _)
        refine x_iconst dL_isHistory_42 rfl (by decide) (?_ : Ex _ _ 43 _ _ _ _ _)
        exact e_L_isHistory_43 d h
theorem e_L_isHistory (d : Nat) {a0 a1 a2 : Int} {m : Mem} {v : Int} {m' : Mem} (h : L_isHistory a0 a1 a2 m = some (v, m')) : ExM (d + 5) fm_L_isHistory [(21, a0), (0, a1), (0, a2)] m (.inl (0, v)) m' := by
  obtain ⟨hb, h⟩ := boolR_some h
  exact ExM.of (by decide +kernel) (Nat.le_of_ble_eq_true rfl) (cat9 rfl) (retZ hb) (e_L_isHistory_0 d h)
theorem dL_isFlow_0 : decode cL_isFlow 0 = .ok (.aload_n 0, 1) := by decide +kernel
theorem dL_isFlow_1 : decode cL_isFlow 1 = .ok (.iload_n 1, 1) := by decide +kernel
theorem dL_isFlow_2 : decode cL_isFlow 2 = .ok (.invokevirtual 69, 3) := by decide +kernel
theorem dL_isFlow_5 : decode cL_isFlow 5 = .ok (.istore_n 2, 1) := by decide +kernel
theorem dL_isFlow_6 : decode cL_isFlow 6 = .ok (.aload_n 0, 1) := by decide +kernel
theorem dL_isFlow_7 : decode cL_isFlow 7 = .ok (.iload_n 1, 1) := by decide +kernel
theorem dL_isFlow_8 : decode cL_isFlow 8 = .ok (.iload_n 2, 1) := by decide +kernel
theorem dL_isFlow_9 : decode cL_isFlow 9 = .ok (.invokevirtual 59, 3) := by decide +kernel
theorem dL_isFlow_12 : decode cL_isFlow 12 = .ok (.istore_n 3, 1) := by decide +kernel
theorem dL_isFlow_13 : decode cL_isFlow 13 = .ok (.aload_n 0, 1) := by decide +kernel
theorem dL_isFlow_14 : decode cL_isFlow 14 = .ok (.iload_n 1, 1) := by decide +kernel
theorem dL_isFlow_15 : decode cL_isFlow 15 = .ok (.invokevirtual 72, 3) := by decide +kernel
theorem dL_isFlow_18 : decode cL_isFlow 18 = .ok (.istore 4, 2) := by decide +kernel
theorem dL_isFlow_20 : decode cL_isFlow 20 = .ok (.iload_n 2, 1) := by decide +kernel
theorem dL_isFlow_21 : decode cL_isFlow 21 = .ok (.ifCond .le 59, 3) := by decide +kernel
theorem dL_isFlow_24 : decode cL_isFlow 24 = .ok (.iload_n 2, 1) := by decide +kernel
theorem dL_isFlow_25 : decode cL_isFlow 25 = .ok (.bipush 10, 2) := by decide +kernel
theorem dL_isFlow_27 : decode cL_isFlow 27 = .ok (.if_icmp .ge 53, 3) := by decide +kernel
theorem dL_isFlow_30 : decode cL_isFlow 30 = .ok (.iload_n 3, 1) := by decide +kernel
theorem dL_isFlow_31 : decode cL_isFlow 31 = .ok (.bipush 20, 2) := by decide +kernel
theorem dL_isFlow_33 : decode cL_isFlow 33 = .ok (.if_icmp .lt 47, 3) := by decide +kernel
theorem dL_isFlow_36 : decode cL_isFlow 36 = .ok (.iload_n 3, 1) := by decide +kernel
theorem dL_isFlow_37 : decode cL_isFlow 37 = .ok (.bipush 25, 2) := by decide +kernel
theorem dL_isFlow_39 : decode cL_isFlow 39 = .ok (.if_icmp .ge 41, 3) := by decide +kernel
theorem dL_isFlow_42 : decode cL_isFlow 42 = .ok (.iload 4, 2) := by decide +kernel
theorem dL_isFlow_44 : decode cL_isFlow 44 = .ok (.sipush (-999), 3) := by decide +kernel
theorem dL_isFlow_47 : decode cL_isFlow 47 = .ok (.if_icmp .lt 33, 3) := by decide +kernel
theorem dL_isFlow_50 : decode cL_isFlow 50 = .ok (.iload 4, 2) := by decide +kernel
theorem dL_isFlow_52 : decode cL_isFlow 52 = .ok (.sipush 999, 3) := by decide +kernel
theorem dL_isFlow_55 : decode cL_isFlow 55 = .ok (.if_icmp .gt 25, 3) := by decide +kernel
theorem dL_isFlow_58 : decode cL_isFlow 58 = .ok (.aload_n 0, 1) := by decide +kernel
theorem dL_isFlow_59 : decode cL_isFlow 59 = .ok (.iload_n 1, 1) := by decide +kernel
theorem dL_isFlow_60 : decode cL_isFlow 60 = .ok (.invokevirtual 75, 3) := by decide +kernel
theorem dL_isFlow_63 : decode cL_isFlow 63 = .ok (.iconst (-1), 1) := by decide +kernel
theorem dL_isFlow_64 : decode cL_isFlow 64 = .ok (.if_icmp .eq 12, 3) := by decide +kernel
theorem dL_isFlow_67 : decode cL_isFlow 67 = .ok (.aload_n 0, 1) := by decide +kernel
theorem dL_isFlow_68 : decode cL_isFlow 68 = .ok (.iload_n 1, 1) := by decide +kernel
theorem dL_isFlow_69 : decode cL_isFlow 69 = .ok (.invokevirtual 75, 3) := by decide +kernel
theorem dL_isFlow_72 : decode cL_isFlow 72 = .ok (.iload_n 1, 1) := by decide +kernel
theorem dL_isFlow_73 : decode cL_isFlow 73 = .ok (.if_icmp .ge 7, 3) := by decide +kernel
theorem dL_isFlow_76 : decode cL_isFlow 76 = .ok (.iconst 1, 1) := by decide +kernel
theorem dL_isFlow_77 : decode cL_isFlow 77 = .ok (.goto 4, 3) := by decide +kernel
theorem dL_isFlow_80 : decode cL_isFlow 80 = .ok (.iconst 0, 1) := by decide +kernel
theorem dL_isFlow_81 : decode cL_isFlow 81 = .ok (.istore 5, 2) := by decide +kernel
theorem dL_isFlow_83 : decode cL_isFlow 83 = .ok (.iload 5, 2) := by decide +kernel
theorem dL_isFlow_85 : decode cL_isFlow 85 = .ok (.ifCond .eq 40, 3) := by decide +kernel
theorem dL_isFlow_88 : decode cL_isFlow 88 = .ok (.iload_n 3, 1) := by decide +kernel
theorem dL_isFlow_89 : decode cL_isFlow 89 = .ok (.bipush 20, 2) := by decide +kernel
theorem dL_isFlow_91 : decode cL_isFlow 91 = .ok (.if_icmp .eq 20, 3) := by decide +kernel
theorem dL_isFlow_94 : decode cL_isFlow 94 = .ok (.aload_n 0, 1) := by decide +kernel
theorem dL_isFlow_95 : decode cL_isFlow 95 = .ok (.iload_n 1, 1) := by decide +kernel
theorem dL_isFlow_96 : decode cL_isFlow 96 = .ok (.invokevirtual 78, 3) := by decide +kernel
theorem dL_isFlow_99 : decode cL_isFlow 99 = .ok (.iconst (-1), 1) := by decide +kernel
theorem dL_isFlow_100 : decode cL_isFlow 100 = .ok (.if_icmp .ne 25, 3) := by decide +kernel
theorem dL_isFlow_103 : decode cL_isFlow 103 = .ok (.aload_n 0, 1) := by decide +kernel
theorem dL_isFlow_104 : decode cL_isFlow 104 = .ok (.iload_n 1, 1) := by decide +kernel
theorem dL_isFlow_105 : decode cL_isFlow 105 = .ok (.invokevirtual 81, 3) := by decide +kernel
theorem dL_isFlow_108 : decode cL_isFlow 108 = .ok (.ifCond .ne 17, 3) := by decide +kernel
theorem dL_isFlow_111 : decode cL_isFlow 111 = .ok (.aload_n 0, 1) := by decide +kernel
theorem dL_isFlow_112 : decode cL_isFlow 112 = .ok (.iload_n 1, 1) := by decide +kernel
theorem dL_isFlow_113 : decode cL_isFlow 113 = .ok (.invokevirtual 78, 3) := by decide +kernel
theorem dL_isFlow_116 : decode cL_isFlow 116 = .ok (.bipush 12, 2) := by decide +kernel
theorem dL_isFlow_118 : decode cL_isFlow 118 = .ok (.if_icmp .ge 7, 3) := by decide +kernel
theorem dL_isFlow_121 : decode cL_isFlow 121 = .ok (.iconst 1, 1) := by decide +kernel
theorem dL_isFlow_122 : decode cL_isFlow 122 = .ok (.goto 4, 3) := by decide +kernel
theorem dL_isFlow_125 : decode cL_isFlow 125 = .ok (.iconst 0, 1) := by decide +kernel
theorem dL_isFlow_126 : decode cL_isFlow 126 = .ok (.istore 5, 2) := by decide +kernel
theorem dL_isFlow_128 : decode cL_isFlow 128 = .ok (.iload 5, 2) := by decide +kernel
theorem dL_isFlow_130 : decode cL_isFlow 130 = .ok (.ifCond .eq 34, 3) := by decide +kernel
theorem dL_isFlow_133 : decode cL_isFlow 133 = .ok (.aload_n 0, 1) := by decide +kernel
theorem dL_isFlow_134 : decode cL_isFlow 134 = .ok (.iload_n 1, 1) := by decide +kernel
theorem dL_isFlow_135 : decode cL_isFlow 135 = .ok (.invokevirtual 81, 3) := by decide +kernel
theorem dL_isFlow_138 : decode cL_isFlow 138 = .ok (.ifCond .eq 22, 3) := by decide +kernel
theorem dL_isFlow_141 : decode cL_isFlow 141 = .ok (.aload_n 0, 1) := by decide +kernel
theorem dL_isFlow_142 : decode cL_isFlow 142 = .ok (.iload_n 1, 1) := by decide +kernel
theorem dL_isFlow_143 : decode cL_isFlow 143 = .ok (.iload_n 2, 1) := by decide +kernel
theorem dL_isFlow_144 : decode cL_isFlow 144 = .ok (.aload_n 0, 1) := by decide +kernel
theorem dL_isFlow_145 : decode cL_isFlow 145 = .ok (.iload_n 1, 1) := by decide +kernel
theorem dL_isFlow_146 : decode cL_isFlow 146 = .ok (.iload_n 2, 1) := by decide +kernel
theorem dL_isFlow_147 : decode cL_isFlow 147 = .ok (.invokevirtual 56, 3) := by decide +kernel
theorem dL_isFlow_150 : decode cL_isFlow 150 = .ok (.iconst 1, 1) := by decide +kernel
theorem dL_isFlow_151 : decode cL_isFlow 151 = .ok (.isub, 1) := by decide +kernel
theorem dL_isFlow_152 : decode cL_isFlow 152 = .ok (.invokevirtual 62, 3) := by decide +kernel
theorem dL_isFlow_155 : decode cL_isFlow 155 = .ok (.bipush 7, 2) := by decide +kernel
theorem dL_isFlow_157 : decode cL_isFlow 157 = .ok (.if_icmp .ge 7, 3) := by decide +kernel
theorem dL_isFlow_160 : decode cL_isFlow 160 = .ok (.iconst 1, 1) := by decide +kernel
theorem dL_isFlow_161 : decode cL_isFlow 161 = .ok (.goto 4, 3) := by decide +kernel
theorem dL_isFlow_164 : decode cL_isFlow 164 = .ok (.iconst 0, 1) := by decide +kernel
theorem dL_isFlow_165 : decode cL_isFlow 165 = .ok (.ireturn, 1) := by decide +kernel
theorem e_L_isFlow_126 (d : Nat) {l0 l1 l2 s0 : Int} {m : Mem} {v : Int} {m' : Mem} (h : L_isFlow_126 l0 l1 l2 s0 m = some (v, m')) : Ex (d + 5) fm_L_isFlow 126 [(21, l0), (0, l1), (0, l2), (3, 0), (3, 0), (3, 0)] [(0, s0)] m (.inl (0, v)) m' := by
  unfold L_isFlow_126 at h
  refine x_istore (ls2 := [(21, l0), (0, l1), (0, l2), (3, 0), (3, 0), (0, s0)]) dL_isFlow_126 (Nat.le_of_ble_eq_true rfl) rfl (?_ : Ex _ _ 128 _ _ _ _ _)
  refine x_iload dL_isFlow_128 rfl (?_ : Ex _ _ 130 _ _ _ _ _)
  rcases ite_some h with ⟨b1, h⟩ | ⟨b1, h⟩
  · refine x_if_eq (tgt := 164) dL_isFlow_130 rfl b1 (?_ : Ex _ _ 164 _ _ _ _ _)
    refine x_iconst dL_isFlow_164 rfl (by decide) (?_ : Ex _ _ 165 _ _ _ _ _)
    cases h
    exact x_ret dL_isFlow_165 (by decide : (0 : Int) ≠ 3)
  · refine x_if_eqN dL_isFlow_130 (by decide) b1 (?_ : Ex _ _ 133 _ _ _ _ _)
    refine x_aload_n dL_isFlow_133 rfl rfl (Or.inr (by decide)) (?_ : Ex _ _ 134 _ _ _ _ _)
    refine x_iload_n dL_isFlow_134 rfl rfl (?_ : Ex _ _ 135 _ _ _ _ _)
    obtain ⟨c2, h⟩ := chk_some h
    obtain ⟨v3, m4, g5, h⟩ := cal0_some h
    refine cV1 (e_X11_isDue (d + 2) g5) (cont0 (by decide) (?_ : Ex _ _ 138 _ _ _ _ _)) og_X11_isDue rfl ml_RL_81 11 rfl rfl c2 im_X11_isDue se_X11_isDue (Nat.le_of_ble_eq_true rfl) dL_isFlow_135
    rcases ite_some h with ⟨b6, h⟩ | ⟨b6, h⟩
    · refine x_if_eq (tgt := 160) dL_isFlow_138 rfl b6 (?_ : Ex _ _ 160 _ _ _ _ _)
      refine x_iconst dL_isFlow_160 rfl (by decide) (?_ : Ex _ _ 161 _ _ _ _ _)
      refine x_goto (tgt := 165) dL_isFlow_161 rfl (?_ : Ex _ _ 165 _ _ _ _ _)
      cases h
      exact x_ret dL_isFlow_165 (by decide : (0 : Int) ≠ 3)
    · refine x_if_eqN dL_isFlow_138 (by decide) b6 (?_ : Ex _ _ 141 _ _ _ _ _)
      refine x_aload_n dL_isFlow_141 rfl rfl (Or.inr (by decide)) (?_ : Ex _ _ 142 _ _ _ _ _)
      refine x_iload_n dL_isFlow_142 rfl rfl (?_ : Ex _ _ 143 _ _ _ _ _)
      refine x_iload_n dL_isFlow_143 rfl rfl (?_ : Ex _ _ 144 _ _ _ _ _)
      refine x_aload_n dL_isFlow_144 rfl rfl (Or.inr (by decide)) (?_ : Ex _ _ 145 _ _ _ _ _)
      refine x_iload_n dL_isFlow_145 rfl rfl (?_ : Ex _ _ 146 _ _ _ _ _)
      refine x_iload_n dL_isFlow_146 rfl rfl (?_ : Ex _ _ 147 _ _ _ _ _)
      obtain ⟨v7, m8, g9, h⟩ := cal0_some h
      refine cV2 (e_X11_events (d + 1) g9) (cont0 (by decide) (?_ : Ex _ _ 150 _ _ _ _ _)) og_X11_events rfl ml_RL_56 11 rfl rfl c2 im_X11_events se_X11_events (Nat.le_of_ble_eq_true rfl) dL_isFlow_147
      refine x_iconst dL_isFlow_150 rfl (by decide) (?_ : Ex _ _ 151 _ _ _ _ _)
      obtain ⟨c10, h⟩ := chk_some h
      refine x_isub dL_isFlow_151 c10 (?_ : Ex _ _ 152 _ _ _ _ _)
      obtain ⟨v11, m12, g13, h⟩ := cal0_some h
      refine cV3 (e_X11_eventKind d g13) (cont0 (by decide) (?_ : Ex _ _ 155 _ _ _ _ _)) og_X11_eventKind rfl ml_RL_62 11 rfl rfl c2 im_X11_eventKind se_X11_eventKind (Nat.le_of_ble_eq_true rfl) dL_isFlow_152
      refine x_bipush dL_isFlow_155 kb_7 (by decide) (?_ : Ex _ _ 157 _ _ _ _ _)
      rcases ite_some h with ⟨b14, h⟩ | ⟨b14, h⟩
      · refine x_icmp_ge (tgt := 164) dL_isFlow_157 rfl b14 (?_ : Ex _ _ 164 _ _ _ _ _)
        refine x_iconst dL_isFlow_164 rfl (by decide) (?_ : Ex _ _ 165 _ _ _ _ _)
        cases h
        exact x_ret dL_isFlow_165 (by decide : (0 : Int) ≠ 3)
      · refine x_icmp_geN dL_isFlow_157 (by decide) b14 (?_ : Ex _ _ 160 _ _ _ _ _)
        refine x_iconst dL_isFlow_160 rfl (by decide) (?_ : Ex _ _ 161 _ _ _ _ _)
        refine x_goto (tgt := 165) dL_isFlow_161 rfl (?_ : Ex _ _ 165 _ _ _ _ _)
        cases h
        exact x_ret dL_isFlow_165 (by decide : (0 : Int) ≠ 3)
theorem e_L_isFlow_111 (d : Nat) {l0 l1 l2 : Int} {m : Mem} {v : Int} {m' : Mem} (h : L_isFlow_111 l0 l1 l2 m = some (v, m')) : Ex (d + 5) fm_L_isFlow 111 [(21, l0), (0, l1), (0, l2), (3, 0), (3, 0), (3, 0)] [] m (.inl (0, v)) m' := by
  unfold L_isFlow_111 at h
  refine x_aload_n dL_isFlow_111 rfl rfl (Or.inr (by decide)) (?_ : Ex _ _ 112 _ _ _ _ _)
  refine x_iload_n dL_isFlow_112 rfl rfl (?_ : Ex _ _ 113 _ _ _ _ _)
  obtain ⟨c1, h⟩ := chk_some h
  obtain ⟨v2, m3, g4, h⟩ := cal0_some h
  refine cV1 (e_X11_place (d + 2) g4) (cont0 (by decide) (?_ : Ex _ _ 116 _ _ _ _ _)) og_X11_place rfl ml_RL_78 11 rfl rfl c1 im_X11_place se_X11_place (Nat.le_of_ble_eq_true rfl) dL_isFlow_113
  refine x_bipush dL_isFlow_116 kb_12 (by decide) (?_ : Ex _ _ 118 _ _ _ _ _)
  rcases ite_some h with ⟨b5, h⟩ | ⟨b5, h⟩
  · refine x_icmp_ge (tgt := 125) dL_isFlow_118 rfl b5 (?_ : Ex _ _ 125 _ _ _ _ _)
    refine x_iconst dL_isFlow_125 rfl (by decide) (?_ : Ex _ _ 126 _ _ _ _ _)
    exact e_L_isFlow_126 d h
  · refine x_icmp_geN dL_isFlow_118 (by decide) b5 (?_ : Ex _ _ 121 _ _ _ _ _)
    refine x_iconst dL_isFlow_121 rfl (by decide) (?_ : Ex _ _ 122 _ _ _ _ _)
    refine x_goto (tgt := 126) dL_isFlow_122 rfl (?_ : Ex _ _ 126 _ _ _ _ _)
    exact e_L_isFlow_126 d h
theorem e_L_isFlow_81 (d : Nat) {l0 l1 l2 l3 s0 : Int} {m : Mem} {v : Int} {m' : Mem} (h : L_isFlow_81 l0 l1 l2 l3 s0 m = some (v, m')) : Ex (d + 5) fm_L_isFlow 81 [(21, l0), (0, l1), (0, l2), (0, l3), (3, 0), (3, 0)] [(0, s0)] m (.inl (0, v)) m' := by
  unfold L_isFlow_81 at h
  refine x_istore (ls2 := [(21, l0), (0, l1), (0, l2), (0, l3), (3, 0), (0, s0)]) dL_isFlow_81 (Nat.le_of_ble_eq_true rfl) rfl (?_ : Ex _ _ 83 _ _ _ _ _)
  refine x_iload dL_isFlow_83 rfl (?_ : Ex _ _ 85 _ _ _ _ _)
  rcases ite_some h with ⟨b1, h⟩ | ⟨b1, h⟩
  · refine x_if_eq (tgt := 125) dL_isFlow_85 rfl b1 (?_ : Ex _ _ 125 _ _ _ _ _)
    refine x_iconst dL_isFlow_125 rfl (by decide) (?_ : Ex _ _ 126 _ _ _ _ _)
    refine Ex.wk (ls2 := [(21, l0), (0, l1), (0, l2), (3, 0), (3, 0), (3, 0)]) ⟨Or.inr rfl, Or.inr rfl, Or.inr rfl, Or.inl rfl, Or.inl rfl, Or.inl rfl, trivial⟩ ?_
    exact e_L_isFlow_126 d h
  · refine x_if_eqN dL_isFlow_85 (by decide) b1 (?_ : Ex _ _ 88 _ _ _ _ _)
    refine x_iload_n dL_isFlow_88 rfl rfl (?_ : Ex _ _ 89 _ _ _ _ _)
    refine x_bipush dL_isFlow_89 kb_20 (by decide) (?_ : Ex _ _ 91 _ _ _ _ _)
    rcases ite_some h with ⟨b2, h⟩ | ⟨b2, h⟩
    · refine x_icmp_eq (tgt := 111) dL_isFlow_91 rfl b2 (?_ : Ex _ _ 111 _ _ _ _ _)
      refine Ex.wk (ls2 := [(21, l0), (0, l1), (0, l2), (3, 0), (3, 0), (3, 0)]) ⟨Or.inr rfl, Or.inr rfl, Or.inr rfl, Or.inl rfl, Or.inl rfl, Or.inl rfl, trivial⟩ ?_
      exact e_L_isFlow_111 d h
    · refine x_icmp_eqN dL_isFlow_91 (by decide) b2 (?_ : Ex _ _ 94 _ _ _ _ _)
      refine x_aload_n dL_isFlow_94 rfl rfl (Or.inr (by decide)) (?_ : Ex _ _ 95 _ _ _ _ _)
      refine x_iload_n dL_isFlow_95 rfl rfl (?_ : Ex _ _ 96 _ _ _ _ _)
      obtain ⟨c3, h⟩ := chk_some h
      obtain ⟨v4, m5, g6, h⟩ := cal0_some h
      refine cV1 (e_X11_place (d + 2) g6) (cont0 (by decide) (?_ : Ex _ _ 99 _ _ _ _ _)) og_X11_place rfl ml_RL_78 11 rfl rfl c3 im_X11_place se_X11_place (Nat.le_of_ble_eq_true rfl) dL_isFlow_96
      refine x_iconst dL_isFlow_99 rfl (by decide) (?_ : Ex _ _ 100 _ _ _ _ _)
      rcases ite_some h with ⟨b7, h⟩ | ⟨b7, h⟩
      · refine x_icmp_neN dL_isFlow_100 (by decide) (fun hh => hh b7) (?_ : Ex _ _ 103 _ _ _ _ _)
        refine x_aload_n dL_isFlow_103 rfl rfl (Or.inr (by decide)) (?_ : Ex _ _ 104 _ _ _ _ _)
        refine x_iload_n dL_isFlow_104 rfl rfl (?_ : Ex _ _ 105 _ _ _ _ _)
        obtain ⟨v8, m9, g10, h⟩ := cal0_some h
        refine cV1 (e_X11_isDue (d + 2) g10) (cont0 (by decide) (?_ : Ex _ _ 108 _ _ _ _ _)) og_X11_isDue rfl ml_RL_81 11 rfl rfl c3 im_X11_isDue se_X11_isDue (Nat.le_of_ble_eq_true rfl) dL_isFlow_105
        rcases ite_some h with ⟨b11, h⟩ | ⟨b11, h⟩
        · refine x_if_neN dL_isFlow_108 (by decide) (fun hh => hh b11) (?_ : Ex _ _ 111 _ _ _ _ _)
          refine Ex.wk (ls2 := [(21, l0), (0, l1), (0, l2), (3, 0), (3, 0), (3, 0)]) ⟨Or.inr rfl, Or.inr rfl, Or.inr rfl, Or.inl rfl, Or.inl rfl, Or.inl rfl, trivial⟩ ?_
          exact e_L_isFlow_111 d h
        · refine x_if_ne (tgt := 125) dL_isFlow_108 rfl b11 (?_ : Ex _ _ 125 _ _ _ _ _)
          refine x_iconst dL_isFlow_125 rfl (by decide) (?_ : Ex _ _ 126 _ _ _ _ _)
          refine Ex.wk (ls2 := [(21, l0), (0, l1), (0, l2), (3, 0), (3, 0), (3, 0)]) ⟨Or.inr rfl, Or.inr rfl, Or.inr rfl, Or.inl rfl, Or.inl rfl, Or.inl rfl, trivial⟩ ?_
          exact e_L_isFlow_126 d h
      · refine x_icmp_ne (tgt := 125) dL_isFlow_100 rfl b7 (?_ : Ex _ _ 125 _ _ _ _ _)
        refine x_iconst dL_isFlow_125 rfl (by decide) (?_ : Ex _ _ 126 _ _ _ _ _)
        refine Ex.wk (ls2 := [(21, l0), (0, l1), (0, l2), (3, 0), (3, 0), (3, 0)]) ⟨Or.inr rfl, Or.inr rfl, Or.inr rfl, Or.inl rfl, Or.inl rfl, Or.inl rfl, trivial⟩ ?_
        exact e_L_isFlow_126 d h
theorem e_L_isFlow_0 (d : Nat) {l0 l1 : Int} {m : Mem} {v : Int} {m' : Mem} (h : L_isFlow_0 l0 l1 m = some (v, m')) : Ex (d + 5) fm_L_isFlow 0 [(21, l0), (0, l1), (3, 0), (3, 0), (3, 0), (3, 0)] [] m (.inl (0, v)) m' := by
  unfold L_isFlow_0 at h
  refine x_aload_n dL_isFlow_0 rfl rfl (Or.inr (by decide)) (?_ : Ex _ _ 1 _ _ _ _ _)
  refine x_iload_n dL_isFlow_1 rfl rfl (?_ : Ex _ _ 2 _ _ _ _ _)
  obtain ⟨c1, h⟩ := chk_some h
  obtain ⟨v2, m3, g4, h⟩ := cal0_some h
  refine cV1 (e_X11_runs (d + 2) g4) (cont0 (by decide) (?_ : Ex _ _ 5 _ _ _ _ _)) og_X11_runs rfl ml_RL_69 11 rfl rfl c1 im_X11_runs se_X11_runs (Nat.le_of_ble_eq_true rfl) dL_isFlow_2
  refine x_istore_n (ls2 := [(21, l0), (0, l1), (0, v2), (3, 0), (3, 0), (3, 0)]) dL_isFlow_5 rfl (Nat.le_of_ble_eq_true rfl) rfl (?_ : Ex _ _ 6 _ _ _ _ _)
  refine x_aload_n dL_isFlow_6 rfl rfl (Or.inr (by decide)) (?_ : Ex _ _ 7 _ _ _ _ _)
  refine x_iload_n dL_isFlow_7 rfl rfl (?_ : Ex _ _ 8 _ _ _ _ _)
  refine x_iload_n dL_isFlow_8 rfl rfl (?_ : Ex _ _ 9 _ _ _ _ _)
  obtain ⟨v5, m6, g7, h⟩ := cal0_some h
  refine cV2 (e_X11_state (d + 1) g7) (cont0 (by decide) (?_ : Ex _ _ 12 _ _ _ _ _)) og_X11_state rfl ml_RL_59 11 rfl rfl c1 im_X11_state se_X11_state (Nat.le_of_ble_eq_true rfl) dL_isFlow_9
  refine x_istore_n (ls2 := [(21, l0), (0, l1), (0, v2), (0, v5), (3, 0), (3, 0)]) dL_isFlow_12 rfl (Nat.le_of_ble_eq_true rfl) rfl (?_ : Ex _ _ 13 _ _ _ _ _)
  refine x_aload_n dL_isFlow_13 rfl rfl (Or.inr (by decide)) (?_ : Ex _ _ 14 _ _ _ _ _)
  refine x_iload_n dL_isFlow_14 rfl rfl (?_ : Ex _ _ 15 _ _ _ _ _)
  obtain ⟨v8, m9, g10, h⟩ := cal0_some h
  refine cV1 (e_X11_register (d + 2) g10) (cont0 (by decide) (?_ : Ex _ _ 18 _ _ _ _ _)) og_X11_register rfl ml_RL_72 11 rfl rfl c1 im_X11_register se_X11_register (Nat.le_of_ble_eq_true rfl) dL_isFlow_15
  refine x_istore (ls2 := [(21, l0), (0, l1), (0, v2), (0, v5), (0, v8), (3, 0)]) dL_isFlow_18 (Nat.le_of_ble_eq_true rfl) rfl (?_ : Ex _ _ 20 _ _ _ _ _)
  refine x_iload_n dL_isFlow_20 rfl rfl (?_ : Ex _ _ 21 _ _ _ _ _)
  rcases ite_some h with ⟨b11, h⟩ | ⟨b11, h⟩
  · refine x_if_le (tgt := 80) dL_isFlow_21 rfl b11 (?_ : Ex _ _ 80 _ _ _ _ _)
    refine x_iconst dL_isFlow_80 rfl (by decide) (?_ : Ex _ _ 81 _ _ _ _ _)
    refine Ex.wk (ls2 := [(21, l0), (0, l1), (0, v2), (0, v5), (3, 0), (3, 0)]) ⟨Or.inr rfl, Or.inr rfl, Or.inr rfl, Or.inr rfl, Or.inl rfl, Or.inl rfl, trivial⟩ ?_
    exact e_L_isFlow_81 d h
  · refine x_if_leN dL_isFlow_21 (by decide) b11 (?_ : Ex _ _ 24 _ _ _ _ _)
    refine x_iload_n dL_isFlow_24 rfl rfl (?_ : Ex _ _ 25 _ _ _ _ _)
    refine x_bipush dL_isFlow_25 kb_10 (by decide) (?_ : Ex _ _ 27 _ _ _ _ _)
    rcases ite_some h with ⟨b12, h⟩ | ⟨b12, h⟩
    · refine x_icmp_ge (tgt := 80) dL_isFlow_27 rfl b12 (?_ : Ex _ _ 80 _ _ _ _ _)
      refine x_iconst dL_isFlow_80 rfl (by decide) (?_ : Ex _ _ 81 _ _ _ _ _)
      refine Ex.wk (ls2 := [(21, l0), (0, l1), (0, v2), (0, v5), (3, 0), (3, 0)]) ⟨Or.inr rfl, Or.inr rfl, Or.inr rfl, Or.inr rfl, Or.inl rfl, Or.inl rfl, trivial⟩ ?_
      exact e_L_isFlow_81 d h
    · refine x_icmp_geN dL_isFlow_27 (by decide) b12 (?_ : Ex _ _ 30 _ _ _ _ _)
      refine x_iload_n dL_isFlow_30 rfl rfl (?_ : Ex _ _ 31 _ _ _ _ _)
      refine x_bipush dL_isFlow_31 kb_20 (by decide) (?_ : Ex _ _ 33 _ _ _ _ _)
      rcases ite_some h with ⟨b13, h⟩ | ⟨b13, h⟩
      · refine x_icmp_lt (tgt := 80) dL_isFlow_33 rfl b13 (?_ : Ex _ _ 80 _ _ _ _ _)
        refine x_iconst dL_isFlow_80 rfl (by decide) (?_ : Ex _ _ 81 _ _ _ _ _)
        refine Ex.wk (ls2 := [(21, l0), (0, l1), (0, v2), (0, v5), (3, 0), (3, 0)]) ⟨Or.inr rfl, Or.inr rfl, Or.inr rfl, Or.inr rfl, Or.inl rfl, Or.inl rfl, trivial⟩ ?_
        exact e_L_isFlow_81 d h
      · refine x_icmp_ltN dL_isFlow_33 (by decide) b13 (?_ : Ex _ _ 36 _ _ _ _ _)
        refine x_iload_n dL_isFlow_36 rfl rfl (?_ : Ex _ _ 37 _ _ _ _ _)
        refine x_bipush dL_isFlow_37 kb_25 (by decide) (?_ : Ex _ _ 39 _ _ _ _ _)
        rcases ite_some h with ⟨b14, h⟩ | ⟨b14, h⟩
        · refine x_icmp_ge (tgt := 80) dL_isFlow_39 rfl b14 (?_ : Ex _ _ 80 _ _ _ _ _)
          refine x_iconst dL_isFlow_80 rfl (by decide) (?_ : Ex _ _ 81 _ _ _ _ _)
          refine Ex.wk (ls2 := [(21, l0), (0, l1), (0, v2), (0, v5), (3, 0), (3, 0)]) ⟨Or.inr rfl, Or.inr rfl, Or.inr rfl, Or.inr rfl, Or.inl rfl, Or.inl rfl, trivial⟩ ?_
          exact e_L_isFlow_81 d h
        · refine x_icmp_geN dL_isFlow_39 (by decide) b14 (?_ : Ex _ _ 42 _ _ _ _ _)
          refine x_iload dL_isFlow_42 rfl (?_ : Ex _ _ 44 _ _ _ _ _)
          refine x_sipush dL_isFlow_44 ks_n999 (by decide) (?_ : Ex _ _ 47 _ _ _ _ _)
          rcases ite_some h with ⟨b15, h⟩ | ⟨b15, h⟩
          · refine x_icmp_lt (tgt := 80) dL_isFlow_47 rfl b15 (?_ : Ex _ _ 80 _ _ _ _ _)
            refine x_iconst dL_isFlow_80 rfl (by decide) (?_ : Ex _ _ 81 _ _ _ _ _)
            refine Ex.wk (ls2 := [(21, l0), (0, l1), (0, v2), (0, v5), (3, 0), (3, 0)]) ⟨Or.inr rfl, Or.inr rfl, Or.inr rfl, Or.inr rfl, Or.inl rfl, Or.inl rfl, trivial⟩ ?_
            exact e_L_isFlow_81 d h
          · refine x_icmp_ltN dL_isFlow_47 (by decide) b15 (?_ : Ex _ _ 50 _ _ _ _ _)
            refine x_iload dL_isFlow_50 rfl (?_ : Ex _ _ 52 _ _ _ _ _)
            refine x_sipush dL_isFlow_52 ks_999 (by decide) (?_ : Ex _ _ 55 _ _ _ _ _)
            rcases ite_some h with ⟨b16, h⟩ | ⟨b16, h⟩
            · refine x_icmp_gt (tgt := 80) dL_isFlow_55 rfl b16 (?_ : Ex _ _ 80 _ _ _ _ _)
              refine x_iconst dL_isFlow_80 rfl (by decide) (?_ : Ex _ _ 81 _ _ _ _ _)
              refine Ex.wk (ls2 := [(21, l0), (0, l1), (0, v2), (0, v5), (3, 0), (3, 0)]) ⟨Or.inr rfl, Or.inr rfl, Or.inr rfl, Or.inr rfl, Or.inl rfl, Or.inl rfl, trivial⟩ ?_
              exact e_L_isFlow_81 d h
            · refine x_icmp_gtN dL_isFlow_55 (by decide) b16 (?_ : Ex _ _ 58 _ _ _ _ _)
              refine x_aload_n dL_isFlow_58 rfl rfl (Or.inr (by decide)) (?_ : Ex _ _ 59 _ _ _ _ _)
              refine x_iload_n dL_isFlow_59 rfl rfl (?_ : Ex _ _ 60 _ _ _ _ _)
              obtain ⟨v17, m18, g19, h⟩ := cal0_some h
              refine cV1 (e_X11_parent (d + 2) g19) (cont0 (by decide) (?_ : Ex _ _ 63 _ _ _ _ _)) og_X11_parent rfl ml_RL_75 11 rfl rfl c1 im_X11_parent se_X11_parent (Nat.le_of_ble_eq_true rfl) dL_isFlow_60
              refine x_iconst dL_isFlow_63 rfl (by decide) (?_ : Ex _ _ 64 _ _ _ _ _)
              rcases ite_some h with ⟨b20, h⟩ | ⟨b20, h⟩
              · refine x_icmp_eq (tgt := 76) dL_isFlow_64 rfl b20 (?_ : Ex _ _ 76 _ _ _ _ _)
                refine x_iconst dL_isFlow_76 rfl (by decide) (?_ : Ex _ _ 77 _ _ _ _ _)
                refine x_goto (tgt := 81) dL_isFlow_77 rfl (?_ : Ex _ _ 81 _ _ _ _ _)
                refine Ex.wk (ls2 := [(21, l0), (0, l1), (0, v2), (0, v5), (3, 0), (3, 0)]) ⟨Or.inr rfl, Or.inr rfl, Or.inr rfl, Or.inr rfl, Or.inl rfl, Or.inl rfl, trivial⟩ ?_
                exact e_L_isFlow_81 d h
              · refine x_icmp_eqN dL_isFlow_64 (by decide) b20 (?_ : Ex _ _ 67 _ _ _ _ _)
                refine x_aload_n dL_isFlow_67 rfl rfl (Or.inr (by decide)) (?_ : Ex _ _ 68 _ _ _ _ _)
                refine x_iload_n dL_isFlow_68 rfl rfl (?_ : Ex _ _ 69 _ _ _ _ _)
                obtain ⟨v21, m22, g23, h⟩ := cal0_some h
                refine cV1 (e_X11_parent (d + 2) g23) (cont0 (by decide) (?_ : Ex _ _ 72 _ _ _ _ _)) og_X11_parent rfl ml_RL_75 11 rfl rfl c1 im_X11_parent se_X11_parent (Nat.le_of_ble_eq_true rfl) dL_isFlow_69
                refine x_iload_n dL_isFlow_72 rfl rfl (?_ : Ex _ _ 73 _ _ _ _ _)
                rcases ite_some h with ⟨b24, h⟩ | ⟨b24, h⟩
                · refine x_icmp_ge (tgt := 80) dL_isFlow_73 rfl b24 (?_ : Ex _ _ 80 _ _ _ _ _)
                  refine x_iconst dL_isFlow_80 rfl (by decide) (?_ : Ex _ _ 81 _ _ _ _ _)
                  refine Ex.wk (ls2 := [(21, l0), (0, l1), (0, v2), (0, v5), (3, 0), (3, 0)]) ⟨Or.inr rfl, Or.inr rfl, Or.inr rfl, Or.inr rfl, Or.inl rfl, Or.inl rfl, trivial⟩ ?_
                  exact e_L_isFlow_81 d h
                · refine x_icmp_geN dL_isFlow_73 (by decide) b24 (?_ : Ex _ _ 76 _ _ _ _ _)
                  refine x_iconst dL_isFlow_76 rfl (by decide) (?_ : Ex _ _ 77 _ _ _ _ _)
                  refine x_goto (tgt := 81) dL_isFlow_77 rfl (?_ : Ex _ _ 81 _ _ _ _ _)
                  refine Ex.wk (ls2 := [(21, l0), (0, l1), (0, v2), (0, v5), (3, 0), (3, 0)]) ⟨Or.inr rfl, Or.inr rfl, Or.inr rfl, Or.inr rfl, Or.inl rfl, Or.inl rfl, trivial⟩ ?_
                  exact e_L_isFlow_81 d h
theorem e_L_isFlow (d : Nat) {a0 a1 : Int} {m : Mem} {v : Int} {m' : Mem} (h : L_isFlow a0 a1 m = some (v, m')) : ExM (d + 5) fm_L_isFlow [(21, a0), (0, a1)] m (.inl (0, v)) m' := by
  obtain ⟨hb, h⟩ := boolR_some h
  exact ExM.of (by decide +kernel) (Nat.le_of_ble_eq_true rfl) (cat9 rfl) (retZ hb) (e_L_isFlow_0 d h)
