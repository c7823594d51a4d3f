/-! the machine does what the functions say, printed -/
theorem dX11_state_0 : decode cX11_state 0 = .ok (.aload_n 0, 1) := by decide +kernel
theorem dX11_state_1 : decode cX11_state 1 = .ok (.iload_n 1, 1) := by decide +kernel
theorem dX11_state_2 : decode cX11_state 2 = .ok (.iload_n 2, 1) := by decide +kernel
theorem dX11_state_3 : decode cX11_state 3 = .ok (.invokevirtual 264, 3) := by decide +kernel
theorem dX11_state_6 : decode cX11_state 6 = .ok (.getfield 136, 3) := by decide +kernel
theorem dX11_state_9 : decode cX11_state 9 = .ok (.ireturn, 1) := by decide +kernel
theorem e_X11_state_0 (d : Nat) {l0 l1 l2 : Int} {m : Mem} {e v : Int} {m' : Mem} (h : X11_state_0 l0 l1 l2 m = some (e, v, m')) : Ex (d + 3) fm_X11_state 0 [(21, l0), (0, l1), (0, l2)] [] m (rr9 0 e v) m' := by
  unfold X11_state_0 at h
  refine x_aload_n dX11_state_0 rfl rfl (Or.inr (by decide)) (?_ : Ex _ _ 1 _ _ _ _ _)
  refine x_iload_n dX11_state_1 rfl rfl (?_ : Ex _ _ 2 _ _ _ _ _)
  refine x_iload_n dX11_state_2 rfl rfl (?_ : Ex _ _ 3 _ _ _ _ _)
  obtain ⟨c1, h⟩ := chk_some h
  rcases calX_some h with ⟨v2, m3, g4, h⟩ | ⟨e7, v2, m3, x6, g4, h⟩
  · refine cV2 (e_X11_runOf d g4) (cont0 (by decide) (?_ : Ex _ _ 6 _ _ _ _ _)) og_X11_runOf rfl ml_RX11_264 11 rfl rfl c1 im_X11_runOf se_X11_runOf (Nat.le_of_ble_eq_true rfl) dX11_state_3
    obtain ⟨c5, h⟩ := chk_some h
    refine gt_7_7 c5 fl_RX11_136 dX11_state_6 (?_ : Ex _ _ 9 _ _ _ _ _)
    cases h
    exact y_retX dX11_state_9 (by decide)
  · cases h
    exact cV2 (e_X11_runOf d g4) (contE x6 rfl) og_X11_runOf rfl ml_RX11_264 11 rfl rfl c1 im_X11_runOf se_X11_runOf (Nat.le_of_ble_eq_true rfl) dX11_state_3
theorem e_X11_state (d : Nat) {a0 a1 a2 : Int} {m : Mem} {e v : Int} {m' : Mem} (h : X11_state a0 a1 a2 m = some (e, v, m')) : ExM (d + 3) fm_X11_state [(21, a0), (0, a1), (0, a2)] m (rr9 0 e v) m' := by
  exact ExM.of (by decide +kernel) (Nat.le_of_ble_eq_true rfl) (cat9 rfl) retIX (e_X11_state_0 d h)
theorem dX11_events_0 : decode cX11_events 0 = .ok (.aload_n 0, 1) := by decide +kernel
theorem dX11_events_1 : decode cX11_events 1 = .ok (.iload_n 1, 1) := by decide +kernel
theorem dX11_events_2 : decode cX11_events 2 = .ok (.iload_n 2, 1) := by decide +kernel
theorem dX11_events_3 : decode cX11_events 3 = .ok (.invokevirtual 264, 3) := by decide +kernel
theorem dX11_events_6 : decode cX11_events 6 = .ok (.getfield 144, 3) := by decide +kernel
theorem dX11_events_9 : decode cX11_events 9 = .ok (.getfield 268, 3) := by decide +kernel
theorem dX11_events_12 : decode cX11_events 12 = .ok (.ireturn, 1) := by decide +kernel
theorem e_X11_events_0 (d : Nat) {l0 l1 l2 : Int} {m : Mem} {e v : Int} {m' : Mem} (h : X11_events_0 l0 l1 l2 m = some (e, v, m')) : Ex (d + 3) fm_X11_events 0 [(21, l0), (0, l1), (0, l2)] [] m (rr9 0 e v) m' := by
  unfold X11_events_0 at h
  refine x_aload_n dX11_events_0 rfl rfl (Or.inr (by decide)) (?_ : Ex _ _ 1 _ _ _ _ _)
  refine x_iload_n dX11_events_1 rfl rfl (?_ : Ex _ _ 2 _ _ _ _ _)
  refine x_iload_n dX11_events_2 rfl rfl (?_ : Ex _ _ 3 _ _ _ _ _)
  obtain ⟨c1, h⟩ := chk_some h
  rcases calX_some h with ⟨v2, m3, g4, h⟩ | ⟨e8, v2, m3, x7, g4, h⟩
  · refine cV2 (e_X11_runOf d g4) (cont0 (by decide) (?_ : Ex _ _ 6 _ _ _ _ _)) og_X11_runOf rfl ml_RX11_264 11 rfl rfl c1 im_X11_runOf se_X11_runOf (Nat.le_of_ble_eq_true rfl) dX11_events_3
    obtain ⟨c5, h⟩ := chk_some h
    refine gt_7_0 c5 fl_RX11_144 dX11_events_6 (?_ : Ex _ _ 9 _ _ _ _ _)
    obtain ⟨c6, h⟩ := chk_some h
    refine gt_3_3 c6 fl_RX11_268 dX11_events_9 (?_ : Ex _ _ 12 _ _ _ _ _)
    cases h
    exact y_retX dX11_events_12 (by decide)
  · cases h
    exact cV2 (e_X11_runOf d g4) (contE x7 rfl) og_X11_runOf rfl ml_RX11_264 11 rfl rfl c1 im_X11_runOf se_X11_runOf (Nat.le_of_ble_eq_true rfl) dX11_events_3
theorem e_X11_events (d : Nat) {a0 a1 a2 : Int} {m : Mem} {e v : Int} {m' : Mem} (h : X11_events a0 a1 a2 m = some (e, v, m')) : ExM (d + 3) fm_X11_events [(21, a0), (0, a1), (0, a2)] m (rr9 0 e v) m' := by
  exact ExM.of (by decide +kernel) (Nat.le_of_ble_eq_true rfl) (cat9 rfl) retIX (e_X11_events_0 d h)
theorem dX11_historyWith_0 : decode cX11_historyWith 0 = .ok (.aload_n 0, 1) := by decide +kernel
theorem dX11_historyWith_1 : decode cX11_historyWith 1 = .ok (.iload_n 1, 1) := by decide +kernel
theorem dX11_historyWith_2 : decode cX11_historyWith 2 = .ok (.iload_n 2, 1) := by decide +kernel
theorem dX11_historyWith_3 : decode cX11_historyWith 3 = .ok (.invokevirtual 264, 3) := by decide +kernel
theorem dX11_historyWith_6 : decode cX11_historyWith 6 = .ok (.getfield 144, 3) := by decide +kernel
theorem dX11_historyWith_9 : decode cX11_historyWith 9 = .ok (.astore 4, 2) := by decide +kernel
theorem dX11_historyWith_11 : decode cX11_historyWith 11 = .ok (.iload_n 3, 1) := by decide +kernel
theorem dX11_historyWith_12 : decode cX11_historyWith 12 = .ok (.iconst 0, 1) := by decide +kernel
theorem dX11_historyWith_13 : decode cX11_historyWith 13 = .ok (.aload 4, 2) := by decide +kernel
theorem dX11_historyWith_15 : decode cX11_historyWith 15 = .ok (.getfield 268, 3) := by decide +kernel
theorem dX11_historyWith_18 : decode cX11_historyWith 18 = .ok (.iconst 1, 1) := by decide +kernel
theorem dX11_historyWith_19 : decode cX11_historyWith 19 = .ok (.isub, 1) := by decide +kernel
theorem dX11_historyWith_20 : decode cX11_historyWith 20 = .ok (.invokestatic 89, 3) := by decide +kernel
theorem dX11_historyWith_23 : decode cX11_historyWith 23 = .ok (.ifCond .ne 14, 3) := by decide +kernel
theorem dX11_historyWith_26 : decode cX11_historyWith 26 = .ok (.new 92, 3) := by decide +kernel
theorem dX11_historyWith_29 : decode cX11_historyWith 29 = .ok (.dup, 1) := by decide +kernel
theorem dX11_historyWith_30 : decode cX11_historyWith 30 = .ok (.ldc_w 330, 3) := by decide +kernel
theorem dX11_historyWith_33 : decode cX11_historyWith 33 = .ok (.invokespecial 96, 3) := by decide +kernel
theorem dX11_historyWith_36 : decode cX11_historyWith 36 = .ok (.athrow, 1) := by decide +kernel
theorem dX11_historyWith_37 : decode cX11_historyWith 37 = .ok (.aload 4, 2) := by decide +kernel
theorem dX11_historyWith_39 : decode cX11_historyWith 39 = .ok (.areturn, 1) := by decide +kernel
theorem e_X11_historyWith_0 (d : Nat) {l0 l1 l2 l3 : Int} {m : Mem} {e v : Int} {m' : Mem} (h : X11_historyWith_0 l0 l1 l2 l3 m = some (e, v, m')) : Ex (d + 3) fm_X11_historyWith 0 [(21, l0), (0, l1), (0, l2), (0, l3), (3, 0)] [] m (rr9 13 e v) m' := by
  unfold X11_historyWith_0 at h
  refine x_aload_n dX11_historyWith_0 rfl rfl (Or.inr (by decide)) (?_ : Ex _ _ 1 _ _ _ _ _)
  refine x_iload_n dX11_historyWith_1 rfl rfl (?_ : Ex _ _ 2 _ _ _ _ _)
  refine x_iload_n dX11_historyWith_2 rfl rfl (?_ : Ex _ _ 3 _ _ _ _ _)
  obtain ⟨c1, h⟩ := chk_some h
  rcases calX_some h with ⟨v2, m3, g4, h⟩ | ⟨e13, v2, m3, x12, g4, h⟩
  · refine cV2 (e_X11_runOf d g4) (cont0 (by decide) (?_ : Ex _ _ 6 _ _ _ _ _)) og_X11_runOf rfl ml_RX11_264 11 rfl rfl c1 im_X11_runOf se_X11_runOf (Nat.le_of_ble_eq_true rfl) dX11_historyWith_3
    obtain ⟨c5, h⟩ := chk_some h
    refine gt_7_0 c5 fl_RX11_144 dX11_historyWith_6 (?_ : Ex _ _ 9 _ _ _ _ _)
    refine x_astore (ls2 := [(21, l0), (0, l1), (0, l2), (0, l3), (13, m3 v2 0)]) dX11_historyWith_9 (Nat.le_of_ble_eq_true rfl) (Or.inr (by decide)) rfl (?_ : Ex _ _ 11 _ _ _ _ _)
    refine x_iload_n dX11_historyWith_11 rfl rfl (?_ : Ex _ _ 12 _ _ _ _ _)
    refine x_iconst dX11_historyWith_12 rfl (by decide) (?_ : Ex _ _ 13 _ _ _ _ _)
    refine x_aload dX11_historyWith_13 rfl (Or.inr (by decide)) (?_ : Ex _ _ 15 _ _ _ _ _)
    obtain ⟨c6, h⟩ := chk_some h
    refine gt_3_3 c6 fl_RX11_268 dX11_historyWith_15 (?_ : Ex _ _ 18 _ _ _ _ _)
    refine x_iconst dX11_historyWith_18 rfl (by decide) (?_ : Ex _ _ 19 _ _ _ _ _)
    obtain ⟨c7, h⟩ := chk_some h
    refine x_isub dX11_historyWith_19 c7 (?_ : Ex _ _ 20 _ _ _ _ _)
    obtain ⟨v8, m9, g10, h⟩ := cal_some h
    refine cS3 (e_X11_isWithin (d + 2) g10) (contN (by decide) (?_ : Ex _ _ 23 _ _ _ _ _)) og_X11_isWithin rfl ml_RX11_89 sm_X11_isWithin (Nat.le_of_ble_eq_true rfl) dX11_historyWith_20
    rcases ite_some h with ⟨b11, h⟩ | ⟨b11, h⟩
    · refine x_if_neN dX11_historyWith_23 (by decide) (fun hh => hh b11) (?_ : Ex _ _ 26 _ _ _ _ _)
      cases h
      exact y_throwW (by decide) to_RX11_92_330 rfl (Nat.le_of_ble_eq_true rfl) dX11_historyWith_26 dX11_historyWith_29 dX11_historyWith_30 dX11_historyWith_33 dX11_historyWith_36 rfl rfl rfl rfl
    · refine x_if_ne (tgt := 37) dX11_historyWith_23 rfl b11 (?_ : Ex _ _ 37 _ _ _ _ _)
      refine x_aload dX11_historyWith_37 rfl (Or.inr (by decide)) (?_ : Ex _ _ 39 _ _ _ _ _)
      cases h
      exact y_retX dX11_historyWith_39 (by decide)
  · cases h
    exact cV2 (e_X11_runOf d g4) (contE x12 rfl) og_X11_runOf rfl ml_RX11_264 11 rfl rfl c1 im_X11_runOf se_X11_runOf (Nat.le_of_ble_eq_true rfl) dX11_historyWith_3
theorem e_X11_historyWith (d : Nat) {a0 a1 a2 a3 : Int} {m : Mem} {e v : Int} {m' : Mem} (h : X11_historyWith a0 a1 a2 a3 m = some (e, v, m')) : ExM (d + 3) fm_X11_historyWith [(21, a0), (0, a1), (0, a2), (0, a3)] m (rr9 13 e v) m' := by
  exact ExM.of (by decide +kernel) (Nat.le_of_ble_eq_true rfl) (cat9 rfl) (retRX (by decide)) (e_X11_historyWith_0 d h)
theorem dX11_eventKind_0 : decode cX11_eventKind 0 = .ok (.aload_n 0, 1) := by decide +kernel
theorem dX11_eventKind_1 : decode cX11_eventKind 1 = .ok (.iload_n 1, 1) := by decide +kernel
theorem dX11_eventKind_2 : decode cX11_eventKind 2 = .ok (.iload_n 2, 1) := by decide +kernel
theorem dX11_eventKind_3 : decode cX11_eventKind 3 = .ok (.iload_n 3, 1) := by decide +kernel
theorem dX11_eventKind_4 : decode cX11_eventKind 4 = .ok (.invokevirtual 271, 3) := by decide +kernel
theorem dX11_eventKind_7 : decode cX11_eventKind 7 = .ok (.getfield 275, 3) := by decide +kernel
theorem dX11_eventKind_10 : decode cX11_eventKind 10 = .ok (.iload_n 3, 1) := by decide +kernel
theorem dX11_eventKind_11 : decode cX11_eventKind 11 = .ok (.iaload, 1) := by decide +kernel
theorem dX11_eventKind_12 : decode cX11_eventKind 12 = .ok (.ireturn, 1) := by decide +kernel
theorem e_X11_eventKind_0 (d : Nat) {l0 l1 l2 l3 : Int} {m : Mem} {e v : Int} {m' : Mem} (h : X11_eventKind_0 l0 l1 l2 l3 m = some (e, v, m')) : Ex (d + 4) fm_X11_eventKind 0 [(21, l0), (0, l1), (0, l2), (0, l3)] [] m (rr9 0 e v) m' := by
  unfold X11_eventKind_0 at h
  refine x_aload_n dX11_eventKind_0 rfl rfl (Or.inr (by decide)) (?_ : Ex _ _ 1 _ _ _ _ _)
  refine x_iload_n dX11_eventKind_1 rfl rfl (?_ : Ex _ _ 2 _ _ _ _ _)
  refine x_iload_n dX11_eventKind_2 rfl rfl (?_ : Ex _ _ 3 _ _ _ _ _)
  refine x_iload_n dX11_eventKind_3 rfl rfl (?_ : Ex _ _ 4 _ _ _ _ _)
  obtain ⟨c1, h⟩ := chk_some h
  rcases calX_some h with ⟨v2, m3, g4, h⟩ | ⟨e10, v2, m3, x9, g4, h⟩
  · refine cV3 (e_X11_historyWith d g4) (cont0 (by decide) (?_ : Ex _ _ 7 _ _ _ _ _)) og_X11_historyWith rfl ml_RX11_271 11 rfl rfl c1 im_X11_historyWith se_X11_historyWith (Nat.le_of_ble_eq_true rfl) dX11_eventKind_4
    obtain ⟨c5, h⟩ := chk_some h
    refine gt_3_0 c5 fl_RX11_275 dX11_eventKind_7 (?_ : Ex _ _ 10 _ _ _ _ _)
    refine x_iload_n dX11_eventKind_10 rfl rfl (?_ : Ex _ _ 11 _ _ _ _ _)
    obtain ⟨⟨c6, c7, c8⟩, h⟩ := chk_some h
    refine ld_i_80 c6 c7 c8 dX11_eventKind_11 (?_ : Ex _ _ 12 _ _ _ _ _)
    cases h
    exact y_retX dX11_eventKind_12 (by decide)
  · cases h
    exact cV3 (e_X11_historyWith d g4) (contE x9 rfl) og_X11_historyWith rfl ml_RX11_271 11 rfl rfl c1 im_X11_historyWith se_X11_historyWith (Nat.le_of_ble_eq_true rfl) dX11_eventKind_4
theorem e_X11_eventKind (d : Nat) {a0 a1 a2 a3 : Int} {m : Mem} {e v : Int} {m' : Mem} (h : X11_eventKind a0 a1 a2 a3 m = some (e, v, m')) : ExM (d + 4) fm_X11_eventKind [(21, a0), (0, a1), (0, a2), (0, a3)] m (rr9 0 e v) m' := by
  exact ExM.of (by decide +kernel) (Nat.le_of_ble_eq_true rfl) (cat9 rfl) retIX (e_X11_eventKind_0 d h)
theorem dX11_eventNumber_0 : decode cX11_eventNumber 0 = .ok (.aload_n 0, 1) := by decide +kernel
theorem dX11_eventNumber_1 : decode cX11_eventNumber 1 = .ok (.iload_n 1, 1) := by decide +kernel
theorem dX11_eventNumber_2 : decode cX11_eventNumber 2 = .ok (.iload_n 2, 1) := by decide +kernel
theorem dX11_eventNumber_3 : decode cX11_eventNumber 3 = .ok (.iload_n 3, 1) := by decide +kernel
theorem dX11_eventNumber_4 : decode cX11_eventNumber 4 = .ok (.invokevirtual 271, 3) := by decide +kernel
theorem dX11_eventNumber_7 : decode cX11_eventNumber 7 = .ok (.astore 5, 2) := by decide +kernel
theorem dX11_eventNumber_9 : decode cX11_eventNumber 9 = .ok (.iload 4, 2) := by decide +kernel
theorem dX11_eventNumber_11 : decode cX11_eventNumber 11 = .ok (.ifCond .eq 13, 3) := by decide +kernel
theorem dX11_eventNumber_14 : decode cX11_eventNumber 14 = .ok (.aload 5, 2) := by decide +kernel
theorem dX11_eventNumber_16 : decode cX11_eventNumber 16 = .ok (.getfield 278, 3) := by decide +kernel
theorem dX11_eventNumber_19 : decode cX11_eventNumber 19 = .ok (.iload_n 3, 1) := by decide +kernel
theorem dX11_eventNumber_20 : decode cX11_eventNumber 20 = .ok (.iaload, 1) := by decide +kernel
theorem dX11_eventNumber_21 : decode cX11_eventNumber 21 = .ok (.goto 10, 3) := by decide +kernel
theorem dX11_eventNumber_24 : decode cX11_eventNumber 24 = .ok (.aload 5, 2) := by decide +kernel
theorem dX11_eventNumber_26 : decode cX11_eventNumber 26 = .ok (.getfield 281, 3) := by decide +kernel
theorem dX11_eventNumber_29 : decode cX11_eventNumber 29 = .ok (.iload_n 3, 1) := by decide +kernel
theorem dX11_eventNumber_30 : decode cX11_eventNumber 30 = .ok (.iaload, 1) := by decide +kernel
theorem dX11_eventNumber_31 : decode cX11_eventNumber 31 = .ok (.ireturn, 1) := by decide +kernel
theorem e_X11_eventNumber_0 (d : Nat) {l0 l1 l2 l3 l4 : Int} {m : Mem} {e v : Int} {m' : Mem} (h : X11_eventNumber_0 l0 l1 l2 l3 l4 m = some (e, v, m')) : Ex (d + 4) fm_X11_eventNumber 0 [(21, l0), (0, l1), (0, l2), (0, l3), (0, l4), (3, 0)] [] m (rr9 0 e v) m' := by
  unfold X11_eventNumber_0 at h
  refine x_aload_n dX11_eventNumber_0 rfl rfl (Or.inr (by decide)) (?_ : Ex _ _ 1 _ _ _ _ _)
  refine x_iload_n dX11_eventNumber_1 rfl rfl (?_ : Ex _ _ 2 _ _ _ _ _)
  refine x_iload_n dX11_eventNumber_2 rfl rfl (?_ : Ex _ _ 3 _ _ _ _ _)
  refine x_iload_n dX11_eventNumber_3 rfl rfl (?_ : Ex _ _ 4 _ _ _ _ _)
  obtain ⟨c1, h⟩ := chk_some h
  rcases calX_some h with ⟨v2, m3, g4, h⟩ | ⟨e15, v2, m3, x14, g4, h⟩
  · refine cV3 (e_X11_historyWith d g4) (cont0 (by decide) (?_ : Ex _ _ 7 _ _ _ _ _)) og_X11_historyWith rfl ml_RX11_271 11 rfl rfl c1 im_X11_historyWith se_X11_historyWith (Nat.le_of_ble_eq_true rfl) dX11_eventNumber_4
    refine x_astore (ls2 := [(21, l0), (0, l1), (0, l2), (0, l3), (0, l4), (13, v2)]) dX11_eventNumber_7 (Nat.le_of_ble_eq_true rfl) (Or.inr (by decide)) rfl (?_ : Ex _ _ 9 _ _ _ _ _)
    refine x_iload dX11_eventNumber_9 rfl (?_ : Ex _ _ 11 _ _ _ _ _)
    rcases ite_some h with ⟨b5, h⟩ | ⟨b5, h⟩
    · refine x_if_eq (tgt := 24) dX11_eventNumber_11 rfl b5 (?_ : Ex _ _ 24 _ _ _ _ _)
      refine x_aload dX11_eventNumber_24 rfl (Or.inr (by decide)) (?_ : Ex _ _ 26 _ _ _ _ _)
      obtain ⟨c6, h⟩ := chk_some h
      refine gt_3_2 c6 fl_RX11_281 dX11_eventNumber_26 (?_ : Ex _ _ 29 _ _ _ _ _)
      refine x_iload_n dX11_eventNumber_29 rfl rfl (?_ : Ex _ _ 30 _ _ _ _ _)
      obtain ⟨⟨c7, c8, c9⟩, h⟩ := chk_some h
      refine ld_i_80 c7 c8 c9 dX11_eventNumber_30 (?_ : Ex _ _ 31 _ _ _ _ _)
      cases h
      exact y_retX dX11_eventNumber_31 (by decide)
    · refine x_if_eqN dX11_eventNumber_11 (by decide) b5 (?_ : Ex _ _ 14 _ _ _ _ _)
      refine x_aload dX11_eventNumber_14 rfl (Or.inr (by decide)) (?_ : Ex _ _ 16 _ _ _ _ _)
      obtain ⟨c10, h⟩ := chk_some h
      refine gt_3_1 c10 fl_RX11_278 dX11_eventNumber_16 (?_ : Ex _ _ 19 _ _ _ _ _)
      refine x_iload_n dX11_eventNumber_19 rfl rfl (?_ : Ex _ _ 20 _ _ _ _ _)
      obtain ⟨⟨c11, c12, c13⟩, h⟩ := chk_some h
      refine ld_i_80 c11 c12 c13 dX11_eventNumber_20 (?_ : Ex _ _ 21 _ _ _ _ _)
      refine x_goto (tgt := 31) dX11_eventNumber_21 rfl (?_ : Ex _ _ 31 _ _ _ _ _)
      cases h
      exact y_retX dX11_eventNumber_31 (by decide)
  · cases h
    exact cV3 (e_X11_historyWith d g4) (contE x14 rfl) og_X11_historyWith rfl ml_RX11_271 11 rfl rfl c1 im_X11_historyWith se_X11_historyWith (Nat.le_of_ble_eq_true rfl) dX11_eventNumber_4
theorem e_X11_eventNumber (d : Nat) {a0 a1 a2 a3 a4 : Int} {m : Mem} {e v : Int} {m' : Mem} (h : X11_eventNumber a0 a1 a2 a3 a4 m = some (e, v, m')) : ExM (d + 4) fm_X11_eventNumber [(21, a0), (0, a1), (0, a2), (0, a3), (0, a4)] m (rr9 0 e v) m' := by
  exact ExM.of (by decide +kernel) (Nat.le_of_ble_eq_true rfl) (cat9 rfl) retIX (e_X11_eventNumber_0 d h)
theorem dX11_checkProperty_0 : decode cX11_checkProperty 0 = .ok (.iload_n 0, 1) := by decide +kernel
theorem dX11_checkProperty_1 : decode cX11_checkProperty 1 = .ok (.iconst 0, 1) := by decide +kernel
theorem dX11_checkProperty_2 : decode cX11_checkProperty 2 = .ok (.iconst 1, 1) := by decide +kernel
theorem dX11_checkProperty_3 : decode cX11_checkProperty 3 = .ok (.invokestatic 89, 3) := by decide +kernel
theorem dX11_checkProperty_6 : decode cX11_checkProperty 6 = .ok (.ifCond .ne 14, 3) := by decide +kernel
theorem dX11_checkProperty_9 : decode cX11_checkProperty 9 = .ok (.new 51, 3) := by decide +kernel
theorem dX11_checkProperty_12 : decode cX11_checkProperty 12 = .ok (.dup, 1) := by decide +kernel
theorem dX11_checkProperty_13 : decode cX11_checkProperty 13 = .ok (.ldc_w 338, 3) := by decide +kernel
theorem dX11_checkProperty_16 : decode cX11_checkProperty 16 = .ok (.invokespecial 55, 3) := by decide +kernel
theorem dX11_checkProperty_19 : decode cX11_checkProperty 19 = .ok (.athrow, 1) := by decide +kernel
theorem dX11_checkProperty_20 : decode cX11_checkProperty 20 = .ok (.return_, 1) := by decide +kernel
theorem e_X11_checkProperty_0 (d : Nat) {l0 : Int} {m : Mem} {e v : Int} {m' : Mem} (h : X11_checkProperty_0 l0 m = some (e, v, m')) : Ex (d + 1) fm_X11_checkProperty 0 [(0, l0)] [] m (rr9 3 e v) m' := by
  unfold X11_checkProperty_0 at h
  refine x_iload_n dX11_checkProperty_0 rfl rfl (?_ : Ex _ _ 1 _ _ _ _ _)
  refine x_iconst dX11_checkProperty_1 rfl (by decide) (?_ : Ex _ _ 2 _ _ _ _ _)
  refine x_iconst dX11_checkProperty_2 rfl (by decide) (?_ : Ex _ _ 3 _ _ _ _ _)
  obtain ⟨v1, m2, g3, h⟩ := cal_some h
  refine cS3 (e_X11_isWithin d g3) (contN (by decide) (?_ : Ex _ _ 6 _ _ _ _ _)) og_X11_isWithin rfl ml_RX11_89 sm_X11_isWithin (Nat.le_of_ble_eq_true rfl) dX11_checkProperty_3
  rcases ite_some h with ⟨b4, h⟩ | ⟨b4, h⟩
  · refine x_if_neN dX11_checkProperty_6 (by decide) (fun hh => hh b4) (?_ : Ex _ _ 9 _ _ _ _ _)
    cases h
    exact y_throwW (by decide) to_RX11_51_338 rfl (Nat.le_of_ble_eq_true rfl) dX11_checkProperty_9 dX11_checkProperty_12 dX11_checkProperty_13 dX11_checkProperty_16 dX11_checkProperty_19 rfl rfl rfl rfl
  · refine x_if_ne (tgt := 20) dX11_checkProperty_6 rfl b4 (?_ : Ex _ _ 20 _ _ _ _ _)
    cases h
    exact y_retvX dX11_checkProperty_20
theorem e_X11_checkProperty (d : Nat) {a0 : Int} {m : Mem} {e v : Int} {m' : Mem} (h : X11_checkProperty a0 m = some (e, v, m')) : ExM (d + 1) fm_X11_checkProperty [(0, a0)] m (rr9 3 e v) m' := by
  exact ExM.of (by decide +kernel) (Nat.le_of_ble_eq_true rfl) (cat9 rfl) retVX (e_X11_checkProperty_0 d h)
theorem dX11_property_0 : decode cX11_property 0 = .ok (.aload_n 0, 1) := by decide +kernel
theorem dX11_property_1 : decode cX11_property 1 = .ok (.iload_n 1, 1) := by decide +kernel
theorem dX11_property_2 : decode cX11_property 2 = .ok (.invokevirtual 114, 3) := by decide +kernel
theorem dX11_property_5 : decode cX11_property 5 = .ok (.astore_n 3, 1) := by decide +kernel
theorem dX11_property_6 : decode cX11_property 6 = .ok (.iload_n 2, 1) := by decide +kernel
theorem dX11_property_7 : decode cX11_property 7 = .ok (.invokestatic 284, 3) := by decide +kernel
theorem dX11_property_10 : decode cX11_property 10 = .ok (.aload_n 3, 1) := by decide +kernel
theorem dX11_property_11 : decode cX11_property 11 = .ok (.getfield 287, 3) := by decide +kernel
theorem dX11_property_14 : decode cX11_property 14 = .ok (.iload_n 2, 1) := by decide +kernel
theorem dX11_property_15 : decode cX11_property 15 = .ok (.iaload, 1) := by decide +kernel
theorem dX11_property_16 : decode cX11_property 16 = .ok (.ireturn, 1) := by decide +kernel
theorem e_X11_property_0 (d : Nat) {l0 l1 l2 : Int} {m : Mem} {e v : Int} {m' : Mem} (h : X11_property_0 l0 l1 l2 m = some (e, v, m')) : Ex (d + 2) fm_X11_property 0 [(21, l0), (0, l1), (0, l2), (3, 0)] [] m (rr9 0 e v) m' := by
  unfold X11_property_0 at h
  refine x_aload_n dX11_property_0 rfl rfl (Or.inr (by decide)) (?_ : Ex _ _ 1 _ _ _ _ _)
  refine x_iload_n dX11_property_1 rfl rfl (?_ : Ex _ _ 2 _ _ _ _ _)
  obtain ⟨c1, h⟩ := chk_some h
  rcases calX_some h with ⟨v2, m3, g4, h⟩ | ⟨e15, v2, m3, x14, g4, h⟩
  · refine cV1 (e_X11_flowOf d g4) (cont0 (by decide) (?_ : Ex _ _ 5 _ _ _ _ _)) og_X11_flowOf rfl ml_RX11_114 11 rfl rfl c1 im_X11_flowOf se_X11_flowOf (Nat.le_of_ble_eq_true rfl) dX11_property_2
    refine x_astore_n (ls2 := [(21, l0), (0, l1), (0, l2), (20, v2)]) dX11_property_5 rfl (Nat.le_of_ble_eq_true rfl) (Or.inr (by decide)) rfl (?_ : Ex _ _ 6 _ _ _ _ _)
    refine x_iload_n dX11_property_6 rfl rfl (?_ : Ex _ _ 7 _ _ _ _ _)
    rcases calX_some h with ⟨v5, m6, g7, h⟩ | ⟨e13, v5, m6, x12, g7, h⟩
    · refine cS1 (e_X11_checkProperty d g7) (cont0V (?_ : Ex _ _ 10 _ _ _ _ _)) og_X11_checkProperty rfl ml_RX11_284 sm_X11_checkProperty (Nat.le_of_ble_eq_true rfl) dX11_property_7
      refine x_aload_n dX11_property_10 rfl rfl (Or.inr (by decide)) (?_ : Ex _ _ 11 _ _ _ _ _)
      obtain ⟨c8, h⟩ := chk_some h
      refine gt_10_3 c8 fl_RX11_287 dX11_property_11 (?_ : Ex _ _ 14 _ _ _ _ _)
      refine x_iload_n dX11_property_14 rfl rfl (?_ : Ex _ _ 15 _ _ _ _ _)
      obtain ⟨⟨c9, c10, c11⟩, h⟩ := chk_some h
      refine ld_i_2 c9 c10 c11 dX11_property_15 (?_ : Ex _ _ 16 _ _ _ _ _)
      cases h
      exact y_retX dX11_property_16 (by decide)
    · cases h
      exact cS1 (e_X11_checkProperty d g7) (contE x12 rfl) og_X11_checkProperty rfl ml_RX11_284 sm_X11_checkProperty (Nat.le_of_ble_eq_true rfl) dX11_property_7
  · cases h
    exact cV1 (e_X11_flowOf d g4) (contE x14 rfl) og_X11_flowOf rfl ml_RX11_114 11 rfl rfl c1 im_X11_flowOf se_X11_flowOf (Nat.le_of_ble_eq_true rfl) dX11_property_2
theorem e_X11_property (d : Nat) {a0 a1 a2 : Int} {m : Mem} {e v : Int} {m' : Mem} (h : X11_property a0 a1 a2 m = some (e, v, m')) : ExM (d + 2) fm_X11_property [(21, a0), (0, a1), (0, a2)] m (rr9 0 e v) m' := by
  exact ExM.of (by decide +kernel) (Nat.le_of_ble_eq_true rfl) (cat9 rfl) retIX (e_X11_property_0 d h)
theorem dX11_found_0 : decode cX11_found 0 = .ok (.iload_n 1, 1) := by decide +kernel
theorem dX11_found_1 : decode cX11_found 1 = .ok (.invokestatic 284, 3) := by decide +kernel
theorem dX11_found_4 : decode cX11_found 4 = .ok (.iload_n 2, 1) := by decide +kernel
theorem dX11_found_5 : decode cX11_found 5 = .ok (.iload_n 3, 1) := by decide +kernel
theorem dX11_found_6 : decode cX11_found 6 = .ok (.if_icmp .le 14, 3) := by decide +kernel
theorem dX11_found_9 : decode cX11_found 9 = .ok (.new 51, 3) := by decide +kernel
theorem dX11_found_12 : decode cX11_found 12 = .ok (.dup, 1) := by decide +kernel
theorem dX11_found_13 : decode cX11_found 13 = .ok (.ldc_w 290, 3) := by decide +kernel
theorem dX11_found_16 : decode cX11_found 16 = .ok (.invokespecial 55, 3) := by decide +kernel
theorem dX11_found_19 : decode cX11_found 19 = .ok (.athrow, 1) := by decide +kernel
theorem dX11_found_20 : decode cX11_found 20 = .ok (.iconst 0, 1) := by decide +kernel
theorem dX11_found_21 : decode cX11_found 21 = .ok (.istore 4, 2) := by decide +kernel
theorem dX11_found_23 : decode cX11_found 23 = .ok (.iconst 0, 1) := by decide +kernel
theorem dX11_found_24 : decode cX11_found 24 = .ok (.istore 5, 2) := by decide +kernel
theorem dX11_found_26 : decode cX11_found 26 = .ok (.iload 5, 2) := by decide +kernel
theorem dX11_found_28 : decode cX11_found 28 = .ok (.aload_n 0, 1) := by decide +kernel
theorem dX11_found_29 : decode cX11_found 29 = .ok (.getfield 99, 3) := by decide +kernel
theorem dX11_found_32 : decode cX11_found 32 = .ok (.if_icmp .ge 50, 3) := by decide +kernel
theorem dX11_found_35 : decode cX11_found 35 = .ok (.aload_n 0, 1) := by decide +kernel
theorem dX11_found_36 : decode cX11_found 36 = .ok (.getfield 17, 3) := by decide +kernel
theorem dX11_found_39 : decode cX11_found 39 = .ok (.iload 5, 2) := by decide +kernel
theorem dX11_found_41 : decode cX11_found 41 = .ok (.aaload, 1) := by decide +kernel
theorem dX11_found_42 : decode cX11_found 42 = .ok (.getfield 120, 3) := by decide +kernel
theorem dX11_found_45 : decode cX11_found 45 = .ok (.getfield 136, 3) := by decide +kernel
theorem dX11_found_48 : decode cX11_found 48 = .ok (.bipush 20, 2) := by decide +kernel
theorem dX11_found_50 : decode cX11_found 50 = .ok (.if_icmp .ne 26, 3) := by decide +kernel
theorem dX11_found_53 : decode cX11_found 53 = .ok (.aload_n 0, 1) := by decide +kernel
theorem dX11_found_54 : decode cX11_found 54 = .ok (.getfield 17, 3) := by decide +kernel
theorem dX11_found_57 : decode cX11_found 57 = .ok (.iload 5, 2) := by decide +kernel
theorem dX11_found_59 : decode cX11_found 59 = .ok (.aaload, 1) := by decide +kernel
theorem dX11_found_60 : decode cX11_found 60 = .ok (.getfield 287, 3) := by decide +kernel
theorem dX11_found_63 : decode cX11_found 63 = .ok (.iload_n 1, 1) := by decide +kernel
theorem dX11_found_64 : decode cX11_found 64 = .ok (.iaload, 1) := by decide +kernel
theorem dX11_found_65 : decode cX11_found 65 = .ok (.iload_n 2, 1) := by decide +kernel
theorem dX11_found_66 : decode cX11_found 66 = .ok (.iload_n 3, 1) := by decide +kernel
theorem dX11_found_67 : decode cX11_found 67 = .ok (.invokestatic 89, 3) := by decide +kernel
theorem dX11_found_70 : decode cX11_found 70 = .ok (.ifCond .eq 6, 3) := by decide +kernel
theorem dX11_found_73 : decode cX11_found 73 = .ok (.iinc 4 1, 3) := by decide +kernel
theorem dX11_found_76 : decode cX11_found 76 = .ok (.iinc 5 1, 3) := by decide +kernel
theorem dX11_found_79 : decode cX11_found 79 = .ok (.goto (-53), 3) := by decide +kernel
theorem dX11_found_82 : decode cX11_found 82 = .ok (.iload 4, 2) := by decide +kernel
theorem dX11_found_84 : decode cX11_found 84 = .ok (.ireturn, 1) := by decide +kernel
theorem e_X11_found_26 (d : Nat) : ∀ (n : Nat) {l0 l1 l2 l3 l4 l5 : Int} {m : Mem} {e v : Int} {m' : Mem}, X11_found_26 n l0 l1 l2 l3 l4 l5 m = some (e, v, m') → Ex (d + 2) fm_X11_found 26 [(21, l0), (0, l1), (0, l2), (0, l3), (0, l4), (0, l5)] [] m (rr9 0 e v) m' := by
  intro n
  induction n with
  | zero =>
    intro l0 l1 l2 l3 l4 l5 m e v m' h
    have h : (none : Option R3) = some _ := h
    cases h
  | succ n ih =>
    intro l0 l1 l2 l3 l4 l5 m e v m' h
    rw [X11_found_26] at h
    refine x_iload dX11_found_26 rfl (?_ : Ex _ _ 28 _ _ _ _ _)
    refine x_aload_n dX11_found_28 rfl rfl (Or.inr (by decide)) (?_ : Ex _ _ 29 _ _ _ _ _)
    obtain ⟨c1, h⟩ := chk_some h
    refine gt_11_5 c1 fl_RX11_99 dX11_found_29 (?_ : Ex _ _ 32 _ _ _ _ _)
    rcases ite_some h with ⟨b2, h⟩ | ⟨b2, h⟩
    · refine x_icmp_ge (tgt := 82) dX11_found_32 rfl b2 (?_ : Ex _ _ 82 _ _ _ _ _)
      refine x_iload dX11_found_82 rfl (?_ : Ex _ _ 84 _ _ _ _ _)
      cases h
      exact y_retX dX11_found_84 (by decide)
    · refine x_icmp_geN dX11_found_32 (by decide) b2 (?_ : Ex _ _ 35 _ _ _ _ _)
      refine x_aload_n dX11_found_35 rfl rfl (Or.inr (by decide)) (?_ : Ex _ _ 36 _ _ _ _ _)
      refine gt_11_1 c1 fl_RX11_17 dX11_found_36 (?_ : Ex _ _ 39 _ _ _ _ _)
      refine x_iload dX11_found_39 rfl (?_ : Ex _ _ 41 _ _ _ _ _)
      obtain ⟨⟨c3, c4, c5⟩, h⟩ := chk_some h
      refine ad_10_10 c3 c4 c5 dX11_found_41 (?_ : Ex _ _ 42 _ _ _ _ _)
      obtain ⟨c6, h⟩ := chk_some h
      refine gt_10_6 c6 fl_RX11_120 dX11_found_42 (?_ : Ex _ _ 45 _ _ _ _ _)
      obtain ⟨c7, h⟩ := chk_some h
      refine gt_7_7 c7 fl_RX11_136 dX11_found_45 (?_ : Ex _ _ 48 _ _ _ _ _)
      refine x_bipush dX11_found_48 kb_20 (by decide) (?_ : Ex _ _ 50 _ _ _ _ _)
      rcases ite_some h with ⟨b8, h⟩ | ⟨b8, h⟩
      · refine x_icmp_neN dX11_found_50 (by decide) (fun hh => hh b8) (?_ : Ex _ _ 53 _ _ _ _ _)
        refine x_aload_n dX11_found_53 rfl rfl (Or.inr (by decide)) (?_ : Ex _ _ 54 _ _ _ _ _)
        refine gt_11_1 c1 fl_RX11_17 dX11_found_54 (?_ : Ex _ _ 57 _ _ _ _ _)
        refine x_iload dX11_found_57 rfl (?_ : Ex _ _ 59 _ _ _ _ _)
        obtain ⟨⟨c10, c11⟩, h⟩ := chk_some h
        refine ad_10_10 c3 c10 c11 dX11_found_59 (?_ : Ex _ _ 60 _ _ _ _ _)
        refine gt_10_3 c6 fl_RX11_287 dX11_found_60 (?_ : Ex _ _ 63 _ _ _ _ _)
        refine x_iload_n dX11_found_63 rfl rfl (?_ : Ex _ _ 64 _ _ _ _ _)
        obtain ⟨⟨c12, c13, c14⟩, h⟩ := chk_some h
        refine ld_i_2 c12 c13 c14 dX11_found_64 (?_ : Ex _ _ 65 _ _ _ _ _)
        refine x_iload_n dX11_found_65 rfl rfl (?_ : Ex _ _ 66 _ _ _ _ _)
        refine x_iload_n dX11_found_66 rfl rfl (?_ : Ex _ _ 67 _ _ _ _ _)
        obtain ⟨v15, m16, g17, h⟩ := cal_some h
        refine cS3 (e_X11_isWithin (d + 1) g17) (contN (by decide) (?_ : Ex _ _ 70 _ _ _ _ _)) og_X11_isWithin rfl ml_RX11_89 sm_X11_isWithin (Nat.le_of_ble_eq_true rfl) dX11_found_67
        rcases ite_some h with ⟨b18, h⟩ | ⟨b18, h⟩
        · refine x_if_eq (tgt := 76) dX11_found_70 rfl b18 (?_ : Ex _ _ 76 _ _ _ _ _)
          obtain ⟨c19, h⟩ := chk_some h
          refine x_iinc (ls2 := [(21, l0), (0, l1), (0, l2), (0, l3), (0, l4), (0, (l5 + 1))]) dX11_found_76 rfl c19 rfl (?_ : Ex _ _ 79 _ _ _ _ _)
          refine x_goto (tgt := 26) dX11_found_79 rfl (?_ : Ex _ _ 26 _ _ _ _ _)
          exact ih h
        · refine x_if_eqN dX11_found_70 (by decide) b18 (?_ : Ex _ _ 73 _ _ _ _ _)
          obtain ⟨c20, h⟩ := chk_some h
          refine x_iinc (ls2 := [(21, l0), (0, l1), (0, l2), (0, l3), (0, (l4 + 1)), (0, l5)]) dX11_found_73 rfl c20 rfl (?_ : Ex _ _ 76 _ _ _ _ _)
          obtain ⟨c21, h⟩ := chk_some h
          refine x_iinc (ls2 := [(21, l0), (0, l1), (0, l2), (0, l3), (0, (l4 + 1)), (0, (l5 + 1))]) dX11_found_76 rfl c21 rfl (?_ : Ex _ _ 79 _ _ _ _ _)
          refine x_goto (tgt := 26) dX11_found_79 rfl (?_ : Ex _ _ 26 _ _ _ _ _)
          exact ih h
      · refine x_icmp_ne (tgt := 76) dX11_found_50 rfl b8 (?_ : Ex _ _ 76 _ _ _ _ _)
        obtain ⟨c9, h⟩ := chk_some h
        refine x_iinc (ls2 := [(21, l0), (0, l1), (0, l2), (0, l3), (0, l4), (0, (l5 + 1))]) dX11_found_76 rfl c9 rfl (?_ : Ex _ _ 79 _ _ _ _ _)
        refine x_goto (tgt := 26) dX11_found_79 rfl (?_ : Ex _ _ 26 _ _ _ _ _)
        exact ih h
theorem e_X11_found_0 (d : Nat) {l0 l1 l2 l3 : Int} {m : Mem} {e v : Int} {m' : Mem} (h : X11_found_0 l0 l1 l2 l3 m = some (e, v, m')) : Ex (d + 2) fm_X11_found 0 [(21, l0), (0, l1), (0, l2), (0, l3), (3, 0), (3, 0)] [] m (rr9 0 e v) m' := by
  unfold X11_found_0 at h
  refine x_iload_n dX11_found_0 rfl rfl (?_ : Ex _ _ 1 _ _ _ _ _)
  rcases calX_some h with ⟨v1, m2, g3, h⟩ | ⟨e6, v1, m2, x5, g3, h⟩
  · refine cS1 (e_X11_checkProperty d g3) (cont0V (?_ : Ex _ _ 4 _ _ _ _ _)) og_X11_checkProperty rfl ml_RX11_284 sm_X11_checkProperty (Nat.le_of_ble_eq_true rfl) dX11_found_1
    refine x_iload_n dX11_found_4 rfl rfl (?_ : Ex _ _ 5 _ _ _ _ _)
    refine x_iload_n dX11_found_5 rfl rfl (?_ : Ex _ _ 6 _ _ _ _ _)
    rcases ite_some h with ⟨b4, h⟩ | ⟨b4, h⟩
    · refine x_icmp_le (tgt := 20) dX11_found_6 rfl b4 (?_ : Ex _ _ 20 _ _ _ _ _)
      refine x_iconst dX11_found_20 rfl (by decide) (?_ : Ex _ _ 21 _ _ _ _ _)
      refine x_istore (ls2 := [(21, l0), (0, l1), (0, l2), (0, l3), (0, 0), (3, 0)]) dX11_found_21 (Nat.le_of_ble_eq_true rfl) rfl (?_ : Ex _ _ 23 _ _ _ _ _)
      refine x_iconst dX11_found_23 rfl (by decide) (?_ : Ex _ _ 24 _ _ _ _ _)
      refine x_istore (ls2 := [(21, l0), (0, l1), (0, l2), (0, l3), (0, 0), (0, 0)]) dX11_found_24 (Nat.le_of_ble_eq_true rfl) rfl (?_ : Ex _ _ 26 _ _ _ _ _)
      exact e_X11_found_26 d fuel9 h
    · refine x_icmp_leN dX11_found_6 (by decide) b4 (?_ : Ex _ _ 9 _ _ _ _ _)
      cases h
      exact y_throwW (by decide) to_RX11_51_290 rfl (Nat.le_of_ble_eq_true rfl) dX11_found_9 dX11_found_12 dX11_found_13 dX11_found_16 dX11_found_19 rfl rfl rfl rfl
  · cases h
    exact cS1 (e_X11_checkProperty d g3) (contE x5 rfl) og_X11_checkProperty rfl ml_RX11_284 sm_X11_checkProperty (Nat.le_of_ble_eq_true rfl) dX11_found_1
theorem e_X11_found (d : Nat) {a0 a1 a2 a3 : Int} {m : Mem} {e v : Int} {m' : Mem} (h : X11_found a0 a1 a2 a3 m = some (e, v, m')) : ExM (d + 2) fm_X11_found [(21, a0), (0, a1), (0, a2), (0, a3)] m (rr9 0 e v) m' := by
  exact ExM.of (by decide +kernel) (Nat.le_of_ble_eq_true rfl) (cat9 rfl) retIX (e_X11_found_0 d h)
theorem dX11_isDue_0 : decode cX11_isDue 0 = .ok (.aload_n 0, 1) := by decide +kernel
theorem dX11_isDue_1 : decode cX11_isDue 1 = .ok (.iload_n 1, 1) := by decide +kernel
theorem dX11_isDue_2 : decode cX11_isDue 2 = .ok (.invokevirtual 114, 3) := by decide +kernel
theorem dX11_isDue_5 : decode cX11_isDue 5 = .ok (.getfield 120, 3) := by decide +kernel
theorem dX11_isDue_8 : decode cX11_isDue 8 = .ok (.astore_n 2, 1) := by decide +kernel
theorem dX11_isDue_9 : decode cX11_isDue 9 = .ok (.aload_n 2, 1) := by decide +kernel
theorem dX11_isDue_10 : decode cX11_isDue 10 = .ok (.getfield 136, 3) := by decide +kernel
theorem dX11_isDue_13 : decode cX11_isDue 13 = .ok (.bipush 20, 2) := by decide +kernel
theorem dX11_isDue_15 : decode cX11_isDue 15 = .ok (.if_icmp .ne 14, 3) := by decide +kernel
theorem dX11_isDue_18 : decode cX11_isDue 18 = .ok (.aload_n 2, 1) := by decide +kernel
theorem dX11_isDue_19 : decode cX11_isDue 19 = .ok (.invokevirtual 141, 3) := by decide +kernel
theorem dX11_isDue_22 : decode cX11_isDue 22 = .ok (.ifCond .eq 7, 3) := by decide +kernel
theorem dX11_isDue_25 : decode cX11_isDue 25 = .ok (.iconst 1, 1) := by decide +kernel
theorem dX11_isDue_26 : decode cX11_isDue 26 = .ok (.goto 4, 3) := by decide +kernel
theorem dX11_isDue_29 : decode cX11_isDue 29 = .ok (.iconst 0, 1) := by decide +kernel
theorem dX11_isDue_30 : decode cX11_isDue 30 = .ok (.ireturn, 1) := by decide +kernel
theorem e_X11_isDue_0 (d : Nat) {l0 l1 : Int} {m : Mem} {e v : Int} {m' : Mem} (h : X11_isDue_0 l0 l1 m = some (e, v, m')) : Ex (d + 2) fm_X11_isDue 0 [(21, l0), (0, l1), (3, 0)] [] m (rr9 0 e v) m' := by
  unfold X11_isDue_0 at h
  refine x_aload_n dX11_isDue_0 rfl rfl (Or.inr (by decide)) (?_ : Ex _ _ 1 _ _ _ _ _)
  refine x_iload_n dX11_isDue_1 rfl rfl (?_ : Ex _ _ 2 _ _ _ _ _)
  obtain ⟨c1, h⟩ := chk_some h
  rcases calX_some h with ⟨v2, m3, g4, h⟩ | ⟨e13, v2, m3, x12, g4, h⟩
  · refine cV1 (e_X11_flowOf d g4) (cont0 (by decide) (?_ : Ex _ _ 5 _ _ _ _ _)) og_X11_flowOf rfl ml_RX11_114 11 rfl rfl c1 im_X11_flowOf se_X11_flowOf (Nat.le_of_ble_eq_true rfl) dX11_isDue_2
    obtain ⟨c5, h⟩ := chk_some h
    refine gt_10_6 c5 fl_RX11_120 dX11_isDue_5 (?_ : Ex _ _ 8 _ _ _ _ _)
    refine x_astore_n (ls2 := [(21, l0), (0, l1), (17, m3 v2 6)]) dX11_isDue_8 rfl (Nat.le_of_ble_eq_true rfl) (Or.inr (by decide)) rfl (?_ : Ex _ _ 9 _ _ _ _ _)
    refine x_aload_n dX11_isDue_9 rfl rfl (Or.inr (by decide)) (?_ : Ex _ _ 10 _ _ _ _ _)
    obtain ⟨c6, h⟩ := chk_some h
    refine gt_7_7 c6 fl_RX11_136 dX11_isDue_10 (?_ : Ex _ _ 13 _ _ _ _ _)
    refine x_bipush dX11_isDue_13 kb_20 (by decide) (?_ : Ex _ _ 15 _ _ _ _ _)
    rcases ite_some h with ⟨b7, h⟩ | ⟨b7, h⟩
    · refine x_icmp_neN dX11_isDue_15 (by decide) (fun hh => hh b7) (?_ : Ex _ _ 18 _ _ _ _ _)
      refine x_aload_n dX11_isDue_18 rfl rfl (Or.inr (by decide)) (?_ : Ex _ _ 19 _ _ _ _ _)
      obtain ⟨v8, m9, g10, h⟩ := cal_some h
      refine cV0 (e_X7_hasNews (d + 1) g10) (contN (by decide) (?_ : Ex _ _ 22 _ _ _ _ _)) og_X7_hasNews rfl ml_RX11_141 7 rfl rfl c6 im_X7_hasNews se_X7_hasNews (Nat.le_of_ble_eq_true rfl) dX11_isDue_19
      rcases ite_some h with ⟨b11, h⟩ | ⟨b11, h⟩
      · refine x_if_eq (tgt := 29) dX11_isDue_22 rfl b11 (?_ : Ex _ _ 29 _ _ _ _ _)
        refine x_iconst dX11_isDue_29 rfl (by decide) (?_ : Ex _ _ 30 _ _ _ _ _)
        cases h
        exact y_retX dX11_isDue_30 (by decide)
      · refine x_if_eqN dX11_isDue_22 (by decide) b11 (?_ : Ex _ _ 25 _ _ _ _ _)
        refine x_iconst dX11_isDue_25 rfl (by decide) (?_ : Ex _ _ 26 _ _ _ _ _)
        refine x_goto (tgt := 30) dX11_isDue_26 rfl (?_ : Ex _ _ 30 _ _ _ _ _)
        cases h
        exact y_retX dX11_isDue_30 (by decide)
    · refine x_icmp_ne (tgt := 29) dX11_isDue_15 rfl b7 (?_ : Ex _ _ 29 _ _ _ _ _)
      refine x_iconst dX11_isDue_29 rfl (by decide) (?_ : Ex _ _ 30 _ _ _ _ _)
      cases h
      exact y_retX dX11_isDue_30 (by decide)
  · cases h
    exact cV1 (e_X11_flowOf d g4) (contE x12 rfl) og_X11_flowOf rfl ml_RX11_114 11 rfl rfl c1 im_X11_flowOf se_X11_flowOf (Nat.le_of_ble_eq_true rfl) dX11_isDue_2
theorem e_X11_isDue (d : Nat) {a0 a1 : Int} {m : Mem} {e v : Int} {m' : Mem} (h : X11_isDue a0 a1 m = some (e, v, m')) : ExM (d + 2) fm_X11_isDue [(21, a0), (0, a1)] m (rr9 0 e v) m' := by
  obtain ⟨hb, h⟩ := boolX_some h
  exact ExM.of (by decide +kernel) (Nat.le_of_ble_eq_true rfl) (cat9 rfl) (retZX hb) (e_X11_isDue_0 d h)
theorem dX11_register_0 : decode cX11_register 0 = .ok (.aload_n 0, 1) := by decide +kernel
theorem dX11_register_1 : decode cX11_register 1 = .ok (.iload_n 1, 1) := by decide +kernel
theorem dX11_register_2 : decode cX11_register 2 = .ok (.invokevirtual 114, 3) := by decide +kernel
theorem dX11_register_5 : decode cX11_register 5 = .ok (.getfield 120, 3) := by decide +kernel
theorem dX11_register_8 : decode cX11_register 8 = .ok (.getfield 292, 3) := by decide +kernel
theorem dX11_register_11 : decode cX11_register 11 = .ok (.ireturn, 1) := by decide +kernel
theorem e_X11_register_0 (d : Nat) {l0 l1 : Int} {m : Mem} {e v : Int} {m' : Mem} (h : X11_register_0 l0 l1 m = some (e, v, m')) : Ex (d + 2) fm_X11_register 0 [(21, l0), (0, l1)] [] m (rr9 0 e v) m' := by
  unfold X11_register_0 at h
  refine x_aload_n dX11_register_0 rfl rfl (Or.inr (by decide)) (?_ : Ex _ _ 1 _ _ _ _ _)
  refine x_iload_n dX11_register_1 rfl rfl (?_ : Ex _ _ 2 _ _ _ _ _)
  obtain ⟨c1, h⟩ := chk_some h
  rcases calX_some h with ⟨v2, m3, g4, h⟩ | ⟨e8, v2, m3, x7, g4, h⟩
  · refine cV1 (e_X11_flowOf d g4) (cont0 (by decide) (?_ : Ex _ _ 5 _ _ _ _ _)) og_X11_flowOf rfl ml_RX11_114 11 rfl rfl c1 im_X11_flowOf se_X11_flowOf (Nat.le_of_ble_eq_true rfl) dX11_register_2
    obtain ⟨c5, h⟩ := chk_some h
    refine gt_10_6 c5 fl_RX11_120 dX11_register_5 (?_ : Ex _ _ 8 _ _ _ _ _)
    obtain ⟨c6, h⟩ := chk_some h
    refine gt_7_8 c6 fl_RX11_292 dX11_register_8 (?_ : Ex _ _ 11 _ _ _ _ _)
    cases h
    exact y_retX dX11_register_11 (by decide)
  · cases h
    exact cV1 (e_X11_flowOf d g4) (contE x7 rfl) og_X11_flowOf rfl ml_RX11_114 11 rfl rfl c1 im_X11_flowOf se_X11_flowOf (Nat.le_of_ble_eq_true rfl) dX11_register_2
theorem e_X11_register (d : Nat) {a0 a1 : Int} {m : Mem} {e v : Int} {m' : Mem} (h : X11_register a0 a1 m = some (e, v, m')) : ExM (d + 2) fm_X11_register [(21, a0), (0, a1)] m (rr9 0 e v) m' := by
  exact ExM.of (by decide +kernel) (Nat.le_of_ble_eq_true rfl) (cat9 rfl) retIX (e_X11_register_0 d h)
theorem dX11_place_0 : decode cX11_place 0 = .ok (.aload_n 0, 1) := by decide +kernel
theorem dX11_place_1 : decode cX11_place 1 = .ok (.iload_n 1, 1) := by decide +kernel
theorem dX11_place_2 : decode cX11_place 2 = .ok (.invokevirtual 114, 3) := by decide +kernel
theorem dX11_place_5 : decode cX11_place 5 = .ok (.getfield 120, 3) := by decide +kernel
theorem dX11_place_8 : decode cX11_place 8 = .ok (.getfield 295, 3) := by decide +kernel
theorem dX11_place_11 : decode cX11_place 11 = .ok (.ireturn, 1) := by decide +kernel
theorem e_X11_place_0 (d : Nat) {l0 l1 : Int} {m : Mem} {e v : Int} {m' : Mem} (h : X11_place_0 l0 l1 m = some (e, v, m')) : Ex (d + 2) fm_X11_place 0 [(21, l0), (0, l1)] [] m (rr9 0 e v) m' := by
  unfold X11_place_0 at h
  refine x_aload_n dX11_place_0 rfl rfl (Or.inr (by decide)) (?_ : Ex _ _ 1 _ _ _ _ _)
  refine x_iload_n dX11_place_1 rfl rfl (?_ : Ex _ _ 2 _ _ _ _ _)
  obtain ⟨c1, h⟩ := chk_some h
  rcases calX_some h with ⟨v2, m3, g4, h⟩ | ⟨e8, v2, m3, x7, g4, h⟩
  · refine cV1 (e_X11_flowOf d g4) (cont0 (by decide) (?_ : Ex _ _ 5 _ _ _ _ _)) og_X11_flowOf rfl ml_RX11_114 11 rfl rfl c1 im_X11_flowOf se_X11_flowOf (Nat.le_of_ble_eq_true rfl) dX11_place_2
    obtain ⟨c5, h⟩ := chk_some h
    refine gt_10_6 c5 fl_RX11_120 dX11_place_5 (?_ : Ex _ _ 8 _ _ _ _ _)
    obtain ⟨c6, h⟩ := chk_some h
    refine gt_7_9 c6 fl_RX11_295 dX11_place_8 (?_ : Ex _ _ 11 _ _ _ _ _)
    cases h
    exact y_retX dX11_place_11 (by decide)
  · cases h
    exact cV1 (e_X11_flowOf d g4) (contE x7 rfl) og_X11_flowOf rfl ml_RX11_114 11 rfl rfl c1 im_X11_flowOf se_X11_flowOf (Nat.le_of_ble_eq_true rfl) dX11_place_2
theorem e_X11_place (d : Nat) {a0 a1 : Int} {m : Mem} {e v : Int} {m' : Mem} (h : X11_place a0 a1 m = some (e, v, m')) : ExM (d + 2) fm_X11_place [(21, a0), (0, a1)] m (rr9 0 e v) m' := by
  exact ExM.of (by decide +kernel) (Nat.le_of_ble_eq_true rfl) (cat9 rfl) retIX (e_X11_place_0 d h)
theorem dX11_registerAnew_0 : decode cX11_registerAnew 0 = .ok (.aload_n 0, 1) := by decide +kernel
theorem dX11_registerAnew_1 : decode cX11_registerAnew 1 = .ok (.iload_n 1, 1) := by decide +kernel
theorem dX11_registerAnew_2 : decode cX11_registerAnew 2 = .ok (.invokevirtual 114, 3) := by decide +kernel
theorem dX11_registerAnew_5 : decode cX11_registerAnew 5 = .ok (.astore_n 3, 1) := by decide +kernel
theorem dX11_registerAnew_6 : decode cX11_registerAnew 6 = .ok (.aload_n 0, 1) := by decide +kernel
theorem dX11_registerAnew_7 : decode cX11_registerAnew 7 = .ok (.aload_n 3, 1) := by decide +kernel
theorem dX11_registerAnew_8 : decode cX11_registerAnew 8 = .ok (.iload_n 2, 1) := by decide +kernel
theorem dX11_registerAnew_9 : decode cX11_registerAnew 9 = .ok (.invokevirtual 132, 3) := by decide +kernel
theorem dX11_registerAnew_12 : decode cX11_registerAnew 12 = .ok (.astore 4, 2) := by decide +kernel
theorem dX11_registerAnew_14 : decode cX11_registerAnew 14 = .ok (.aload_n 0, 1) := by decide +kernel
theorem dX11_registerAnew_15 : decode cX11_registerAnew 15 = .ok (.getfield 36, 3) := by decide +kernel
theorem dX11_registerAnew_18 : decode cX11_registerAnew 18 = .ok (.aload 4, 2) := by decide +kernel
theorem dX11_registerAnew_20 : decode cX11_registerAnew 20 = .ok (.aload_n 3, 1) := by decide +kernel
theorem dX11_registerAnew_21 : decode cX11_registerAnew 21 = .ok (.getfield 120, 3) := by decide +kernel
theorem dX11_registerAnew_24 : decode cX11_registerAnew 24 = .ok (.getfield 144, 3) := by decide +kernel
theorem dX11_registerAnew_27 : decode cX11_registerAnew 27 = .ok (.aload_n 3, 1) := by decide +kernel
theorem dX11_registerAnew_28 : decode cX11_registerAnew 28 = .ok (.getfield 148, 3) := by decide +kernel
theorem dX11_registerAnew_31 : decode cX11_registerAnew 31 = .ok (.iconst 0, 1) := by decide +kernel
theorem dX11_registerAnew_32 : decode cX11_registerAnew 32 = .ok (.invokevirtual 151, 3) := by decide +kernel
theorem dX11_registerAnew_35 : decode cX11_registerAnew 35 = .ok (.ifCond .ne 7, 3) := by decide +kernel
theorem dX11_registerAnew_38 : decode cX11_registerAnew 38 = .ok (.sipush (-2000), 3) := by decide +kernel
theorem dX11_registerAnew_41 : decode cX11_registerAnew 41 = .ok (.ireturn, 1) := by decide +kernel
theorem dX11_registerAnew_42 : decode cX11_registerAnew 42 = .ok (.aload_n 0, 1) := by decide +kernel
theorem dX11_registerAnew_43 : decode cX11_registerAnew 43 = .ok (.getfield 36, 3) := by decide +kernel
theorem dX11_registerAnew_46 : decode cX11_registerAnew 46 = .ok (.getfield 298, 3) := by decide +kernel
theorem dX11_registerAnew_49 : decode cX11_registerAnew 49 = .ok (.ireturn, 1) := by decide +kernel
theorem e_X11_registerAnew_0 (d : Nat) {l0 l1 l2 : Int} {m : Mem} {e v : Int} {m' : Mem} (h : X11_registerAnew_0 l0 l1 l2 m = some (e, v, m')) : Ex (d + 6) fm_X11_registerAnew 0 [(21, l0), (0, l1), (0, l2), (3, 0), (3, 0)] [] m (rr9 0 e v) m' := by
  unfold X11_registerAnew_0 at h
  refine x_aload_n dX11_registerAnew_0 rfl rfl (Or.inr (by decide)) (?_ : Ex _ _ 1 _ _ _ _ _)
  refine x_iload_n dX11_registerAnew_1 rfl rfl (?_ : Ex _ _ 2 _ _ _ _ _)
  obtain ⟨c1, h⟩ := chk_some h
  rcases calX_some h with ⟨v2, m3, g4, h⟩ | ⟨e19, v2, m3, x18, g4, h⟩
  · refine cV1 (e_X11_flowOf (d + 4) g4) (cont0 (by decide) (?_ : Ex _ _ 5 _ _ _ _ _)) og_X11_flowOf rfl ml_RX11_114 11 rfl rfl c1 im_X11_flowOf se_X11_flowOf (Nat.le_of_ble_eq_true rfl) dX11_registerAnew_2
    refine x_astore_n (ls2 := [(21, l0), (0, l1), (0, l2), (20, v2), (3, 0)]) dX11_registerAnew_5 rfl (Nat.le_of_ble_eq_true rfl) (Or.inr (by decide)) rfl (?_ : Ex _ _ 6 _ _ _ _ _)
    refine x_aload_n dX11_registerAnew_6 rfl rfl (Or.inr (by decide)) (?_ : Ex _ _ 7 _ _ _ _ _)
    refine x_aload_n dX11_registerAnew_7 rfl rfl (Or.inr (by decide)) (?_ : Ex _ _ 8 _ _ _ _ _)
    refine x_iload_n dX11_registerAnew_8 rfl rfl (?_ : Ex _ _ 9 _ _ _ _ _)
    rcases calX_some h with ⟨v5, m6, g7, h⟩ | ⟨e17, v5, m6, x16, g7, h⟩
    · refine cV2 (e_X11_programOf (d + 3) g7) (cont0 (by decide) (?_ : Ex _ _ 12 _ _ _ _ _)) og_X11_programOf rfl ml_RX11_132 11 rfl rfl c1 im_X11_programOf se_X11_programOf (Nat.le_of_ble_eq_true rfl) dX11_registerAnew_9
      refine x_astore (ls2 := [(21, l0), (0, l1), (0, l2), (20, v2), (15, v5)]) dX11_registerAnew_12 (Nat.le_of_ble_eq_true rfl) (Or.inr (by decide)) rfl (?_ : Ex _ _ 14 _ _ _ _ _)
      refine x_aload_n dX11_registerAnew_14 rfl rfl (Or.inr (by decide)) (?_ : Ex _ _ 15 _ _ _ _ _)
      refine gt_11_4 c1 fl_RX11_36 dX11_registerAnew_15 (?_ : Ex _ _ 18 _ _ _ _ _)
      refine x_aload dX11_registerAnew_18 rfl (Or.inr (by decide)) (?_ : Ex _ _ 20 _ _ _ _ _)
      refine x_aload_n dX11_registerAnew_20 rfl rfl (Or.inr (by decide)) (?_ : Ex _ _ 21 _ _ _ _ _)
      obtain ⟨c8, h⟩ := chk_some h
      refine gt_10_6 c8 fl_RX11_120 dX11_registerAnew_21 (?_ : Ex _ _ 24 _ _ _ _ _)
      obtain ⟨c9, h⟩ := chk_some h
      refine gt_7_0 c9 fl_RX11_144 dX11_registerAnew_24 (?_ : Ex _ _ 27 _ _ _ _ _)
      refine x_aload_n dX11_registerAnew_27 rfl rfl (Or.inr (by decide)) (?_ : Ex _ _ 28 _ _ _ _ _)
      refine gt_10_5 c8 fl_RX11_148 dX11_registerAnew_28 (?_ : Ex _ _ 31 _ _ _ _ _)
      refine x_iconst dX11_registerAnew_31 rfl (by decide) (?_ : Ex _ _ 32 _ _ _ _ _)
      obtain ⟨c10, h⟩ := chk_some h
      obtain ⟨v11, m12, g13, h⟩ := cal_some h
      refine cV4 (e_X4_play d g13) (contN (by decide) (?_ : Ex _ _ 35 _ _ _ _ _)) og_X4_play rfl ml_RX11_151 4 rfl rfl c10 im_X4_play se_X4_play (Nat.le_of_ble_eq_true rfl) dX11_registerAnew_32
      rcases ite_some h with ⟨b14, h⟩ | ⟨b14, h⟩
      · refine x_if_neN dX11_registerAnew_35 (by decide) (fun hh => hh b14) (?_ : Ex _ _ 38 _ _ _ _ _)
        refine x_sipush dX11_registerAnew_38 ks_n2000 (by decide) (?_ : Ex _ _ 41 _ _ _ _ _)
        cases h
        exact y_retX dX11_registerAnew_41 (by decide)
      · refine x_if_ne (tgt := 42) dX11_registerAnew_35 rfl b14 (?_ : Ex _ _ 42 _ _ _ _ _)
        refine x_aload_n dX11_registerAnew_42 rfl rfl (Or.inr (by decide)) (?_ : Ex _ _ 43 _ _ _ _ _)
        refine gt_11_4 c1 fl_RX11_36 dX11_registerAnew_43 (?_ : Ex _ _ 46 _ _ _ _ _)
        obtain ⟨c15, h⟩ := chk_some h
        refine gt_4_2 c15 fl_RX11_298 dX11_registerAnew_46 (?_ : Ex _ _ 49 _ _ _ _ _)
        cases h
        exact y_retX dX11_registerAnew_49 (by decide)
    · cases h
      exact cV2 (e_X11_programOf (d + 3) g7) (contE x16 rfl) og_X11_programOf rfl ml_RX11_132 11 rfl rfl c1 im_X11_programOf se_X11_programOf (Nat.le_of_ble_eq_true rfl) dX11_registerAnew_9
  · cases h
    exact cV1 (e_X11_flowOf (d + 4) g4) (contE x18 rfl) og_X11_flowOf rfl ml_RX11_114 11 rfl rfl c1 im_X11_flowOf se_X11_flowOf (Nat.le_of_ble_eq_true rfl) dX11_registerAnew_2
theorem e_X11_registerAnew (d : Nat) {a0 a1 a2 : Int} {m : Mem} {e v : Int} {m' : Mem} (h : X11_registerAnew a0 a1 a2 m = some (e, v, m')) : ExM (d + 6) fm_X11_registerAnew [(21, a0), (0, a1), (0, a2)] m (rr9 0 e v) m' := by
  exact ExM.of (by decide +kernel) (Nat.le_of_ble_eq_true rfl) (cat9 rfl) retIX (e_X11_registerAnew_0 d h)
theorem dX12_init_0 : decode cX12_init 0 = .ok (.aload_n 0, 1) := by decide +kernel
theorem dX12_init_1 : decode cX12_init 1 = .ok (.invokespecial 1, 3) := by decide +kernel
theorem dX12_init_4 : decode cX12_init 4 = .ok (.aload_n 0, 1) := by decide +kernel
theorem dX12_init_5 : decode cX12_init 5 = .ok (.sipush 180, 3) := by decide +kernel
theorem dX12_init_8 : decode cX12_init 8 = .ok (.newarray .int, 2) := by decide +kernel
theorem dX12_init_10 : decode cX12_init 10 = .ok (.putfield 7, 3) := by decide +kernel
theorem dX12_init_13 : decode cX12_init 13 = .ok (.aload_n 0, 1) := by decide +kernel
theorem dX12_init_14 : decode cX12_init 14 = .ok (.sipush 180, 3) := by decide +kernel
theorem dX12_init_17 : decode cX12_init 17 = .ok (.newarray .int, 2) := by decide +kernel
theorem dX12_init_19 : decode cX12_init 19 = .ok (.putfield 13, 3) := by decide +kernel
theorem dX12_init_22 : decode cX12_init 22 = .ok (.aload_n 0, 1) := by decide +kernel
theorem dX12_init_23 : decode cX12_init 23 = .ok (.sipush 180, 3) := by decide +kernel
theorem dX12_init_26 : decode cX12_init 26 = .ok (.newarray .int, 2) := by decide +kernel
theorem dX12_init_28 : decode cX12_init 28 = .ok (.putfield 16, 3) := by decide +kernel
theorem dX12_init_31 : decode cX12_init 31 = .ok (.aload_n 0, 1) := by decide +kernel
theorem dX12_init_32 : decode cX12_init 32 = .ok (.bipush 15, 2) := by decide +kernel
theorem dX12_init_34 : decode cX12_init 34 = .ok (.newarray .int, 2) := by decide +kernel
theorem dX12_init_36 : decode cX12_init 36 = .ok (.putfield 19, 3) := by decide +kernel
theorem dX12_init_39 : decode cX12_init 39 = .ok (.aload_n 0, 1) := by decide +kernel
theorem dX12_init_40 : decode cX12_init 40 = .ok (.iconst 3, 1) := by decide +kernel
theorem dX12_init_41 : decode cX12_init 41 = .ok (.newarray .int, 2) := by decide +kernel
theorem dX12_init_43 : decode cX12_init 43 = .ok (.putfield 22, 3) := by decide +kernel
theorem dX12_init_46 : decode cX12_init 46 = .ok (.aload_n 0, 1) := by decide +kernel
theorem dX12_init_47 : decode cX12_init 47 = .ok (.bipush 10, 2) := by decide +kernel
theorem dX12_init_49 : decode cX12_init 49 = .ok (.newarray .int, 2) := by decide +kernel
theorem dX12_init_51 : decode cX12_init 51 = .ok (.putfield 25, 3) := by decide +kernel
theorem dX12_init_54 : decode cX12_init 54 = .ok (.aload_n 0, 1) := by decide +kernel
theorem dX12_init_55 : decode cX12_init 55 = .ok (.bipush 10, 2) := by decide +kernel
theorem dX12_init_57 : decode cX12_init 57 = .ok (.newarray .int, 2) := by decide +kernel
theorem dX12_init_59 : decode cX12_init 59 = .ok (.putfield 28, 3) := by decide +kernel
theorem dX12_init_62 : decode cX12_init 62 = .ok (.aload_n 0, 1) := by decide +kernel
theorem dX12_init_63 : decode cX12_init 63 = .ok (.bipush 10, 2) := by decide +kernel
theorem dX12_init_65 : decode cX12_init 65 = .ok (.newarray .int, 2) := by decide +kernel
theorem dX12_init_67 : decode cX12_init 67 = .ok (.putfield 31, 3) := by decide +kernel
theorem dX12_init_70 : decode cX12_init 70 = .ok (.aload_n 0, 1) := by decide +kernel
theorem dX12_init_71 : decode cX12_init 71 = .ok (.bipush 10, 2) := by decide +kernel
theorem dX12_init_73 : decode cX12_init 73 = .ok (.newarray .int, 2) := by decide +kernel
theorem dX12_init_75 : decode cX12_init 75 = .ok (.putfield 34, 3) := by decide +kernel
theorem dX12_init_78 : decode cX12_init 78 = .ok (.aload_n 0, 1) := by decide +kernel
theorem dX12_init_79 : decode cX12_init 79 = .ok (.bipush 10, 2) := by decide +kernel
theorem dX12_init_81 : decode cX12_init 81 = .ok (.newarray .int, 2) := by decide +kernel
theorem dX12_init_83 : decode cX12_init 83 = .ok (.putfield 37, 3) := by decide +kernel
theorem dX12_init_86 : decode cX12_init 86 = .ok (.aload_n 0, 1) := by decide +kernel
theorem dX12_init_87 : decode cX12_init 87 = .ok (.bipush 10, 2) := by decide +kernel
theorem dX12_init_89 : decode cX12_init 89 = .ok (.newarray .int, 2) := by decide +kernel
theorem dX12_init_91 : decode cX12_init 91 = .ok (.putfield 40, 3) := by decide +kernel
theorem dX12_init_94 : decode cX12_init 94 = .ok (.aload_n 0, 1) := by decide +kernel
theorem dX12_init_95 : decode cX12_init 95 = .ok (.bipush 20, 2) := by decide +kernel
theorem dX12_init_97 : decode cX12_init 97 = .ok (.newarray .int, 2) := by decide +kernel
theorem dX12_init_99 : decode cX12_init 99 = .ok (.putfield 43, 3) := by decide +kernel
theorem dX12_init_102 : decode cX12_init 102 = .ok (.aload_n 0, 1) := by decide +kernel
theorem dX12_init_103 : decode cX12_init 103 = .ok (.bipush 10, 2) := by decide +kernel
theorem dX12_init_105 : decode cX12_init 105 = .ok (.newarray .int, 2) := by decide +kernel
theorem dX12_init_107 : decode cX12_init 107 = .ok (.putfield 46, 3) := by decide +kernel
theorem dX12_init_110 : decode cX12_init 110 = .ok (.aload_n 0, 1) := by decide +kernel
theorem dX12_init_111 : decode cX12_init 111 = .ok (.bipush 10, 2) := by decide +kernel
theorem dX12_init_113 : decode cX12_init 113 = .ok (.newarray .int, 2) := by decide +kernel
theorem dX12_init_115 : decode cX12_init 115 = .ok (.putfield 49, 3) := by decide +kernel
theorem dX12_init_118 : decode cX12_init 118 = .ok (.aload_n 0, 1) := by decide +kernel
theorem dX12_init_119 : decode cX12_init 119 = .ok (.bipush 90, 2) := by decide +kernel
theorem dX12_init_121 : decode cX12_init 121 = .ok (.newarray .int, 2) := by decide +kernel
theorem dX12_init_123 : decode cX12_init 123 = .ok (.putfield 52, 3) := by decide +kernel
theorem dX12_init_126 : decode cX12_init 126 = .ok (.aload_n 0, 1) := by decide +kernel
theorem dX12_init_127 : decode cX12_init 127 = .ok (.bipush 90, 2) := by decide +kernel
theorem dX12_init_129 : decode cX12_init 129 = .ok (.newarray .int, 2) := by decide +kernel
theorem dX12_init_131 : decode cX12_init 131 = .ok (.putfield 55, 3) := by decide +kernel
theorem dX12_init_134 : decode cX12_init 134 = .ok (.aload_n 0, 1) := by decide +kernel
theorem dX12_init_135 : decode cX12_init 135 = .ok (.sipush 7200, 3) := by decide +kernel
theorem dX12_init_138 : decode cX12_init 138 = .ok (.newarray .int, 2) := by decide +kernel
theorem dX12_init_140 : decode cX12_init 140 = .ok (.putfield 58, 3) := by decide +kernel
theorem dX12_init_143 : decode cX12_init 143 = .ok (.aload_n 0, 1) := by decide +kernel
theorem dX12_init_144 : decode cX12_init 144 = .ok (.sipush 7200, 3) := by decide +kernel
theorem dX12_init_147 : decode cX12_init 147 = .ok (.newarray .int, 2) := by decide +kernel
theorem dX12_init_149 : decode cX12_init 149 = .ok (.putfield 61, 3) := by decide +kernel
theorem dX12_init_152 : decode cX12_init 152 = .ok (.aload_n 0, 1) := by decide +kernel
theorem dX12_init_153 : decode cX12_init 153 = .ok (.sipush 7200, 3) := by decide +kernel
theorem dX12_init_156 : decode cX12_init 156 = .ok (.newarray .int, 2) := by decide +kernel
theorem dX12_init_158 : decode cX12_init 158 = .ok (.putfield 64, 3) := by decide +kernel
theorem dX12_init_161 : decode cX12_init 161 = .ok (.aload_n 0, 1) := by decide +kernel
theorem dX12_init_162 : decode cX12_init 162 = .ok (.bipush 10, 2) := by decide +kernel
theorem dX12_init_164 : decode cX12_init 164 = .ok (.newarray .int, 2) := by decide +kernel
theorem dX12_init_166 : decode cX12_init 166 = .ok (.putfield 67, 3) := by decide +kernel
theorem dX12_init_169 : decode cX12_init 169 = .ok (.aload_n 0, 1) := by decide +kernel
theorem dX12_init_170 : decode cX12_init 170 = .ok (.sipush 800, 3) := by decide +kernel
theorem dX12_init_173 : decode cX12_init 173 = .ok (.newarray .int, 2) := by decide +kernel
theorem dX12_init_175 : decode cX12_init 175 = .ok (.putfield 70, 3) := by decide +kernel
theorem dX12_init_178 : decode cX12_init 178 = .ok (.aload_n 0, 1) := by decide +kernel
theorem dX12_init_179 : decode cX12_init 179 = .ok (.sipush 800, 3) := by decide +kernel
theorem dX12_init_182 : decode cX12_init 182 = .ok (.newarray .int, 2) := by decide +kernel
theorem dX12_init_184 : decode cX12_init 184 = .ok (.putfield 73, 3) := by decide +kernel
theorem dX12_init_187 : decode cX12_init 187 = .ok (.aload_n 0, 1) := by decide +kernel
theorem dX12_init_188 : decode cX12_init 188 = .ok (.sipush 800, 3) := by decide +kernel
theorem dX12_init_191 : decode cX12_init 191 = .ok (.newarray .int, 2) := by decide +kernel
theorem dX12_init_193 : decode cX12_init 193 = .ok (.putfield 76, 3) := by decide +kernel
theorem dX12_init_196 : decode cX12_init 196 = .ok (.aload_n 0, 1) := by decide +kernel
theorem dX12_init_197 : decode cX12_init 197 = .ok (.sipush 800, 3) := by decide +kernel
theorem dX12_init_200 : decode cX12_init 200 = .ok (.newarray .int, 2) := by decide +kernel
theorem dX12_init_202 : decode cX12_init 202 = .ok (.putfield 79, 3) := by decide +kernel
theorem dX12_init_205 : decode cX12_init 205 = .ok (.aload_n 0, 1) := by decide +kernel
theorem dX12_init_206 : decode cX12_init 206 = .ok (.sipush 800, 3) := by decide +kernel
theorem dX12_init_209 : decode cX12_init 209 = .ok (.newarray .int, 2) := by decide +kernel
theorem dX12_init_211 : decode cX12_init 211 = .ok (.putfield 82, 3) := by decide +kernel
theorem dX12_init_214 : decode cX12_init 214 = .ok (.aload_n 0, 1) := by decide +kernel
theorem dX12_init_215 : decode cX12_init 215 = .ok (.sipush 800, 3) := by decide +kernel
theorem dX12_init_218 : decode cX12_init 218 = .ok (.newarray .int, 2) := by decide +kernel
theorem dX12_init_220 : decode cX12_init 220 = .ok (.putfield 85, 3) := by decide +kernel
theorem dX12_init_223 : decode cX12_init 223 = .ok (.aload_n 0, 1) := by decide +kernel
theorem dX12_init_224 : decode cX12_init 224 = .ok (.bipush 10, 2) := by decide +kernel
theorem dX12_init_226 : decode cX12_init 226 = .ok (.newarray .int, 2) := by decide +kernel
theorem dX12_init_228 : decode cX12_init 228 = .ok (.putfield 88, 3) := by decide +kernel
theorem dX12_init_231 : decode cX12_init 231 = .ok (.aload_n 0, 1) := by decide +kernel
theorem dX12_init_232 : decode cX12_init 232 = .ok (.sipush 800, 3) := by decide +kernel
theorem dX12_init_235 : decode cX12_init 235 = .ok (.newarray .int, 2) := by decide +kernel
theorem dX12_init_237 : decode cX12_init 237 = .ok (.putfield 91, 3) := by decide +kernel
theorem dX12_init_240 : decode cX12_init 240 = .ok (.aload_n 0, 1) := by decide +kernel
theorem dX12_init_241 : decode cX12_init 241 = .ok (.bipush 10, 2) := by decide +kernel
theorem dX12_init_243 : decode cX12_init 243 = .ok (.newarray .int, 2) := by decide +kernel
theorem dX12_init_245 : decode cX12_init 245 = .ok (.putfield 94, 3) := by decide +kernel
theorem dX12_init_248 : decode cX12_init 248 = .ok (.aload_n 0, 1) := by decide +kernel
theorem dX12_init_249 : decode cX12_init 249 = .ok (.sipush 800, 3) := by decide +kernel
theorem dX12_init_252 : decode cX12_init 252 = .ok (.newarray .int, 2) := by decide +kernel
theorem dX12_init_254 : decode cX12_init 254 = .ok (.putfield 97, 3) := by decide +kernel
theorem dX12_init_257 : decode cX12_init 257 = .ok (.aload_n 0, 1) := by decide +kernel
theorem dX12_init_258 : decode cX12_init 258 = .ok (.sipush 800, 3) := by decide +kernel
theorem dX12_init_261 : decode cX12_init 261 = .ok (.newarray .int, 2) := by decide +kernel
theorem dX12_init_263 : decode cX12_init 263 = .ok (.putfield 100, 3) := by decide +kernel
theorem dX12_init_266 : decode cX12_init 266 = .ok (.aload_n 0, 1) := by decide +kernel
theorem dX12_init_267 : decode cX12_init 267 = .ok (.iconst 2, 1) := by decide +kernel
theorem dX12_init_268 : decode cX12_init 268 = .ok (.newarray .int, 2) := by decide +kernel
theorem dX12_init_270 : decode cX12_init 270 = .ok (.putfield 103, 3) := by decide +kernel
theorem dX12_init_273 : decode cX12_init 273 = .ok (.aload_n 0, 1) := by decide +kernel
theorem dX12_init_274 : decode cX12_init 274 = .ok (.iconst 2, 1) := by decide +kernel
theorem dX12_init_275 : decode cX12_init 275 = .ok (.newarray .int, 2) := by decide +kernel
theorem dX12_init_277 : decode cX12_init 277 = .ok (.putfield 106, 3) := by decide +kernel
theorem dX12_init_280 : decode cX12_init 280 = .ok (.aload_n 0, 1) := by decide +kernel
theorem dX12_init_281 : decode cX12_init 281 = .ok (.bipush 6, 2) := by decide +kernel
theorem dX12_init_283 : decode cX12_init 283 = .ok (.newarray .int, 2) := by decide +kernel
theorem dX12_init_285 : decode cX12_init 285 = .ok (.putfield 109, 3) := by decide +kernel
theorem dX12_init_288 : decode cX12_init 288 = .ok (.aload_n 0, 1) := by decide +kernel
theorem dX12_init_289 : decode cX12_init 289 = .ok (.iconst 4, 1) := by decide +kernel
theorem dX12_init_290 : decode cX12_init 290 = .ok (.newarray .boolean, 2) := by decide +kernel
theorem dX12_init_292 : decode cX12_init 292 = .ok (.putfield 112, 3) := by decide +kernel
theorem dX12_init_295 : decode cX12_init 295 = .ok (.aload_n 0, 1) := by decide +kernel
theorem dX12_init_296 : decode cX12_init 296 = .ok (.iconst 4, 1) := by decide +kernel
theorem dX12_init_297 : decode cX12_init 297 = .ok (.newarray .int, 2) := by decide +kernel
theorem dX12_init_299 : decode cX12_init 299 = .ok (.putfield 116, 3) := by decide +kernel
theorem dX12_init_302 : decode cX12_init 302 = .ok (.aload_n 0, 1) := by decide +kernel
theorem dX12_init_303 : decode cX12_init 303 = .ok (.iconst 3, 1) := by decide +kernel
theorem dX12_init_304 : decode cX12_init 304 = .ok (.newarray .int, 2) := by decide +kernel
theorem dX12_init_306 : decode cX12_init 306 = .ok (.putfield 119, 3) := by decide +kernel
theorem dX12_init_309 : decode cX12_init 309 = .ok (.aload_n 0, 1) := by decide +kernel
theorem dX12_init_310 : decode cX12_init 310 = .ok (.iconst 3, 1) := by decide +kernel
theorem dX12_init_311 : decode cX12_init 311 = .ok (.newarray .int, 2) := by decide +kernel
theorem dX12_init_313 : decode cX12_init 313 = .ok (.putfield 122, 3) := by decide +kernel
theorem dX12_init_316 : decode cX12_init 316 = .ok (.aload_n 0, 1) := by decide +kernel
theorem dX12_init_317 : decode cX12_init 317 = .ok (.iconst 3, 1) := by decide +kernel
theorem dX12_init_318 : decode cX12_init 318 = .ok (.newarray .int, 2) := by decide +kernel
theorem dX12_init_320 : decode cX12_init 320 = .ok (.putfield 125, 3) := by decide +kernel
theorem dX12_init_323 : decode cX12_init 323 = .ok (.aload_n 0, 1) := by decide +kernel
theorem dX12_init_324 : decode cX12_init 324 = .ok (.iconst 3, 1) := by decide +kernel
theorem dX12_init_325 : decode cX12_init 325 = .ok (.newarray .int, 2) := by decide +kernel
theorem dX12_init_327 : decode cX12_init 327 = .ok (.putfield 128, 3) := by decide +kernel
theorem dX12_init_330 : decode cX12_init 330 = .ok (.aload_n 0, 1) := by decide +kernel
theorem dX12_init_331 : decode cX12_init 331 = .ok (.iconst 3, 1) := by decide +kernel
theorem dX12_init_332 : decode cX12_init 332 = .ok (.newarray .boolean, 2) := by decide +kernel
theorem dX12_init_334 : decode cX12_init 334 = .ok (.putfield 131, 3) := by decide +kernel
theorem dX12_init_337 : decode cX12_init 337 = .ok (.aload_n 0, 1) := by decide +kernel
theorem dX12_init_338 : decode cX12_init 338 = .ok (.iconst 3, 1) := by decide +kernel
theorem dX12_init_339 : decode cX12_init 339 = .ok (.newarray .boolean, 2) := by decide +kernel
theorem dX12_init_341 : decode cX12_init 341 = .ok (.putfield 134, 3) := by decide +kernel
theorem dX12_init_344 : decode cX12_init 344 = .ok (.aload_n 0, 1) := by decide +kernel
theorem dX12_init_345 : decode cX12_init 345 = .ok (.iconst 3, 1) := by decide +kernel
theorem dX12_init_346 : decode cX12_init 346 = .ok (.newarray .int, 2) := by decide +kernel
theorem dX12_init_348 : decode cX12_init 348 = .ok (.putfield 137, 3) := by decide +kernel
theorem dX12_init_351 : decode cX12_init 351 = .ok (.aload_n 0, 1) := by decide +kernel
theorem dX12_init_352 : decode cX12_init 352 = .ok (.iconst 3, 1) := by decide +kernel
theorem dX12_init_353 : decode cX12_init 353 = .ok (.newarray .boolean, 2) := by decide +kernel
theorem dX12_init_355 : decode cX12_init 355 = .ok (.putfield 140, 3) := by decide +kernel
theorem dX12_init_358 : decode cX12_init 358 = .ok (.aload_n 0, 1) := by decide +kernel
theorem dX12_init_359 : decode cX12_init 359 = .ok (.bipush 80, 2) := by decide +kernel
theorem dX12_init_361 : decode cX12_init 361 = .ok (.newarray .int, 2) := by decide +kernel
theorem dX12_init_363 : decode cX12_init 363 = .ok (.putfield 143, 3) := by decide +kernel
theorem dX12_init_366 : decode cX12_init 366 = .ok (.aload_n 0, 1) := by decide +kernel
theorem dX12_init_367 : decode cX12_init 367 = .ok (.bipush 80, 2) := by decide +kernel
theorem dX12_init_369 : decode cX12_init 369 = .ok (.newarray .int, 2) := by decide +kernel
theorem dX12_init_371 : decode cX12_init 371 = .ok (.putfield 146, 3) := by decide +kernel
theorem dX12_init_374 : decode cX12_init 374 = .ok (.aload_n 0, 1) := by decide +kernel
theorem dX12_init_375 : decode cX12_init 375 = .ok (.bipush 80, 2) := by decide +kernel
theorem dX12_init_377 : decode cX12_init 377 = .ok (.newarray .boolean, 2) := by decide +kernel
theorem dX12_init_379 : decode cX12_init 379 = .ok (.putfield 149, 3) := by decide +kernel
theorem dX12_init_382 : decode cX12_init 382 = .ok (.aload_n 0, 1) := by decide +kernel
theorem dX12_init_383 : decode cX12_init 383 = .ok (.sipush 5200, 3) := by decide +kernel
theorem dX12_init_386 : decode cX12_init 386 = .ok (.newarray .int, 2) := by decide +kernel
theorem dX12_init_388 : decode cX12_init 388 = .ok (.putfield 152, 3) := by decide +kernel
theorem dX12_init_391 : decode cX12_init 391 = .ok (.aload_n 0, 1) := by decide +kernel
theorem dX12_init_392 : decode cX12_init 392 = .ok (.sipush 5200, 3) := by decide +kernel
theorem dX12_init_395 : decode cX12_init 395 = .ok (.newarray .int, 2) := by decide +kernel
theorem dX12_init_397 : decode cX12_init 397 = .ok (.putfield 155, 3) := by decide +kernel
theorem dX12_init_400 : decode cX12_init 400 = .ok (.aload_n 0, 1) := by decide +kernel
theorem dX12_init_401 : decode cX12_init 401 = .ok (.sipush 5200, 3) := by decide +kernel
theorem dX12_init_404 : decode cX12_init 404 = .ok (.newarray .int, 2) := by decide +kernel
theorem dX12_init_406 : decode cX12_init 406 = .ok (.putfield 158, 3) := by decide +kernel
theorem dX12_init_409 : decode cX12_init 409 = .ok (.aload_n 0, 1) := by decide +kernel
theorem dX12_init_410 : decode cX12_init 410 = .ok (.sipush 5200, 3) := by decide +kernel
theorem dX12_init_413 : decode cX12_init 413 = .ok (.newarray .int, 2) := by decide +kernel
theorem dX12_init_415 : decode cX12_init 415 = .ok (.putfield 161, 3) := by decide +kernel
theorem dX12_init_418 : decode cX12_init 418 = .ok (.aload_n 0, 1) := by decide +kernel
theorem dX12_init_419 : decode cX12_init 419 = .ok (.sipush 5200, 3) := by decide +kernel
theorem dX12_init_422 : decode cX12_init 422 = .ok (.newarray .int, 2) := by decide +kernel
theorem dX12_init_424 : decode cX12_init 424 = .ok (.putfield 164, 3) := by decide +kernel
theorem dX12_init_427 : decode cX12_init 427 = .ok (.aload_n 0, 1) := by decide +kernel
theorem dX12_init_428 : decode cX12_init 428 = .ok (.sipush 5200, 3) := by decide +kernel
theorem dX12_init_431 : decode cX12_init 431 = .ok (.newarray .int, 2) := by decide +kernel
theorem dX12_init_433 : decode cX12_init 433 = .ok (.putfield 167, 3) := by decide +kernel
theorem dX12_init_436 : decode cX12_init 436 = .ok (.aload_n 0, 1) := by decide +kernel
theorem dX12_init_437 : decode cX12_init 437 = .ok (.bipush 16, 2) := by decide +kernel
theorem dX12_init_439 : decode cX12_init 439 = .ok (.newarray .int, 2) := by decide +kernel
theorem dX12_init_441 : decode cX12_init 441 = .ok (.putfield 170, 3) := by decide +kernel
theorem dX12_init_444 : decode cX12_init 444 = .ok (.iconst 0, 1) := by decide +kernel
theorem dX12_init_445 : decode cX12_init 445 = .ok (.istore_n 1, 1) := by decide +kernel
theorem dX12_init_446 : decode cX12_init 446 = .ok (.iload_n 1, 1) := by decide +kernel
theorem dX12_init_447 : decode cX12_init 447 = .ok (.iconst 2, 1) := by decide +kernel
theorem dX12_init_448 : decode cX12_init 448 = .ok (.if_icmp .ge 17, 3) := by decide +kernel
theorem dX12_init_451 : decode cX12_init 451 = .ok (.aload_n 0, 1) := by decide +kernel
theorem dX12_init_452 : decode cX12_init 452 = .ok (.getfield 103, 3) := by decide +kernel
theorem dX12_init_455 : decode cX12_init 455 = .ok (.iload_n 1, 1) := by decide +kernel
theorem dX12_init_456 : decode cX12_init 456 = .ok (.bipush 9, 2) := by decide +kernel
theorem dX12_init_458 : decode cX12_init 458 = .ok (.iastore, 1) := by decide +kernel
theorem dX12_init_459 : decode cX12_init 459 = .ok (.iinc 1 1, 3) := by decide +kernel
theorem dX12_init_462 : decode cX12_init 462 = .ok (.goto (-16), 3) := by decide +kernel
theorem dX12_init_465 : decode cX12_init 465 = .ok (.iconst 0, 1) := by decide +kernel
theorem dX12_init_466 : decode cX12_init 466 = .ok (.istore_n 1, 1) := by decide +kernel
theorem dX12_init_467 : decode cX12_init 467 = .ok (.iload_n 1, 1) := by decide +kernel
theorem dX12_init_468 : decode cX12_init 468 = .ok (.iconst 4, 1) := by decide +kernel
theorem dX12_init_469 : decode cX12_init 469 = .ok (.if_icmp .ge 23, 3) := by decide +kernel
theorem dX12_init_472 : decode cX12_init 472 = .ok (.aload_n 0, 1) := by decide +kernel
theorem dX12_init_473 : decode cX12_init 473 = .ok (.getfield 112, 3) := by decide +kernel
theorem dX12_init_476 : decode cX12_init 476 = .ok (.iload_n 1, 1) := by decide +kernel
theorem dX12_init_477 : decode cX12_init 477 = .ok (.iconst 1, 1) := by decide +kernel
theorem dX12_init_478 : decode cX12_init 478 = .ok (.bastore, 1) := by decide +kernel
theorem dX12_init_479 : decode cX12_init 479 = .ok (.aload_n 0, 1) := by decide +kernel
theorem dX12_init_480 : decode cX12_init 480 = .ok (.getfield 116, 3) := by decide +kernel
theorem dX12_init_483 : decode cX12_init 483 = .ok (.iload_n 1, 1) := by decide +kernel
theorem dX12_init_484 : decode cX12_init 484 = .ok (.iconst (-1), 1) := by decide +kernel
theorem dX12_init_485 : decode cX12_init 485 = .ok (.iastore, 1) := by decide +kernel
theorem dX12_init_486 : decode cX12_init 486 = .ok (.iinc 1 1, 3) := by decide +kernel
theorem dX12_init_489 : decode cX12_init 489 = .ok (.goto (-22), 3) := by decide +kernel
theorem dX12_init_492 : decode cX12_init 492 = .ok (.return_, 1) := by decide +kernel
theorem e_X12_init_467 (d : Nat) : ∀ (n : Nat) {l0 l1 : Int} {m : Mem} {v : Int} {m' : Mem}, X12_init_467 n l0 l1 m = some (v, m') → Ex d fm_X12_init 467 [(22, l0), (0, l1)] [] m (.inl (3, 0)) m' := by
  intro n
  induction n with
  | zero =>
    intro l0 l1 m v m' h
    have h : (none : Option R2) = some _ := h
    cases h
  | succ n ih =>
    intro l0 l1 m v m' h
    rw [X12_init_467] at h
    refine x_iload_n dX12_init_467 rfl rfl (?_ : Ex _ _ 468 _ _ _ _ _)
    refine x_iconst dX12_init_468 rfl (by decide) (?_ : Ex _ _ 469 _ _ _ _ _)
    rcases ite_some h with ⟨b1, h⟩ | ⟨b1, h⟩
    · refine x_icmp_ge (tgt := 492) dX12_init_469 rfl b1 (?_ : Ex _ _ 492 _ _ _ _ _)
      cases h
      exact x_retv dX12_init_492
    · refine x_icmp_geN dX12_init_469 (by decide) b1 (?_ : Ex _ _ 472 _ _ _ _ _)
      refine x_aload_n dX12_init_472 rfl rfl (Or.inr (by decide)) (?_ : Ex _ _ 473 _ _ _ _ _)
      obtain ⟨c2, h⟩ := chk_some h
      refine gt_12_38 c2 fl_RX12_112 dX12_init_473 (?_ : Ex _ _ 476 _ _ _ _ _)
      refine x_iload_n dX12_init_476 rfl rfl (?_ : Ex _ _ 477 _ _ _ _ _)
      refine x_iconst dX12_init_477 rfl (by decide) (?_ : Ex _ _ 478 _ _ _ _ _)
      obtain ⟨⟨c3, c4, c5⟩, h⟩ := chk_some h
      obtain ⟨m6, hm6, h⟩ := st_some h
      refine sd_b_4 c3 c4 c5 (by decide) dX12_init_478 (?_ : Ex _ _ 479 _ _ _ _ _)
      rw [← hm6]
      refine x_aload_n dX12_init_479 rfl rfl (Or.inr (by decide)) (?_ : Ex _ _ 480 _ _ _ _ _)
      refine gt_12_39 c2 fl_RX12_116 dX12_init_480 (?_ : Ex _ _ 483 _ _ _ _ _)
      refine x_iload_n dX12_init_483 rfl rfl (?_ : Ex _ _ 484 _ _ _ _ _)
      refine x_iconst dX12_init_484 rfl (by decide) (?_ : Ex _ _ 485 _ _ _ _ _)
      obtain ⟨⟨c7, c8, c9⟩, h⟩ := chk_some h
      obtain ⟨m10, hm10, h⟩ := st_some h
      refine sd_i_4 c7 c8 c9 dX12_init_485 (?_ : Ex _ _ 486 _ _ _ _ _)
      rw [← hm10]
      obtain ⟨c11, h⟩ := chk_some h
      refine x_iinc (ls2 := [(22, l0), (0, (l1 + 1))]) dX12_init_486 rfl c11 rfl (?_ : Ex _ _ 489 _ _ _ _ _)
      refine x_goto (tgt := 467) dX12_init_489 rfl (?_ : Ex _ _ 467 _ _ _ _ _)
      exact ih h
theorem e_X12_init_446 (d : Nat) {k467 : Int → Int → Mem → Option R2} (hk467 : ∀ {l0 l1 : Int} {m : Mem} {v : Int} {m' : Mem}, k467 l0 l1 m = some (v, m') → Ex d fm_X12_init 467 [(22, l0), (0, l1)] [] m (.inl (3, 0)) m') : ∀ (n : Nat) {l0 l1 : Int} {m : Mem} {v : Int} {m' : Mem}, X12_init_446 k467 n l0 l1 m = some (v, m') → Ex d fm_X12_init 446 [(22, l0), (0, l1)] [] m (.inl (3, 0)) m' := by
  intro n
  induction n with
  | zero =>
    intro l0 l1 m v m' h
    have h : (none : Option R2) = some _ := h
    cases h
  | succ n ih =>
    intro l0 l1 m v m' h
    rw [X12_init_446] at h
    refine x_iload_n dX12_init_446 rfl rfl (?_ : Ex _ _ 447 _ _ _ _ _)
    refine x_iconst dX12_init_447 rfl (by decide) (?_ : Ex _ _ 448 _ _ _ _ _)
    rcases ite_some h with ⟨b1, h⟩ | ⟨b1, h⟩
    · refine x_icmp_ge (tgt := 465) dX12_init_448 rfl b1 (?_ : Ex _ _ 465 _ _ _ _ _)
      refine x_iconst dX12_init_465 rfl (by decide) (?_ : Ex _ _ 466 _ _ _ _ _)
      refine x_istore_n (ls2 := [(22, l0), (0, 0)]) dX12_init_466 rfl (Nat.le_of_ble_eq_true rfl) rfl (?_ : Ex _ _ 467 _ _ _ _ _)
      exact hk467 h
    · refine x_icmp_geN dX12_init_448 (by decide) b1 (?_ : Ex _ _ 451 _ _ _ _ _)
      refine x_aload_n dX12_init_451 rfl rfl (Or.inr (by decide)) (?_ : Ex _ _ 452 _ _ _ _ _)
      obtain ⟨c2, h⟩ := chk_some h
      refine gt_12_35 c2 fl_RX12_103 dX12_init_452 (?_ : Ex _ _ 455 _ _ _ _ _)
      refine x_iload_n dX12_init_455 rfl rfl (?_ : Ex _ _ 456 _ _ _ _ _)
      refine x_bipush dX12_init_456 kb_9 (by decide) (?_ : Ex _ _ 458 _ _ _ _ _)
      obtain ⟨⟨c3, c4, c5⟩, h⟩ := chk_some h
      obtain ⟨m6, hm6, h⟩ := st_some h
      refine sd_i_2 c3 c4 c5 dX12_init_458 (?_ : Ex _ _ 459 _ _ _ _ _)
      rw [← hm6]
      obtain ⟨c7, h⟩ := chk_some h
      refine x_iinc (ls2 := [(22, l0), (0, (l1 + 1))]) dX12_init_459 rfl c7 rfl (?_ : Ex _ _ 462 _ _ _ _ _)
      refine x_goto (tgt := 446) dX12_init_462 rfl (?_ : Ex _ _ 446 _ _ _ _ _)
      exact ih h
theorem e_X12_init_0 (d : Nat) {l0 : Int} {m : Mem} {v : Int} {m' : Mem} (h : X12_init_0 l0 m = some (v, m')) : Ex d fm_X12_init 0 [(22, l0), (3, 0)] [] m (.inl (3, 0)) m' := by
  unfold X12_init_0 at h
  refine x_aload_n dX12_init_0 rfl rfl (Or.inr (by decide)) (?_ : Ex _ _ 1 _ _ _ _ _)
  obtain ⟨c1, h⟩ := chk_some h
  refine x_objInit (by decide) c1 oi_RX12_1 oi_a oi_b (Nat.le_of_ble_eq_true rfl) dX12_init_1 (?_ : Ex _ _ 4 _ _ _ _ _)
  refine x_aload_n dX12_init_4 rfl rfl (Or.inr (by decide)) (?_ : Ex _ _ 5 _ _ _ _ _)
  refine x_sipush dX12_init_5 ks_180 (by decide) (?_ : Ex _ _ 8 _ _ _ _ _)
  obtain ⟨i2, hi2, h⟩ := vl_some h
  obtain ⟨⟨c3, c4⟩, h⟩ := chk_some h
  obtain ⟨m5, hm5, h⟩ := st_some h
  refine na_i_180 c3 c4 dX12_init_8 (?_ : Ex _ _ 10 _ _ _ _ _)
  rw [← hm5]
  obtain ⟨m6, hm6, h⟩ := st_some h
  refine pt_12_2 rfl rfl c1 fl_RX12_7 dX12_init_10 (?_ : Ex _ _ 13 _ _ _ _ _)
  rw [← hm6]
  refine x_aload_n dX12_init_13 rfl rfl (Or.inr (by decide)) (?_ : Ex _ _ 14 _ _ _ _ _)
  refine x_sipush dX12_init_14 ks_180 (by decide) (?_ : Ex _ _ 17 _ _ _ _ _)
  obtain ⟨i7, hi7, h⟩ := vl_some h
  obtain ⟨⟨c8, c9⟩, h⟩ := chk_some h
  obtain ⟨m10, hm10, h⟩ := st_some h
  refine na_i_180 c8 c9 dX12_init_17 (?_ : Ex _ _ 19 _ _ _ _ _)
  rw [← hm10]
  obtain ⟨m11, hm11, h⟩ := st_some h
  refine pt_12_3 rfl rfl c1 fl_RX12_13 dX12_init_19 (?_ : Ex _ _ 22 _ _ _ _ _)
  rw [← hm11]
  refine x_aload_n dX12_init_22 rfl rfl (Or.inr (by decide)) (?_ : Ex _ _ 23 _ _ _ _ _)
  refine x_sipush dX12_init_23 ks_180 (by decide) (?_ : Ex _ _ 26 _ _ _ _ _)
  obtain ⟨i12, hi12, h⟩ := vl_some h
  obtain ⟨⟨c13, c14⟩, h⟩ := chk_some h
  obtain ⟨m15, hm15, h⟩ := st_some h
  refine na_i_180 c13 c14 dX12_init_26 (?_ : Ex _ _ 28 _ _ _ _ _)
  rw [← hm15]
  obtain ⟨m16, hm16, h⟩ := st_some h
  refine pt_12_4 rfl rfl c1 fl_RX12_16 dX12_init_28 (?_ : Ex _ _ 31 _ _ _ _ _)
  rw [← hm16]
  refine x_aload_n dX12_init_31 rfl rfl (Or.inr (by decide)) (?_ : Ex _ _ 32 _ _ _ _ _)
  refine x_bipush dX12_init_32 kb_15 (by decide) (?_ : Ex _ _ 34 _ _ _ _ _)
  obtain ⟨i17, hi17, h⟩ := vl_some h
  obtain ⟨⟨c18, c19⟩, h⟩ := chk_some h
  obtain ⟨m20, hm20, h⟩ := st_some h
  refine na_i_15 c18 c19 dX12_init_34 (?_ : Ex _ _ 36 _ _ _ _ _)
  rw [← hm20]
  obtain ⟨m21, hm21, h⟩ := st_some h
  refine pt_12_5 rfl rfl c1 fl_RX12_19 dX12_init_36 (?_ : Ex _ _ 39 _ _ _ _ _)
  rw [← hm21]
  refine x_aload_n dX12_init_39 rfl rfl (Or.inr (by decide)) (?_ : Ex _ _ 40 _ _ _ _ _)
  refine x_iconst dX12_init_40 rfl (by decide) (?_ : Ex _ _ 41 _ _ _ _ _)
  obtain ⟨i22, hi22, h⟩ := vl_some h
  obtain ⟨⟨c23, c24⟩, h⟩ := chk_some h
  obtain ⟨m25, hm25, h⟩ := st_some h
  refine na_i_3 c23 c24 dX12_init_41 (?_ : Ex _ _ 43 _ _ _ _ _)
  rw [← hm25]
  obtain ⟨m26, hm26, h⟩ := st_some h
  refine pt_12_6 rfl rfl c1 fl_RX12_22 dX12_init_43 (?_ : Ex _ _ 46 _ _ _ _ _)
  rw [← hm26]
  refine x_aload_n dX12_init_46 rfl rfl (Or.inr (by decide)) (?_ : Ex _ _ 47 _ _ _ _ _)
  refine x_bipush dX12_init_47 kb_10 (by decide) (?_ : Ex _ _ 49 _ _ _ _ _)
  obtain ⟨i27, hi27, h⟩ := vl_some h
  obtain ⟨⟨c28, c29⟩, h⟩ := chk_some h
  obtain ⟨m30, hm30, h⟩ := st_some h
  refine na_i_10 c28 c29 dX12_init_49 (?_ : Ex _ _ 51 _ _ _ _ _)
  rw [← hm30]
  obtain ⟨m31, hm31, h⟩ := st_some h
  refine pt_12_7 rfl rfl c1 fl_RX12_25 dX12_init_51 (?_ : Ex _ _ 54 _ _ _ _ _)
  rw [← hm31]
  refine x_aload_n dX12_init_54 rfl rfl (Or.inr (by decide)) (?_ : Ex _ _ 55 _ _ _ _ _)
  refine x_bipush dX12_init_55 kb_10 (by decide) (?_ : Ex _ _ 57 _ _ _ _ _)
  obtain ⟨i32, hi32, h⟩ := vl_some h
  obtain ⟨⟨c33, c34⟩, h⟩ := chk_some h
  obtain ⟨m35, hm35, h⟩ := st_some h
  refine na_i_10 c33 c34 dX12_init_57 (?_ : Ex _ _ 59 _ _ _ _ _)
  rw [← hm35]
  obtain ⟨m36, hm36, h⟩ := st_some h
  refine pt_12_8 rfl rfl c1 fl_RX12_28 dX12_init_59 (?_ : Ex _ _ 62 _ _ _ _ _)
  rw [← hm36]
  refine x_aload_n dX12_init_62 rfl rfl (Or.inr (by decide)) (?_ : Ex _ _ 63 _ _ _ _ _)
  refine x_bipush dX12_init_63 kb_10 (by decide) (?_ : Ex _ _ 65 _ _ _ _ _)
  obtain ⟨i37, hi37, h⟩ := vl_some h
  obtain ⟨⟨c38, c39⟩, h⟩ := chk_some h
  obtain ⟨m40, hm40, h⟩ := st_some h
  refine na_i_10 c38 c39 dX12_init_65 (?_ : Ex _ _ 67 _ _ _ _ _)
  rw [← hm40]
  obtain ⟨m41, hm41, h⟩ := st_some h
  refine pt_12_9 rfl rfl c1 fl_RX12_31 dX12_init_67 (?_ : Ex _ _ 70 _ _ _ _ _)
  rw [← hm41]
  refine x_aload_n dX12_init_70 rfl rfl (Or.inr (by decide)) (?_ : Ex _ _ 71 _ _ _ _ _)
  refine x_bipush dX12_init_71 kb_10 (by decide) (?_ : Ex _ _ 73 _ _ _ _ _)
  obtain ⟨i42, hi42, h⟩ := vl_some h
  obtain ⟨⟨c43, c44⟩, h⟩ := chk_some h
  obtain ⟨m45, hm45, h⟩ := st_some h
  refine na_i_10 c43 c44 dX12_init_73 (?_ : Ex _ _ 75 _ _ _ _ _)
  rw [← hm45]
  obtain ⟨m46, hm46, h⟩ := st_some h
  refine pt_12_10 rfl rfl c1 fl_RX12_34 dX12_init_75 (?_ : Ex _ _ 78 _ _ _ _ _)
  rw [← hm46]
  refine x_aload_n dX12_init_78 rfl rfl (Or.inr (by decide)) (?_ : Ex _ _ 79 _ _ _ _ _)
  refine x_bipush dX12_init_79 kb_10 (by decide) (?_ : Ex _ _ 81 _ _ _ _ _)
  obtain ⟨i47, hi47, h⟩ := vl_some h
  obtain ⟨⟨c48, c49⟩, h⟩ := chk_some h
  obtain ⟨m50, hm50, h⟩ := st_some h
  refine na_i_10 c48 c49 dX12_init_81 (?_ : Ex _ _ 83 _ _ _ _ _)
  rw [← hm50]
  obtain ⟨m51, hm51, h⟩ := st_some h
  refine pt_12_11 rfl rfl c1 fl_RX12_37 dX12_init_83 (?_ : Ex _ _ 86 _ _ _ _ _)
  rw [← hm51]
  refine x_aload_n dX12_init_86 rfl rfl (Or.inr (by decide)) (?_ : Ex _ _ 87 _ _ _ _ _)
  refine x_bipush dX12_init_87 kb_10 (by decide) (?_ : Ex _ _ 89 _ _ _ _ _)
  obtain ⟨i52, hi52, h⟩ := vl_some h
  obtain ⟨⟨c53, c54⟩, h⟩ := chk_some h
  obtain ⟨m55, hm55, h⟩ := st_some h
  refine na_i_10 c53 c54 dX12_init_89 (?_ : Ex _ _ 91 _ _ _ _ _)
  rw [← hm55]
  obtain ⟨m56, hm56, h⟩ := st_some h
  refine pt_12_12 rfl rfl c1 fl_RX12_40 dX12_init_91 (?_ : Ex _ _ 94 _ _ _ _ _)
  rw [← hm56]
  refine x_aload_n dX12_init_94 rfl rfl (Or.inr (by decide)) (?_ : Ex _ _ 95 _ _ _ _ _)
  refine x_bipush dX12_init_95 kb_20 (by decide) (?_ : Ex _ _ 97 _ _ _ _ _)
  obtain ⟨i57, hi57, h⟩ := vl_some h
  obtain ⟨⟨c58, c59⟩, h⟩ := chk_some h
  obtain ⟨m60, hm60, h⟩ := st_some h
  refine na_i_20 c58 c59 dX12_init_97 (?_ : Ex _ _ 99 _ _ _ _ _)
  rw [← hm60]
  obtain ⟨m61, hm61, h⟩ := st_some h
  refine pt_12_13 rfl rfl c1 fl_RX12_43 dX12_init_99 (?_ : Ex _ _ 102 _ _ _ _ _)
  rw [← hm61]
  refine x_aload_n dX12_init_102 rfl rfl (Or.inr (by decide)) (?_ : Ex _ _ 103 _ _ _ _ _)
  refine x_bipush dX12_init_103 kb_10 (by decide) (?_ : Ex _ _ 105 _ _ _ _ _)
  obtain ⟨i62, hi62, h⟩ := vl_some h
  obtain ⟨⟨c63, c64⟩, h⟩ := chk_some h
  obtain ⟨m65, hm65, h⟩ := st_some h
  refine na_i_10 c63 c64 dX12_init_105 (?_ : Ex _ _ 107 _ _ _ _ _)
  rw [← hm65]
  obtain ⟨m66, hm66, h⟩ := st_some h
  refine pt_12_14 rfl rfl c1 fl_RX12_46 dX12_init_107 (?_ : Ex _ _ 110 _ _ _ _ _)
  rw [← hm66]
  refine x_aload_n dX12_init_110 rfl rfl (Or.inr (by decide)) (?_ : Ex _ _ 111 _ _ _ _ _)
  refine x_bipush dX12_init_111 kb_10 (by decide) (?_ : Ex _ _ 113 _ _ _ _ _)
  obtain ⟨i67, hi67, h⟩ := vl_some h
  obtain ⟨⟨c68, c69⟩, h⟩ := chk_some h
  obtain ⟨m70, hm70, h⟩ := st_some h
  refine na_i_10 c68 c69 dX12_init_113 (?_ : Ex _ _ 115 _ _ _ _ _)
  rw [← hm70]
  obtain ⟨m71, hm71, h⟩ := st_some h
  refine pt_12_15 rfl rfl c1 fl_RX12_49 dX12_init_115 (?_ : Ex _ _ 118 _ _ _ _ _)
  rw [← hm71]
  refine x_aload_n dX12_init_118 rfl rfl (Or.inr (by decide)) (?_ : Ex _ _ 119 _ _ _ _ _)
  refine x_bipush dX12_init_119 kb_90 (by decide) (?_ : Ex _ _ 121 _ _ _ _ _)
  obtain ⟨i72, hi72, h⟩ := vl_some h
  obtain ⟨⟨c73, c74⟩, h⟩ := chk_some h
  obtain ⟨m75, hm75, h⟩ := st_some h
  refine na_i_90 c73 c74 dX12_init_121 (?_ : Ex _ _ 123 _ _ _ _ _)
  rw [← hm75]
  obtain ⟨m76, hm76, h⟩ := st_some h
  refine pt_12_17 rfl rfl c1 fl_RX12_52 dX12_init_123 (?_ : Ex _ _ 126 _ _ _ _ _)
  rw [← hm76]
  refine x_aload_n dX12_init_126 rfl rfl (Or.inr (by decide)) (?_ : Ex _ _ 127 _ _ _ _ _)
  refine x_bipush dX12_init_127 kb_90 (by decide) (?_ : Ex _ _ 129 _ _ _ _ _)
  obtain ⟨i77, hi77, h⟩ := vl_some h
  obtain ⟨⟨c78, c79⟩, h⟩ := chk_some h
  obtain ⟨m80, hm80, h⟩ := st_some h
  refine na_i_90 c78 c79 dX12_init_129 (?_ : Ex _ _ 131 _ _ _ _ _)
  rw [← hm80]
  obtain ⟨m81, hm81, h⟩ := st_some h
  refine pt_12_18 rfl rfl c1 fl_RX12_55 dX12_init_131 (?_ : Ex _ _ 134 _ _ _ _ _)
  rw [← hm81]
  refine x_aload_n dX12_init_134 rfl rfl (Or.inr (by decide)) (?_ : Ex _ _ 135 _ _ _ _ _)
  refine x_sipush dX12_init_135 ks_7200 (by decide) (?_ : Ex _ _ 138 _ _ _ _ _)
  obtain ⟨i82, hi82, h⟩ := vl_some h
  obtain ⟨⟨c83, c84⟩, h⟩ := chk_some h
  obtain ⟨m85, hm85, h⟩ := st_some h
  refine na_i_7200 c83 c84 dX12_init_138 (?_ : Ex _ _ 140 _ _ _ _ _)
  rw [← hm85]
  obtain ⟨m86, hm86, h⟩ := st_some h
  refine pt_12_19 rfl rfl c1 fl_RX12_58 dX12_init_140 (?_ : Ex _ _ 143 _ _ _ _ _)
  rw [← hm86]
  refine x_aload_n dX12_init_143 rfl rfl (Or.inr (by decide)) (?_ : Ex _ _ 144 _ _ _ _ _)
  refine x_sipush dX12_init_144 ks_7200 (by decide) (?_ : Ex _ _ 147 _ _ _ _ _)
  obtain ⟨i87, hi87, h⟩ := vl_some h
  obtain ⟨⟨c88, c89⟩, h⟩ := chk_some h
  obtain ⟨m90, hm90, h⟩ := st_some h
  refine na_i_7200 c88 c89 dX12_init_147 (?_ : Ex _ _ 149 _ _ _ _ _)
  rw [← hm90]
  obtain ⟨m91, hm91, h⟩ := st_some h
  refine pt_12_20 rfl rfl c1 fl_RX12_61 dX12_init_149 (?_ : Ex _ _ 152 _ _ _ _ _)
  rw [← hm91]
  refine x_aload_n dX12_init_152 rfl rfl (Or.inr (by decide)) (?_ : Ex _ _ 153 _ _ _ _ _)
  refine x_sipush dX12_init_153 ks_7200 (by decide) (?_ : Ex _ _ 156 _ _ _ _ _)
  obtain ⟨i92, hi92, h⟩ := vl_some h
  obtain ⟨⟨c93, c94⟩, h⟩ := chk_some h
  obtain ⟨m95, hm95, h⟩ := st_some h
  refine na_i_7200 c93 c94 dX12_init_156 (?_ : Ex _ _ 158 _ _ _ _ _)
  rw [← hm95]
  obtain ⟨m96, hm96, h⟩ := st_some h
  refine pt_12_21 rfl rfl c1 fl_RX12_64 dX12_init_158 (?_ : Ex _ _ 161 _ _ _ _ _)
  rw [← hm96]
  refine x_aload_n dX12_init_161 rfl rfl (Or.inr (by decide)) (?_ : Ex _ _ 162 _ _ _ _ _)
  refine x_bipush dX12_init_162 kb_10 (by decide) (?_ : Ex _ _ 164 _ _ _ _ _)
  obtain ⟨i97, hi97, h⟩ := vl_some h
  obtain ⟨⟨c98, c99⟩, h⟩ := chk_some h
  obtain ⟨m100, hm100, h⟩ := st_some h
  refine na_i_10 c98 c99 dX12_init_164 (?_ : Ex _ _ 166 _ _ _ _ _)
  rw [← hm100]
  obtain ⟨m101, hm101, h⟩ := st_some h
  refine pt_12_22 rfl rfl c1 fl_RX12_67 dX12_init_166 (?_ : Ex _ _ 169 _ _ _ _ _)
  rw [← hm101]
  refine x_aload_n dX12_init_169 rfl rfl (Or.inr (by decide)) (?_ : Ex _ _ 170 _ _ _ _ _)
  refine x_sipush dX12_init_170 ks_800 (by decide) (?_ : Ex _ _ 173 _ _ _ _ _)
  obtain ⟨i102, hi102, h⟩ := vl_some h
  obtain ⟨⟨c103, c104⟩, h⟩ := chk_some h
  obtain ⟨m105, hm105, h⟩ := st_some h
  refine na_i_800 c103 c104 dX12_init_173 (?_ : Ex _ _ 175 _ _ _ _ _)
  rw [← hm105]
  obtain ⟨m106, hm106, h⟩ := st_some h
  refine pt_12_23 rfl rfl c1 fl_RX12_70 dX12_init_175 (?_ : Ex _ _ 178 _ _ _ _ _)
  rw [← hm106]
  refine x_aload_n dX12_init_178 rfl rfl (Or.inr (by decide)) (?_ : Ex _ _ 179 _ _ _ _ _)
  refine x_sipush dX12_init_179 ks_800 (by decide) (?_ : Ex _ _ 182 _ _ _ _ _)
  obtain ⟨i107, hi107, h⟩ := vl_some h
  obtain ⟨⟨c108, c109⟩, h⟩ := chk_some h
  obtain ⟨m110, hm110, h⟩ := st_some h
  refine na_i_800 c108 c109 dX12_init_182 (?_ : Ex _ _ 184 _ _ _ _ _)
  rw [← hm110]
  obtain ⟨m111, hm111, h⟩ := st_some h
  refine pt_12_24 rfl rfl c1 fl_RX12_73 dX12_init_184 (?_ : Ex _ _ 187 _ _ _ _ _)
  rw [← hm111]
  refine x_aload_n dX12_init_187 rfl rfl (Or.inr (by decide)) (?_ : Ex _ _ 188 _ _ _ _ _)
  refine x_sipush dX12_init_188 ks_800 (by decide) (?_ : Ex _ _ 191 _ _ _ _ _)
  obtain ⟨i112, hi112, h⟩ := vl_some h
  obtain ⟨⟨c113, c114⟩, h⟩ := chk_some h
  obtain ⟨m115, hm115, h⟩ := st_some h
  refine na_i_800 c113 c114 dX12_init_191 (?_ : Ex _ _ 193 _ _ _ _ _)
  rw [← hm115]
  obtain ⟨m116, hm116, h⟩ := st_some h
  refine pt_12_25 rfl rfl c1 fl_RX12_76 dX12_init_193 (?_ : Ex _ _ 196 _ _ _ _ _)
  rw [← hm116]
  refine x_aload_n dX12_init_196 rfl rfl (Or.inr (by decide)) (?_ : Ex _ _ 197 _ _ _ _ _)
  refine x_sipush dX12_init_197 ks_800 (by decide) (?_ : Ex _ _ 200 _ _ _ _ _)
  obtain ⟨i117, hi117, h⟩ := vl_some h
  obtain ⟨⟨c118, c119⟩, h⟩ := chk_some h
  obtain ⟨m120, hm120, h⟩ := st_some h
  refine na_i_800 c118 c119 dX12_init_200 (?_ : Ex _ _ 202 _ _ _ _ _)
  rw [← hm120]
  obtain ⟨m121, hm121, h⟩ := st_some h
  refine pt_12_26 rfl rfl c1 fl_RX12_79 dX12_init_202 (?_ : Ex _ _ 205 _ _ _ _ _)
  rw [← hm121]
  refine x_aload_n dX12_init_205 rfl rfl (Or.inr (by decide)) (?_ : Ex _ _ 206 _ _ _ _ _)
  refine x_sipush dX12_init_206 ks_800 (by decide) (?_ : Ex _ _ 209 _ _ _ _ _)
  obtain ⟨i122, hi122, h⟩ := vl_some h
  obtain ⟨⟨c123, c124⟩, h⟩ := chk_some h
  obtain ⟨m125, hm125, h⟩ := st_some h
  refine na_i_800 c123 c124 dX12_init_209 (?_ : Ex _ _ 211 _ _ _ _ _)
  rw [← hm125]
  obtain ⟨m126, hm126, h⟩ := st_some h
  refine pt_12_27 rfl rfl c1 fl_RX12_82 dX12_init_211 (?_ : Ex _ _ 214 _ _ _ _ _)
  rw [← hm126]
  refine x_aload_n dX12_init_214 rfl rfl (Or.inr (by decide)) (?_ : Ex _ _ 215 _ _ _ _ _)
  refine x_sipush dX12_init_215 ks_800 (by decide) (?_ : Ex _ _ 218 _ _ _ _ _)
  obtain ⟨i127, hi127, h⟩ := vl_some h
  obtain ⟨⟨c128, c129⟩, h⟩ := chk_some h
  obtain ⟨m130, hm130, h⟩ := st_some h
  refine na_i_800 c128 c129 dX12_init_218 (?_ : Ex _ _ 220 _ _ _ _ _)
  rw [← hm130]
  obtain ⟨m131, hm131, h⟩ := st_some h
  refine pt_12_28 rfl rfl c1 fl_RX12_85 dX12_init_220 (?_ : Ex _ _ 223 _ _ _ _ _)
  rw [← hm131]
  refine x_aload_n dX12_init_223 rfl rfl (Or.inr (by decide)) (?_ : Ex _ _ 224 _ _ _ _ _)
  refine x_bipush dX12_init_224 kb_10 (by decide) (?_ : Ex _ _ 226 _ _ _ _ _)
  obtain ⟨i132, hi132, h⟩ := vl_some h
  obtain ⟨⟨c133, c134⟩, h⟩ := chk_some h
  obtain ⟨m135, hm135, h⟩ := st_some h
  refine na_i_10 c133 c134 dX12_init_226 (?_ : Ex _ _ 228 _ _ _ _ _)
  rw [← hm135]
  obtain ⟨m136, hm136, h⟩ := st_some h
  refine pt_12_30 rfl rfl c1 fl_RX12_88 dX12_init_228 (?_ : Ex _ _ 231 _ _ _ _ _)
  rw [← hm136]
  refine x_aload_n dX12_init_231 rfl rfl (Or.inr (by decide)) (?_ : Ex _ _ 232 _ _ _ _ _)
  refine x_sipush dX12_init_232 ks_800 (by decide) (?_ : Ex _ _ 235 _ _ _ _ _)
  obtain ⟨i137, hi137, h⟩ := vl_some h
  obtain ⟨⟨c138, c139⟩, h⟩ := chk_some h
  obtain ⟨m140, hm140, h⟩ := st_some h
  refine na_i_800 c138 c139 dX12_init_235 (?_ : Ex _ _ 237 _ _ _ _ _)
  rw [← hm140]
  obtain ⟨m141, hm141, h⟩ := st_some h
  refine pt_12_31 rfl rfl c1 fl_RX12_91 dX12_init_237 (?_ : Ex _ _ 240 _ _ _ _ _)
  rw [← hm141]
  refine x_aload_n dX12_init_240 rfl rfl (Or.inr (by decide)) (?_ : Ex _ _ 241 _ _ _ _ _)
  refine x_bipush dX12_init_241 kb_10 (by decide) (?_ : Ex _ _ 243 _ _ _ _ _)
  obtain ⟨i142, hi142, h⟩ := vl_some h
  obtain ⟨⟨c143, c144⟩, h⟩ := chk_some h
  obtain ⟨m145, hm145, h⟩ := st_some h
  refine na_i_10 c143 c144 dX12_init_243 (?_ : Ex _ _ 245 _ _ _ _ _)
  rw [← hm145]
  obtain ⟨m146, hm146, h⟩ := st_some h
  refine pt_12_32 rfl rfl c1 fl_RX12_94 dX12_init_245 (?_ : Ex _ _ 248 _ _ _ _ _)
  rw [← hm146]
  refine x_aload_n dX12_init_248 rfl rfl (Or.inr (by decide)) (?_ : Ex _ _ 249 _ _ _ _ _)
  refine x_sipush dX12_init_249 ks_800 (by decide) (?_ : Ex _ _ 252 _ _ _ _ _)
  obtain ⟨i147, hi147, h⟩ := vl_some h
  obtain ⟨⟨c148, c149⟩, h⟩ := chk_some h
  obtain ⟨m150, hm150, h⟩ := st_some h
  refine na_i_800 c148 c149 dX12_init_252 (?_ : Ex _ _ 254 _ _ _ _ _)
  rw [← hm150]
  obtain ⟨m151, hm151, h⟩ := st_some h
  refine pt_12_33 rfl rfl c1 fl_RX12_97 dX12_init_254 (?_ : Ex _ _ 257 _ _ _ _ _)
  rw [← hm151]
  refine x_aload_n dX12_init_257 rfl rfl (Or.inr (by decide)) (?_ : Ex _ _ 258 _ _ _ _ _)
  refine x_sipush dX12_init_258 ks_800 (by decide) (?_ : Ex _ _ 261 _ _ _ _ _)
  obtain ⟨i152, hi152, h⟩ := vl_some h
  obtain ⟨⟨c153, c154⟩, h⟩ := chk_some h
  obtain ⟨m155, hm155, h⟩ := st_some h
  refine na_i_800 c153 c154 dX12_init_261 (?_ : Ex _ _ 263 _ _ _ _ _)
  rw [← hm155]
  obtain ⟨m156, hm156, h⟩ := st_some h
  refine pt_12_34 rfl rfl c1 fl_RX12_100 dX12_init_263 (?_ : Ex _ _ 266 _ _ _ _ _)
  rw [← hm156]
  refine x_aload_n dX12_init_266 rfl rfl (Or.inr (by decide)) (?_ : Ex _ _ 267 _ _ _ _ _)
  refine x_iconst dX12_init_267 rfl (by decide) (?_ : Ex _ _ 268 _ _ _ _ _)
  obtain ⟨i157, hi157, h⟩ := vl_some h
  obtain ⟨⟨c158, c159⟩, h⟩ := chk_some h
  obtain ⟨m160, hm160, h⟩ := st_some h
  refine na_i_2 c158 c159 dX12_init_268 (?_ : Ex _ _ 270 _ _ _ _ _)
  rw [← hm160]
  obtain ⟨m161, hm161, h⟩ := st_some h
  refine pt_12_35 rfl rfl c1 fl_RX12_103 dX12_init_270 (?_ : Ex _ _ 273 _ _ _ _ _)
  rw [← hm161]
  refine x_aload_n dX12_init_273 rfl rfl (Or.inr (by decide)) (?_ : Ex _ _ 274 _ _ _ _ _)
  refine x_iconst dX12_init_274 rfl (by decide) (?_ : Ex _ _ 275 _ _ _ _ _)
  obtain ⟨i162, hi162, h⟩ := vl_some h
  obtain ⟨⟨c163, c164⟩, h⟩ := chk_some h
  obtain ⟨m165, hm165, h⟩ := st_some h
  refine na_i_2 c163 c164 dX12_init_275 (?_ : Ex _ _ 277 _ _ _ _ _)
  rw [← hm165]
  obtain ⟨m166, hm166, h⟩ := st_some h
  refine pt_12_36 rfl rfl c1 fl_RX12_106 dX12_init_277 (?_ : Ex _ _ 280 _ _ _ _ _)
  rw [← hm166]
  refine x_aload_n dX12_init_280 rfl rfl (Or.inr (by decide)) (?_ : Ex _ _ 281 _ _ _ _ _)
  refine x_bipush dX12_init_281 kb_6 (by decide) (?_ : Ex _ _ 283 _ _ _ _ _)
  obtain ⟨i167, hi167, h⟩ := vl_some h
  obtain ⟨⟨c168, c169⟩, h⟩ := chk_some h
  obtain ⟨m170, hm170, h⟩ := st_some h
  refine na_i_6 c168 c169 dX12_init_283 (?_ : Ex _ _ 285 _ _ _ _ _)
  rw [← hm170]
  obtain ⟨m171, hm171, h⟩ := st_some h
  refine pt_12_37 rfl rfl c1 fl_RX12_109 dX12_init_285 (?_ : Ex _ _ 288 _ _ _ _ _)
  rw [← hm171]
  refine x_aload_n dX12_init_288 rfl rfl (Or.inr (by decide)) (?_ : Ex _ _ 289 _ _ _ _ _)
  refine x_iconst dX12_init_289 rfl (by decide) (?_ : Ex _ _ 290 _ _ _ _ _)
  obtain ⟨i172, hi172, h⟩ := vl_some h
  obtain ⟨⟨c173, c174⟩, h⟩ := chk_some h
  obtain ⟨m175, hm175, h⟩ := st_some h
  refine na_b_4 c173 c174 dX12_init_290 (?_ : Ex _ _ 292 _ _ _ _ _)
  rw [← hm175]
  obtain ⟨m176, hm176, h⟩ := st_some h
  refine pt_12_38 rfl rfl c1 fl_RX12_112 dX12_init_292 (?_ : Ex _ _ 295 _ _ _ _ _)
  rw [← hm176]
  refine x_aload_n dX12_init_295 rfl rfl (Or.inr (by decide)) (?_ : Ex _ _ 296 _ _ _ _ _)
  refine x_iconst dX12_init_296 rfl (by decide) (?_ : Ex _ _ 297 _ _ _ _ _)
  obtain ⟨i177, hi177, h⟩ := vl_some h
  obtain ⟨⟨c178, c179⟩, h⟩ := chk_some h
  obtain ⟨m180, hm180, h⟩ := st_some h
  refine na_i_4 c178 c179 dX12_init_297 (?_ : Ex _ _ 299 _ _ _ _ _)
  rw [← hm180]
  obtain ⟨m181, hm181, h⟩ := st_some h
  refine pt_12_39 rfl rfl c1 fl_RX12_116 dX12_init_299 (?_ : Ex _ _ 302 _ _ _ _ _)
  rw [← hm181]
  refine x_aload_n dX12_init_302 rfl rfl (Or.inr (by decide)) (?_ : Ex _ _ 303 _ _ _ _ _)
  refine x_iconst dX12_init_303 rfl (by decide) (?_ : Ex _ _ 304 _ _ _ _ _)
  obtain ⟨i182, hi182, h⟩ := vl_some h
  obtain ⟨⟨c183, c184⟩, h⟩ := chk_some h
  obtain ⟨m185, hm185, h⟩ := st_some h
  refine na_i_3 c183 c184 dX12_init_304 (?_ : Ex _ _ 306 _ _ _ _ _)
  rw [← hm185]
  obtain ⟨m186, hm186, h⟩ := st_some h
  refine pt_12_56 rfl rfl c1 fl_RX12_119 dX12_init_306 (?_ : Ex _ _ 309 _ _ _ _ _)
  rw [← hm186]
  refine x_aload_n dX12_init_309 rfl rfl (Or.inr (by decide)) (?_ : Ex _ _ 310 _ _ _ _ _)
  refine x_iconst dX12_init_310 rfl (by decide) (?_ : Ex _ _ 311 _ _ _ _ _)
  obtain ⟨i187, hi187, h⟩ := vl_some h
  obtain ⟨⟨c188, c189⟩, h⟩ := chk_some h
  obtain ⟨m190, hm190, h⟩ := st_some h
  refine na_i_3 c188 c189 dX12_init_311 (?_ : Ex _ _ 313 _ _ _ _ _)
  rw [← hm190]
  obtain ⟨m191, hm191, h⟩ := st_some h
  refine pt_12_57 rfl rfl c1 fl_RX12_122 dX12_init_313 (?_ : Ex _ _ 316 _ _ _ _ _)
  rw [← hm191]
  refine x_aload_n dX12_init_316 rfl rfl (Or.inr (by decide)) (?_ : Ex _ _ 317 _ _ _ _ _)
  refine x_iconst dX12_init_317 rfl (by decide) (?_ : Ex _ _ 318 _ _ _ _ _)
  obtain ⟨i192, hi192, h⟩ := vl_some h
  obtain ⟨⟨c193, c194⟩, h⟩ := chk_some h
  obtain ⟨m195, hm195, h⟩ := st_some h
  refine na_i_3 c193 c194 dX12_init_318 (?_ : Ex _ _ 320 _ _ _ _ _)
  rw [← hm195]
  obtain ⟨m196, hm196, h⟩ := st_some h
  refine pt_12_58 rfl rfl c1 fl_RX12_125 dX12_init_320 (?_ : Ex _ _ 323 _ _ _ _ _)
  rw [← hm196]
  refine x_aload_n dX12_init_323 rfl rfl (Or.inr (by decide)) (?_ : Ex _ _ 324 _ _ _ _ _)
  refine x_iconst dX12_init_324 rfl (by decide) (?_ : Ex _ _ 325 _ _ _ _ _)
  obtain ⟨i197, hi197, h⟩ := vl_some h
  obtain ⟨⟨c198, c199⟩, h⟩ := chk_some h
  obtain ⟨m200, hm200, h⟩ := st_some h
  refine na_i_3 c198 c199 dX12_init_325 (?_ : Ex _ _ 327 _ _ _ _ _)
  rw [← hm200]
  obtain ⟨m201, hm201, h⟩ := st_some h
  refine pt_12_59 rfl rfl c1 fl_RX12_128 dX12_init_327 (?_ : Ex _ _ 330 _ _ _ _ _)
  rw [← hm201]
  refine x_aload_n dX12_init_330 rfl rfl (Or.inr (by decide)) (?_ : Ex _ _ 331 _ _ _ _ _)
  refine x_iconst dX12_init_331 rfl (by decide) (?_ : Ex _ _ 332 _ _ _ _ _)
  obtain ⟨i202, hi202, h⟩ := vl_some h
  obtain ⟨⟨c203, c204⟩, h⟩ := chk_some h
  obtain ⟨m205, hm205, h⟩ := st_some h
  refine na_b_3 c203 c204 dX12_init_332 (?_ : Ex _ _ 334 _ _ _ _ _)
  rw [← hm205]
  obtain ⟨m206, hm206, h⟩ := st_some h
  refine pt_12_60 rfl rfl c1 fl_RX12_131 dX12_init_334 (?_ : Ex _ _ 337 _ _ _ _ _)
  rw [← hm206]
  refine x_aload_n dX12_init_337 rfl rfl (Or.inr (by decide)) (?_ : Ex _ _ 338 _ _ _ _ _)
  refine x_iconst dX12_init_338 rfl (by decide) (?_ : Ex _ _ 339 _ _ _ _ _)
  obtain ⟨i207, hi207, h⟩ := vl_some h
  obtain ⟨⟨c208, c209⟩, h⟩ := chk_some h
  obtain ⟨m210, hm210, h⟩ := st_some h
  refine na_b_3 c208 c209 dX12_init_339 (?_ : Ex _ _ 341 _ _ _ _ _)
  rw [← hm210]
  obtain ⟨m211, hm211, h⟩ := st_some h
  refine pt_12_61 rfl rfl c1 fl_RX12_134 dX12_init_341 (?_ : Ex _ _ 344 _ _ _ _ _)
  rw [← hm211]
  refine x_aload_n dX12_init_344 rfl rfl (Or.inr (by decide)) (?_ : Ex _ _ 345 _ _ _ _ _)
  refine x_iconst dX12_init_345 rfl (by decide) (?_ : Ex _ _ 346 _ _ _ _ _)
  obtain ⟨i212, hi212, h⟩ := vl_some h
  obtain ⟨⟨c213, c214⟩, h⟩ := chk_some h
  obtain ⟨m215, hm215, h⟩ := st_some h
  refine na_i_3 c213 c214 dX12_init_346 (?_ : Ex _ _ 348 _ _ _ _ _)
  rw [← hm215]
  obtain ⟨m216, hm216, h⟩ := st_some h
  refine pt_12_62 rfl rfl c1 fl_RX12_137 dX12_init_348 (?_ : Ex _ _ 351 _ _ _ _ _)
  rw [← hm216]
  refine x_aload_n dX12_init_351 rfl rfl (Or.inr (by decide)) (?_ : Ex _ _ 352 _ _ _ _ _)
  refine x_iconst dX12_init_352 rfl (by decide) (?_ : Ex _ _ 353 _ _ _ _ _)
  obtain ⟨i217, hi217, h⟩ := vl_some h
  obtain ⟨⟨c218, c219⟩, h⟩ := chk_some h
  obtain ⟨m220, hm220, h⟩ := st_some h
  refine na_b_3 c218 c219 dX12_init_353 (?_ : Ex _ _ 355 _ _ _ _ _)
  rw [← hm220]
  obtain ⟨m221, hm221, h⟩ := st_some h
  refine pt_12_63 rfl rfl c1 fl_RX12_140 dX12_init_355 (?_ : Ex _ _ 358 _ _ _ _ _)
  rw [← hm221]
  refine x_aload_n dX12_init_358 rfl rfl (Or.inr (by decide)) (?_ : Ex _ _ 359 _ _ _ _ _)
  refine x_bipush dX12_init_359 kb_80 (by decide) (?_ : Ex _ _ 361 _ _ _ _ _)
  obtain ⟨i222, hi222, h⟩ := vl_some h
  obtain ⟨⟨c223, c224⟩, h⟩ := chk_some h
  obtain ⟨m225, hm225, h⟩ := st_some h
  refine na_i_80 c223 c224 dX12_init_361 (?_ : Ex _ _ 363 _ _ _ _ _)
  rw [← hm225]
  obtain ⟨m226, hm226, h⟩ := st_some h
  refine pt_12_65 rfl rfl c1 fl_RX12_143 dX12_init_363 (?_ : Ex _ _ 366 _ _ _ _ _)
  rw [← hm226]
  refine x_aload_n dX12_init_366 rfl rfl (Or.inr (by decide)) (?_ : Ex _ _ 367 _ _ _ _ _)
  refine x_bipush dX12_init_367 kb_80 (by decide) (?_ : Ex _ _ 369 _ _ _ _ _)
  obtain ⟨i227, hi227, h⟩ := vl_some h
  obtain ⟨⟨c228, c229⟩, h⟩ := chk_some h
  obtain ⟨m230, hm230, h⟩ := st_some h
  refine na_i_80 c228 c229 dX12_init_369 (?_ : Ex _ _ 371 _ _ _ _ _)
  rw [← hm230]
  obtain ⟨m231, hm231, h⟩ := st_some h
  refine pt_12_66 rfl rfl c1 fl_RX12_146 dX12_init_371 (?_ : Ex _ _ 374 _ _ _ _ _)
  rw [← hm231]
  refine x_aload_n dX12_init_374 rfl rfl (Or.inr (by decide)) (?_ : Ex _ _ 375 _ _ _ _ _)
  refine x_bipush dX12_init_375 kb_80 (by decide) (?_ : Ex _ _ 377 _ _ _ _ _)
  obtain ⟨i232, hi232, h⟩ := vl_some h
  obtain ⟨⟨c233, c234⟩, h⟩ := chk_some h
  obtain ⟨m235, hm235, h⟩ := st_some h
  refine na_b_80 c233 c234 dX12_init_377 (?_ : Ex _ _ 379 _ _ _ _ _)
  rw [← hm235]
  obtain ⟨m236, hm236, h⟩ := st_some h
  refine pt_12_67 rfl rfl c1 fl_RX12_149 dX12_init_379 (?_ : Ex _ _ 382 _ _ _ _ _)
  rw [← hm236]
  refine x_aload_n dX12_init_382 rfl rfl (Or.inr (by decide)) (?_ : Ex _ _ 383 _ _ _ _ _)
  refine x_sipush dX12_init_383 ks_5200 (by decide) (?_ : Ex _ _ 386 _ _ _ _ _)
  obtain ⟨i237, hi237, h⟩ := vl_some h
  obtain ⟨⟨c238, c239⟩, h⟩ := chk_some h
  obtain ⟨m240, hm240, h⟩ := st_some h
  refine na_i_5200 c238 c239 dX12_init_386 (?_ : Ex _ _ 388 _ _ _ _ _)
  rw [← hm240]
  obtain ⟨m241, hm241, h⟩ := st_some h
  refine pt_12_69 rfl rfl c1 fl_RX12_152 dX12_init_388 (?_ : Ex _ _ 391 _ _ _ _ _)
  rw [← hm241]
  refine x_aload_n dX12_init_391 rfl rfl (Or.inr (by decide)) (?_ : Ex _ _ 392 _ _ _ _ _)
  refine x_sipush dX12_init_392 ks_5200 (by decide) (?_ : Ex _ _ 395 _ _ _ _ _)
  obtain ⟨i242, hi242, h⟩ := vl_some h
  obtain ⟨⟨c243, c244⟩, h⟩ := chk_some h
  obtain ⟨m245, hm245, h⟩ := st_some h
  refine na_i_5200 c243 c244 dX12_init_395 (?_ : Ex _ _ 397 _ _ _ _ _)
  rw [← hm245]
  obtain ⟨m246, hm246, h⟩ := st_some h
  refine pt_12_70 rfl rfl c1 fl_RX12_155 dX12_init_397 (?_ : Ex _ _ 400 _ _ _ _ _)
  rw [← hm246]
  refine x_aload_n dX12_init_400 rfl rfl (Or.inr (by decide)) (?_ : Ex _ _ 401 _ _ _ _ _)
  refine x_sipush dX12_init_401 ks_5200 (by decide) (?_ : Ex _ _ 404 _ _ _ _ _)
  obtain ⟨i247, hi247, h⟩ := vl_some h
  obtain ⟨⟨c248, c249⟩, h⟩ := chk_some h
  obtain ⟨m250, hm250, h⟩ := st_some h
  refine na_i_5200 c248 c249 dX12_init_404 (?_ : Ex _ _ 406 _ _ _ _ _)
  rw [← hm250]
  obtain ⟨m251, hm251, h⟩ := st_some h
  refine pt_12_72 rfl rfl c1 fl_RX12_158 dX12_init_406 (?_ : Ex _ _ 409 _ _ _ _ _)
  rw [← hm251]
  refine x_aload_n dX12_init_409 rfl rfl (Or.inr (by decide)) (?_ : Ex _ _ 410 _ _ _ _ _)
  refine x_sipush dX12_init_410 ks_5200 (by decide) (?_ : Ex _ _ 413 _ _ _ _ _)
  obtain ⟨i252, hi252, h⟩ := vl_some h
  obtain ⟨⟨c253, c254⟩, h⟩ := chk_some h
  obtain ⟨m255, hm255, h⟩ := st_some h
  refine na_i_5200 c253 c254 dX12_init_413 (?_ : Ex _ _ 415 _ _ _ _ _)
  rw [← hm255]
  obtain ⟨m256, hm256, h⟩ := st_some h
  refine pt_12_73 rfl rfl c1 fl_RX12_161 dX12_init_415 (?_ : Ex _ _ 418 _ _ _ _ _)
  rw [← hm256]
  refine x_aload_n dX12_init_418 rfl rfl (Or.inr (by decide)) (?_ : Ex _ _ 419 _ _ _ _ _)
  refine x_sipush dX12_init_419 ks_5200 (by decide) (?_ : Ex _ _ 422 _ _ _ _ _)
  obtain ⟨i257, hi257, h⟩ := vl_some h
  obtain ⟨⟨c258, c259⟩, h⟩ := chk_some h
  obtain ⟨m260, hm260, h⟩ := st_some h
  refine na_i_5200 c258 c259 dX12_init_422 (?_ : Ex _ _ 424 _ _ _ _ _)
  rw [← hm260]
  obtain ⟨m261, hm261, h⟩ := st_some h
  refine pt_12_74 rfl rfl c1 fl_RX12_164 dX12_init_424 (?_ : Ex _ _ 427 _ _ _ _ _)
  rw [← hm261]
  refine x_aload_n dX12_init_427 rfl rfl (Or.inr (by decide)) (?_ : Ex _ _ 428 _ _ _ _ _)
  refine x_sipush dX12_init_428 ks_5200 (by decide) (?_ : Ex _ _ 431 _ _ _ _ _)
  obtain ⟨i262, hi262, h⟩ := vl_some h
  obtain ⟨⟨c263, c264⟩, h⟩ := chk_some h
  obtain ⟨m265, hm265, h⟩ := st_some h
  refine na_i_5200 c263 c264 dX12_init_431 (?_ : Ex _ _ 433 _ _ _ _ _)
  rw [← hm265]
  obtain ⟨m266, hm266, h⟩ := st_some h
  refine pt_12_75 rfl rfl c1 fl_RX12_167 dX12_init_433 (?_ : Ex _ _ 436 _ _ _ _ _)
  rw [← hm266]
  refine x_aload_n dX12_init_436 rfl rfl (Or.inr (by decide)) (?_ : Ex _ _ 437 _ _ _ _ _)
  refine x_bipush dX12_init_437 kb_16 (by decide) (?_ : Ex _ _ 439 _ _ _ _ _)
  obtain ⟨i267, hi267, h⟩ := vl_some h
  obtain ⟨⟨c268, c269⟩, h⟩ := chk_some h
  obtain ⟨m270, hm270, h⟩ := st_some h
  refine na_i_16 c268 c269 dX12_init_439 (?_ : Ex _ _ 441 _ _ _ _ _)
  rw [← hm270]
  obtain ⟨m271, hm271, h⟩ := st_some h
  refine pt_12_81 rfl rfl c1 fl_RX12_170 dX12_init_441 (?_ : Ex _ _ 444 _ _ _ _ _)
  rw [← hm271]
  refine x_iconst dX12_init_444 rfl (by decide) (?_ : Ex _ _ 445 _ _ _ _ _)
  refine x_istore_n (ls2 := [(22, l0), (0, 0)]) dX12_init_445 rfl (Nat.le_of_ble_eq_true rfl) rfl (?_ : Ex _ _ 446 _ _ _ _ _)
  exact e_X12_init_446 d (fun h => e_X12_init_467 d fuel9 h) fuel9 h
theorem e_X12_init (d : Nat) {a0 : Int} {m : Mem} {v : Int} {m' : Mem} (h : X12_init a0 m = some (v, m')) : ExM d fm_X12_init [(22, a0)] m (.inl (3, 0)) m' := by
  exact ExM.of (by decide +kernel) (Nat.le_of_ble_eq_true rfl) (cat9 rfl) retV (e_X12_init_0 d h)
theorem dX12_thrown_0 : decode cX12_thrown 0 = .ok (.aload_n 0, 1) := by decide +kernel
theorem dX12_thrown_1 : decode cX12_thrown 1 = .ok (.getfield 173, 3) := by decide +kernel
theorem dX12_thrown_4 : decode cX12_thrown 4 = .ok (.ireturn, 1) := by decide +kernel
theorem e_X12_thrown_0 (d : Nat) {l0 : Int} {m : Mem} {v : Int} {m' : Mem} (h : X12_thrown_0 l0 m = some (v, m')) : Ex d fm_X12_thrown 0 [(22, l0)] [] m (.inl (0, v)) m' := by
  unfold X12_thrown_0 at h
  refine x_aload_n dX12_thrown_0 rfl rfl (Or.inr (by decide)) (?_ : Ex _ _ 1 _ _ _ _ _)
  obtain ⟨c1, h⟩ := chk_some h
  refine gt_12_0 c1 fl_RX12_173 dX12_thrown_1 (?_ : Ex _ _ 4 _ _ _ _ _)
  cases h
  exact x_ret dX12_thrown_4 (by decide : (0 : Int) ≠ 3)
theorem e_X12_thrown (d : Nat) {a0 : Int} {m : Mem} {v : Int} {m' : Mem} (h : X12_thrown a0 m = some (v, m')) : ExM d fm_X12_thrown [(22, a0)] m (.inl (0, v)) m' := by
  exact ExM.of (by decide +kernel) (Nat.le_of_ble_eq_true rfl) (cat9 rfl) retI (e_X12_thrown_0 d h)
theorem dX12_isFine_0 : decode cX12_isFine 0 = .ok (.aload_n 0, 1) := by decide +kernel
theorem dX12_isFine_1 : decode cX12_isFine 1 = .ok (.iload_n 1, 1) := by decide +kernel
theorem dX12_isFine_2 : decode cX12_isFine 2 = .ok (.putfield 173, 3) := by decide +kernel
theorem dX12_isFine_5 : decode cX12_isFine 5 = .ok (.iload_n 1, 1) := by decide +kernel
theorem dX12_isFine_6 : decode cX12_isFine 6 = .ok (.ifCond .ne 7, 3) := by decide +kernel
theorem dX12_isFine_9 : decode cX12_isFine 9 = .ok (.iconst 1, 1) := by decide +kernel
theorem dX12_isFine_10 : decode cX12_isFine 10 = .ok (.goto 4, 3) := by decide +kernel
theorem dX12_isFine_13 : decode cX12_isFine 13 = .ok (.iconst 0, 1) := by decide +kernel
theorem dX12_isFine_14 : decode cX12_isFine 14 = .ok (.ireturn, 1) := by decide +kernel
theorem e_X12_isFine_0 (d : Nat) {l0 l1 : Int} {m : Mem} {v : Int} {m' : Mem} (h : X12_isFine_0 l0 l1 m = some (v, m')) : Ex d fm_X12_isFine 0 [(22, l0), (0, l1)] [] m (.inl (0, v)) m' := by
  unfold X12_isFine_0 at h
  refine x_aload_n dX12_isFine_0 rfl rfl (Or.inr (by decide)) (?_ : Ex _ _ 1 _ _ _ _ _)
  refine x_iload_n dX12_isFine_1 rfl rfl (?_ : Ex _ _ 2 _ _ _ _ _)
  obtain ⟨c1, h⟩ := chk_some h
  obtain ⟨m2, hm2, h⟩ := st_some h
  refine pt_12_0  c1 fl_RX12_173 dX12_isFine_2 (?_ : Ex _ _ 5 _ _ _ _ _)
  rw [← hm2]
  refine x_iload_n dX12_isFine_5 rfl rfl (?_ : Ex _ _ 6 _ _ _ _ _)
  rcases ite_some h with ⟨b3, h⟩ | ⟨b3, h⟩
  · refine x_if_neN dX12_isFine_6 (by decide) (fun hh => hh b3) (?_ : Ex _ _ 9 _ _ _ _ _)
    refine x_iconst dX12_isFine_9 rfl (by decide) (?_ : Ex _ _ 10 _ _ _ _ _)
    refine x_goto (tgt := 14) dX12_isFine_10 rfl (?_ : Ex _ _ 14 _ _ _ _ _)
    cases h
    exact x_ret dX12_isFine_14 (by decide : (0 : Int) ≠ 3)
  · refine x_if_ne (tgt := 13) dX12_isFine_6 rfl b3 (?_ : Ex _ _ 13 _ _ _ _ _)
    refine x_iconst dX12_isFine_13 rfl (by decide) (?_ : Ex _ _ 14 _ _ _ _ _)
    cases h
    exact x_ret dX12_isFine_14 (by decide : (0 : Int) ≠ 3)
theorem e_X12_isFine (d : Nat) {a0 a1 : Int} {m : Mem} {v : Int} {m' : Mem} (h : X12_isFine a0 a1 m = some (v, m')) : ExM d fm_X12_isFine [(22, a0), (0, a1)] m (.inl (0, v)) m' := by
  obtain ⟨hb, h⟩ := boolR_some h
  exact ExM.of (by decide +kernel) (Nat.le_of_ble_eq_true rfl) (cat9 rfl) (retZ hb) (e_X12_isFine_0 d h)
theorem dX12_isIn_0 : decode cX12_isIn 0 = .ok (.iload_n 0, 1) := by decide +kernel
theorem dX12_isIn_1 : decode cX12_isIn 1 = .ok (.iload_n 1, 1) := by decide +kernel
theorem dX12_isIn_2 : decode cX12_isIn 2 = .ok (.if_icmp .lt 12, 3) := by decide +kernel
theorem dX12_isIn_5 : decode cX12_isIn 5 = .ok (.iload_n 0, 1) := by decide +kernel
theorem dX12_isIn_6 : decode cX12_isIn 6 = .ok (.iload_n 2, 1) := by decide +kernel
theorem dX12_isIn_7 : decode cX12_isIn 7 = .ok (.if_icmp .gt 7, 3) := by decide +kernel
theorem dX12_isIn_10 : decode cX12_isIn 10 = .ok (.iconst 1, 1) := by decide +kernel
theorem dX12_isIn_11 : decode cX12_isIn 11 = .ok (.goto 4, 3) := by decide +kernel
theorem dX12_isIn_14 : decode cX12_isIn 14 = .ok (.iconst 0, 1) := by decide +kernel
theorem dX12_isIn_15 : decode cX12_isIn 15 = .ok (.ireturn, 1) := by decide +kernel
theorem e_X12_isIn_0 (d : Nat) {l0 l1 l2 : Int} {m : Mem} {v : Int} {m' : Mem} (h : X12_isIn_0 l0 l1 l2 m = some (v, m')) : Ex d fm_X12_isIn 0 [(0, l0), (0, l1), (0, l2)] [] m (.inl (0, v)) m' := by
  unfold X12_isIn_0 at h
  refine x_iload_n dX12_isIn_0 rfl rfl (?_ : Ex _ _ 1 _ _ _ _ _)
  refine x_iload_n dX12_isIn_1 rfl rfl (?_ : Ex _ _ 2 _ _ _ _ _)
  rcases ite_some h with ⟨b1, h⟩ | ⟨b1, h⟩
  · refine x_icmp_lt (tgt := 14) dX12_isIn_2 rfl b1 (?_ : Ex _ _ 14 _ _ _ _ _)
    refine x_iconst dX12_isIn_14 rfl (by decide) (?_ : Ex _ _ 15 _ _ _ _ _)
    cases h
    exact x_ret dX12_isIn_15 (by decide : (0 : Int) ≠ 3)
  · refine x_icmp_ltN dX12_isIn_2 (by decide) b1 (?_ : Ex _ _ 5 _ _ _ _ _)
    refine x_iload_n dX12_isIn_5 rfl rfl (?_ : Ex _ _ 6 _ _ _ _ _)
    refine x_iload_n dX12_isIn_6 rfl rfl (?_ : Ex _ _ 7 _ _ _ _ _)
    rcases ite_some h with ⟨b2, h⟩ | ⟨b2, h⟩
    · refine x_icmp_gt (tgt := 14) dX12_isIn_7 rfl b2 (?_ : Ex _ _ 14 _ _ _ _ _)
      refine x_iconst dX12_isIn_14 rfl (by decide) (?_ : Ex _ _ 15 _ _ _ _ _)
      cases h
      exact x_ret dX12_isIn_15 (by decide : (0 : Int) ≠ 3)
    · refine x_icmp_gtN dX12_isIn_7 (by decide) b2 (?_ : Ex _ _ 10 _ _ _ _ _)
      refine x_iconst dX12_isIn_10 rfl (by decide) (?_ : Ex _ _ 11 _ _ _ _ _)
      refine x_goto (tgt := 15) dX12_isIn_11 rfl (?_ : Ex _ _ 15 _ _ _ _ _)
      cases h
      exact x_ret dX12_isIn_15 (by decide : (0 : Int) ≠ 3)
theorem e_X12_isIn (d : Nat) {a0 a1 a2 : Int} {m : Mem} {v : Int} {m' : Mem} (h : X12_isIn a0 a1 a2 m = some (v, m')) : ExM d fm_X12_isIn [(0, a0), (0, a1), (0, a2)] m (.inl (0, v)) m' := by
  obtain ⟨hb, h⟩ := boolR_some h
  exact ExM.of (by decide +kernel) (Nat.le_of_ble_eq_true rfl) (cat9 rfl) (retZ hb) (e_X12_isIn_0 d h)
theorem dX12_isType_0 : decode cX12_isType 0 = .ok (.iload_n 0, 1) := by decide +kernel
theorem dX12_isType_1 : decode cX12_isType 1 = .ok (.iconst 0, 1) := by decide +kernel
theorem dX12_isType_2 : decode cX12_isType 2 = .ok (.iconst 2, 1) := by decide +kernel
theorem dX12_isType_3 : decode cX12_isType 3 = .ok (.invokestatic 177, 3) := by decide +kernel
theorem dX12_isType_6 : decode cX12_isType 6 = .ok (.ireturn, 1) := by decide +kernel
theorem e_X12_isType_0 (d : Nat) {l0 : Int} {m : Mem} {v : Int} {m' : Mem} (h : X12_isType_0 l0 m = some (v, m')) : Ex (d + 1) fm_X12_isType 0 [(0, l0)] [] m (.inl (0, v)) m' := by
  unfold X12_isType_0 at h
  refine x_iload_n dX12_isType_0 rfl rfl (?_ : Ex _ _ 1 _ _ _ _ _)
  refine x_iconst dX12_isType_1 rfl (by decide) (?_ : Ex _ _ 2 _ _ _ _ _)
  refine x_iconst dX12_isType_2 rfl (by decide) (?_ : Ex _ _ 3 _ _ _ _ _)
  obtain ⟨v1, m2, g3, h⟩ := cal_some h
  refine cS3 (e_X12_isIn d g3) (contN (by decide) (?_ : Ex _ _ 6 _ _ _ _ _)) og_X12_isIn rfl ml_RX12_177 sm_X12_isIn (Nat.le_of_ble_eq_true rfl) dX12_isType_3
  cases h
  exact x_ret dX12_isType_6 (by decide : (0 : Int) ≠ 3)
theorem e_X12_isType (d : Nat) {a0 : Int} {m : Mem} {v : Int} {m' : Mem} (h : X12_isType a0 m = some (v, m')) : ExM (d + 1) fm_X12_isType [(0, a0)] m (.inl (0, v)) m' := by
  obtain ⟨hb, h⟩ := boolR_some h
  exact ExM.of (by decide +kernel) (Nat.le_of_ble_eq_true rfl) (cat9 rfl) (retZ hb) (e_X12_isType_0 d h)
theorem dX12_isFlow_0 : decode cX12_isFlow 0 = .ok (.iload_n 1, 1) := by decide +kernel
theorem dX12_isFlow_1 : decode cX12_isFlow 1 = .ok (.iconst 0, 1) := by decide +kernel
theorem dX12_isFlow_2 : decode cX12_isFlow 2 = .ok (.aload_n 0, 1) := by decide +kernel
theorem dX12_isFlow_3 : decode cX12_isFlow 3 = .ok (.getfield 181, 3) := by decide +kernel
theorem dX12_isFlow_6 : decode cX12_isFlow 6 = .ok (.iconst 1, 1) := by decide +kernel
theorem dX12_isFlow_7 : decode cX12_isFlow 7 = .ok (.isub, 1) := by decide +kernel
theorem dX12_isFlow_8 : decode cX12_isFlow 8 = .ok (.invokestatic 177, 3) := by decide +kernel
theorem dX12_isFlow_11 : decode cX12_isFlow 11 = .ok (.ireturn, 1) := by decide +kernel
theorem e_X12_isFlow_0 (d : Nat) {l0 l1 : Int} {m : Mem} {v : Int} {m' : Mem} (h : X12_isFlow_0 l0 l1 m = some (v, m')) : Ex (d + 1) fm_X12_isFlow 0 [(22, l0), (0, l1)] [] m (.inl (0, v)) m' := by
  unfold X12_isFlow_0 at h
  refine x_iload_n dX12_isFlow_0 rfl rfl (?_ : Ex _ _ 1 _ _ _ _ _)
  refine x_iconst dX12_isFlow_1 rfl (by decide) (?_ : Ex _ _ 2 _ _ _ _ _)
  refine x_aload_n dX12_isFlow_2 rfl rfl (Or.inr (by decide)) (?_ : Ex _ _ 3 _ _ _ _ _)
  obtain ⟨c1, h⟩ := chk_some h
  refine gt_12_16 c1 fl_RX12_181 dX12_isFlow_3 (?_ : Ex _ _ 6 _ _ _ _ _)
  refine x_iconst dX12_isFlow_6 rfl (by decide) (?_ : Ex _ _ 7 _ _ _ _ _)
  obtain ⟨c2, h⟩ := chk_some h
  refine x_isub dX12_isFlow_7 c2 (?_ : Ex _ _ 8 _ _ _ _ _)
  obtain ⟨v3, m4, g5, h⟩ := cal_some h
  refine cS3 (e_X12_isIn d g5) (contN (by decide) (?_ : Ex _ _ 11 _ _ _ _ _)) og_X12_isIn rfl ml_RX12_177 sm_X12_isIn (Nat.le_of_ble_eq_true rfl) dX12_isFlow_8
  cases h
  exact x_ret dX12_isFlow_11 (by decide : (0 : Int) ≠ 3)
theorem e_X12_isFlow (d : Nat) {a0 a1 : Int} {m : Mem} {v : Int} {m' : Mem} (h : X12_isFlow a0 a1 m = some (v, m')) : ExM (d + 1) fm_X12_isFlow [(22, a0), (0, a1)] m (.inl (0, v)) m' := by
  obtain ⟨hb, h⟩ := boolR_some h
  exact ExM.of (by decide +kernel) (Nat.le_of_ble_eq_true rfl) (cat9 rfl) (retZ hb) (e_X12_isFlow_0 d h)
theorem dX12_isQueue_0 : decode cX12_isQueue 0 = .ok (.iload_n 0, 1) := by decide +kernel
theorem dX12_isQueue_1 : decode cX12_isQueue 1 = .ok (.iconst 0, 1) := by decide +kernel
theorem dX12_isQueue_2 : decode cX12_isQueue 2 = .ok (.iconst 1, 1) := by decide +kernel
theorem dX12_isQueue_3 : decode cX12_isQueue 3 = .ok (.invokestatic 177, 3) := by decide +kernel
theorem dX12_isQueue_6 : decode cX12_isQueue 6 = .ok (.ireturn, 1) := by decide +kernel
theorem e_X12_isQueue_0 (d : Nat) {l0 : Int} {m : Mem} {v : Int} {m' : Mem} (h : X12_isQueue_0 l0 m = some (v, m')) : Ex (d + 1) fm_X12_isQueue 0 [(0, l0)] [] m (.inl (0, v)) m' := by
  unfold X12_isQueue_0 at h
  refine x_iload_n dX12_isQueue_0 rfl rfl (?_ : Ex _ _ 1 _ _ _ _ _)
  refine x_iconst dX12_isQueue_1 rfl (by decide) (?_ : Ex _ _ 2 _ _ _ _ _)
  refine x_iconst dX12_isQueue_2 rfl (by decide) (?_ : Ex _ _ 3 _ _ _ _ _)
  obtain ⟨v1, m2, g3, h⟩ := cal_some h
  refine cS3 (e_X12_isIn d g3) (contN (by decide) (?_ : Ex _ _ 6 _ _ _ _ _)) og_X12_isIn rfl ml_RX12_177 sm_X12_isIn (Nat.le_of_ble_eq_true rfl) dX12_isQueue_3
  cases h
  exact x_ret dX12_isQueue_6 (by decide : (0 : Int) ≠ 3)
theorem e_X12_isQueue (d : Nat) {a0 : Int} {m : Mem} {v : Int} {m' : Mem} (h : X12_isQueue a0 m = some (v, m')) : ExM (d + 1) fm_X12_isQueue [(0, a0)] m (.inl (0, v)) m' := by
  obtain ⟨hb, h⟩ := boolR_some h
  exact ExM.of (by decide +kernel) (Nat.le_of_ble_eq_true rfl) (cat9 rfl) (retZ hb) (e_X12_isQueue_0 d h)
theorem dX12_isWorker_0 : decode cX12_isWorker 0 = .ok (.iload_n 0, 1) := by decide +kernel
theorem dX12_isWorker_1 : decode cX12_isWorker 1 = .ok (.iconst 0, 1) := by decide +kernel
theorem dX12_isWorker_2 : decode cX12_isWorker 2 = .ok (.iconst 3, 1) := by decide +kernel
theorem dX12_isWorker_3 : decode cX12_isWorker 3 = .ok (.invokestatic 177, 3) := by decide +kernel
theorem dX12_isWorker_6 : decode cX12_isWorker 6 = .ok (.ireturn, 1) := by decide +kernel
theorem e_X12_isWorker_0 (d : Nat) {l0 : Int} {m : Mem} {v : Int} {m' : Mem} (h : X12_isWorker_0 l0 m = some (v, m')) : Ex (d + 1) fm_X12_isWorker 0 [(0, l0)] [] m (.inl (0, v)) m' := by
  unfold X12_isWorker_0 at h
  refine x_iload_n dX12_isWorker_0 rfl rfl (?_ : Ex _ _ 1 _ _ _ _ _)
  refine x_iconst dX12_isWorker_1 rfl (by decide) (?_ : Ex _ _ 2 _ _ _ _ _)
  refine x_iconst dX12_isWorker_2 rfl (by decide) (?_ : Ex _ _ 3 _ _ _ _ _)
  obtain ⟨v1, m2, g3, h⟩ := cal_some h
  refine cS3 (e_X12_isIn d g3) (contN (by decide) (?_ : Ex _ _ 6 _ _ _ _ _)) og_X12_isIn rfl ml_RX12_177 sm_X12_isIn (Nat.le_of_ble_eq_true rfl) dX12_isWorker_3
  cases h
  exact x_ret dX12_isWorker_6 (by decide : (0 : Int) ≠ 3)
theorem e_X12_isWorker (d : Nat) {a0 : Int} {m : Mem} {v : Int} {m' : Mem} (h : X12_isWorker a0 m = some (v, m')) : ExM (d + 1) fm_X12_isWorker [(0, a0)] m (.inl (0, v)) m' := by
  obtain ⟨hb, h⟩ := boolR_some h
  exact ExM.of (by decide +kernel) (Nat.le_of_ble_eq_true rfl) (cat9 rfl) (retZ hb) (e_X12_isWorker_0 d h)
theorem dX12_rowOf_0 : decode cX12_rowOf 0 = .ok (.iconst 5, 1) := by decide +kernel
theorem dX12_rowOf_1 : decode cX12_rowOf 1 = .ok (.iload_n 0, 1) := by decide +kernel
theorem dX12_rowOf_2 : decode cX12_rowOf 2 = .ok (.imul, 1) := by decide +kernel
theorem dX12_rowOf_3 : decode cX12_rowOf 3 = .ok (.iload_n 1, 1) := by decide +kernel
theorem dX12_rowOf_4 : decode cX12_rowOf 4 = .ok (.iadd, 1) := by decide +kernel
theorem dX12_rowOf_5 : decode cX12_rowOf 5 = .ok (.iconst 1, 1) := by decide +kernel
theorem dX12_rowOf_6 : decode cX12_rowOf 6 = .ok (.isub, 1) := by decide +kernel
theorem dX12_rowOf_7 : decode cX12_rowOf 7 = .ok (.ireturn, 1) := by decide +kernel
theorem e_X12_rowOf_0 (d : Nat) {l0 l1 : Int} {m : Mem} {v : Int} {m' : Mem} (h : X12_rowOf_0 l0 l1 m = some (v, m')) : Ex d fm_X12_rowOf 0 [(0, l0), (0, l1)] [] m (.inl (0, v)) m' := by
  unfold X12_rowOf_0 at h
  refine x_iconst dX12_rowOf_0 rfl (by decide) (?_ : Ex _ _ 1 _ _ _ _ _)
  refine x_iload_n dX12_rowOf_1 rfl rfl (?_ : Ex _ _ 2 _ _ _ _ _)
  obtain ⟨c1, h⟩ := chk_some h
  refine x_imul dX12_rowOf_2 c1 (?_ : Ex _ _ 3 _ _ _ _ _)
  refine x_iload_n dX12_rowOf_3 rfl rfl (?_ : Ex _ _ 4 _ _ _ _ _)
  obtain ⟨c2, h⟩ := chk_some h
  refine x_iadd dX12_rowOf_4 c2 (?_ : Ex _ _ 5 _ _ _ _ _)
  refine x_iconst dX12_rowOf_5 rfl (by decide) (?_ : Ex _ _ 6 _ _ _ _ _)
  obtain ⟨c3, h⟩ := chk_some h
  refine x_isub dX12_rowOf_6 c3 (?_ : Ex _ _ 7 _ _ _ _ _)
  cases h
  exact x_ret dX12_rowOf_7 (by decide : (0 : Int) ≠ 3)
theorem e_X12_rowOf (d : Nat) {a0 a1 : Int} {m : Mem} {v : Int} {m' : Mem} (h : X12_rowOf a0 a1 m = some (v, m')) : ExM d fm_X12_rowOf [(0, a0), (0, a1)] m (.inl (0, v)) m' := by
  exact ExM.of (by decide +kernel) (Nat.le_of_ble_eq_true rfl) (cat9 rfl) retI (e_X12_rowOf_0 d h)
theorem dX12_isValue_0 : decode cX12_isValue 0 = .ok (.iload_n 0, 1) := by decide +kernel
theorem dX12_isValue_1 : decode cX12_isValue 1 = .ok (.bipush (-99), 2) := by decide +kernel
theorem dX12_isValue_3 : decode cX12_isValue 3 = .ok (.bipush 99, 2) := by decide +kernel
theorem dX12_isValue_5 : decode cX12_isValue 5 = .ok (.invokestatic 177, 3) := by decide +kernel
theorem dX12_isValue_8 : decode cX12_isValue 8 = .ok (.ireturn, 1) := by decide +kernel
theorem e_X12_isValue_0 (d : Nat) {l0 : Int} {m : Mem} {v : Int} {m' : Mem} (h : X12_isValue_0 l0 m = some (v, m')) : Ex (d + 1) fm_X12_isValue 0 [(0, l0)] [] m (.inl (0, v)) m' := by
  unfold X12_isValue_0 at h
  refine x_iload_n dX12_isValue_0 rfl rfl (?_ : Ex _ _ 1 _ _ _ _ _)
  refine x_bipush dX12_isValue_1 kb_n99 (by decide) (?_ : Ex _ _ 3 _ _ _ _ _)
  refine x_bipush dX12_isValue_3 kb_99 (by decide) (?_ : Ex _ _ 5 _ _ _ _ _)
  obtain ⟨v1, m2, g3, h⟩ := cal_some h
  refine cS3 (e_X12_isIn d g3) (contN (by decide) (?_ : Ex _ _ 8 _ _ _ _ _)) og_X12_isIn rfl ml_RX12_177 sm_X12_isIn (Nat.le_of_ble_eq_true rfl) dX12_isValue_5
  cases h
  exact x_ret dX12_isValue_8 (by decide : (0 : Int) ≠ 3)
theorem e_X12_isValue (d : Nat) {a0 : Int} {m : Mem} {v : Int} {m' : Mem} (h : X12_isValue a0 m = some (v, m')) : ExM (d + 1) fm_X12_isValue [(0, a0)] m (.inl (0, v)) m' := by
  obtain ⟨hb, h⟩ := boolR_some h
  exact ExM.of (by decide +kernel) (Nat.le_of_ble_eq_true rfl) (cat9 rfl) (retZ hb) (e_X12_isValue_0 d h)
theorem dX12_isStep_0 : decode cX12_isStep 0 = .ok (.iload_n 0, 1) := by decide +kernel
theorem dX12_isStep_1 : decode cX12_isStep 1 = .ok (.tableswitch 314 0 13 #[71, 95, 115, 140, 164, 183, 183, 206, 206, 71, 223, 248, 268, 294], 71) := by decide +kernel
theorem dX12_isStep_72 : decode cX12_isStep 72 = .ok (.iload_n 1, 1) := by decide +kernel
theorem dX12_isStep_73 : decode cX12_isStep 73 = .ok (.iconst 0, 1) := by decide +kernel
theorem dX12_isStep_74 : decode cX12_isStep 74 = .ok (.iconst 5, 1) := by decide +kernel
theorem dX12_isStep_75 : decode cX12_isStep 75 = .ok (.invokestatic 177, 3) := by decide +kernel
theorem dX12_isStep_78 : decode cX12_isStep 78 = .ok (.ifCond .eq 16, 3) := by decide +kernel
theorem dX12_isStep_81 : decode cX12_isStep 81 = .ok (.iload_n 2, 1) := by decide +kernel
theorem dX12_isStep_82 : decode cX12_isStep 82 = .ok (.iconst 0, 1) := by decide +kernel
theorem dX12_isStep_83 : decode cX12_isStep 83 = .ok (.iconst 1, 1) := by decide +kernel
theorem dX12_isStep_84 : decode cX12_isStep 84 = .ok (.invokestatic 177, 3) := by decide +kernel
theorem dX12_isStep_87 : decode cX12_isStep 87 = .ok (.ifCond .eq 7, 3) := by decide +kernel
theorem dX12_isStep_90 : decode cX12_isStep 90 = .ok (.iconst 1, 1) := by decide +kernel
theorem dX12_isStep_91 : decode cX12_isStep 91 = .ok (.goto 4, 3) := by decide +kernel
theorem dX12_isStep_94 : decode cX12_isStep 94 = .ok (.iconst 0, 1) := by decide +kernel
theorem dX12_isStep_95 : decode cX12_isStep 95 = .ok (.ireturn, 1) := by decide +kernel
theorem dX12_isStep_96 : decode cX12_isStep 96 = .ok (.iload_n 1, 1) := by decide +kernel
theorem dX12_isStep_97 : decode cX12_isStep 97 = .ok (.iconst 1, 1) := by decide +kernel
theorem dX12_isStep_98 : decode cX12_isStep 98 = .ok (.bipush 50, 2) := by decide +kernel
theorem dX12_isStep_100 : decode cX12_isStep 100 = .ok (.invokestatic 177, 3) := by decide +kernel
theorem dX12_isStep_103 : decode cX12_isStep 103 = .ok (.ifCond .eq 11, 3) := by decide +kernel
theorem dX12_isStep_106 : decode cX12_isStep 106 = .ok (.iload_n 2, 1) := by decide +kernel
theorem dX12_isStep_107 : decode cX12_isStep 107 = .ok (.ifCond .ne 7, 3) := by decide +kernel
theorem dX12_isStep_110 : decode cX12_isStep 110 = .ok (.iconst 1, 1) := by decide +kernel
theorem dX12_isStep_111 : decode cX12_isStep 111 = .ok (.goto 4, 3) := by decide +kernel
theorem dX12_isStep_114 : decode cX12_isStep 114 = .ok (.iconst 0, 1) := by decide +kernel
theorem dX12_isStep_115 : decode cX12_isStep 115 = .ok (.ireturn, 1) := by decide +kernel
theorem dX12_isStep_116 : decode cX12_isStep 116 = .ok (.iload_n 1, 1) := by decide +kernel
theorem dX12_isStep_117 : decode cX12_isStep 117 = .ok (.iconst 0, 1) := by decide +kernel
theorem dX12_isStep_118 : decode cX12_isStep 118 = .ok (.iconst 2, 1) := by decide +kernel
theorem dX12_isStep_119 : decode cX12_isStep 119 = .ok (.invokestatic 177, 3) := by decide +kernel
theorem dX12_isStep_122 : decode cX12_isStep 122 = .ok (.ifCond .eq 17, 3) := by decide +kernel
theorem dX12_isStep_125 : decode cX12_isStep 125 = .ok (.iload_n 2, 1) := by decide +kernel
theorem dX12_isStep_126 : decode cX12_isStep 126 = .ok (.iconst 0, 1) := by decide +kernel
theorem dX12_isStep_127 : decode cX12_isStep 127 = .ok (.bipush 50, 2) := by decide +kernel
theorem dX12_isStep_129 : decode cX12_isStep 129 = .ok (.invokestatic 177, 3) := by decide +kernel
theorem dX12_isStep_132 : decode cX12_isStep 132 = .ok (.ifCond .eq 7, 3) := by decide +kernel
theorem dX12_isStep_135 : decode cX12_isStep 135 = .ok (.iconst 1, 1) := by decide +kernel
theorem dX12_isStep_136 : decode cX12_isStep 136 = .ok (.goto 4, 3) := by decide +kernel
theorem dX12_isStep_139 : decode cX12_isStep 139 = .ok (.iconst 0, 1) := by decide +kernel
theorem dX12_isStep_140 : decode cX12_isStep 140 = .ok (.ireturn, 1) := by decide +kernel
theorem dX12_isStep_141 : decode cX12_isStep 141 = .ok (.iload_n 1, 1) := by decide +kernel
theorem dX12_isStep_142 : decode cX12_isStep 142 = .ok (.iconst 0, 1) := by decide +kernel
theorem dX12_isStep_143 : decode cX12_isStep 143 = .ok (.iconst 2, 1) := by decide +kernel
theorem dX12_isStep_144 : decode cX12_isStep 144 = .ok (.invokestatic 177, 3) := by decide +kernel
theorem dX12_isStep_147 : decode cX12_isStep 147 = .ok (.ifCond .eq 16, 3) := by decide +kernel
theorem dX12_isStep_150 : decode cX12_isStep 150 = .ok (.iload_n 2, 1) := by decide +kernel
theorem dX12_isStep_151 : decode cX12_isStep 151 = .ok (.iconst 0, 1) := by decide +kernel
theorem dX12_isStep_152 : decode cX12_isStep 152 = .ok (.iconst 2, 1) := by decide +kernel
theorem dX12_isStep_153 : decode cX12_isStep 153 = .ok (.invokestatic 177, 3) := by decide +kernel
theorem dX12_isStep_156 : decode cX12_isStep 156 = .ok (.ifCond .eq 7, 3) := by decide +kernel
theorem dX12_isStep_159 : decode cX12_isStep 159 = .ok (.iconst 1, 1) := by decide +kernel
theorem dX12_isStep_160 : decode cX12_isStep 160 = .ok (.goto 4, 3) := by decide +kernel
theorem dX12_isStep_163 : decode cX12_isStep 163 = .ok (.iconst 0, 1) := by decide +kernel
theorem dX12_isStep_164 : decode cX12_isStep 164 = .ok (.ireturn, 1) := by decide +kernel
theorem dX12_isStep_165 : decode cX12_isStep 165 = .ok (.iload_n 1, 1) := by decide +kernel
theorem dX12_isStep_166 : decode cX12_isStep 166 = .ok (.iconst 1, 1) := by decide +kernel
theorem dX12_isStep_167 : decode cX12_isStep 167 = .ok (.iconst 3, 1) := by decide +kernel
theorem dX12_isStep_168 : decode cX12_isStep 168 = .ok (.invokestatic 177, 3) := by decide +kernel
theorem dX12_isStep_171 : decode cX12_isStep 171 = .ok (.ifCond .eq 11, 3) := by decide +kernel
theorem dX12_isStep_174 : decode cX12_isStep 174 = .ok (.iload_n 2, 1) := by decide +kernel
theorem dX12_isStep_175 : decode cX12_isStep 175 = .ok (.ifCond .ne 7, 3) := by decide +kernel
theorem dX12_isStep_178 : decode cX12_isStep 178 = .ok (.iconst 1, 1) := by decide +kernel
theorem dX12_isStep_179 : decode cX12_isStep 179 = .ok (.goto 4, 3) := by decide +kernel
theorem dX12_isStep_182 : decode cX12_isStep 182 = .ok (.iconst 0, 1) := by decide +kernel
theorem dX12_isStep_183 : decode cX12_isStep 183 = .ok (.ireturn, 1) := by decide +kernel
theorem dX12_isStep_184 : decode cX12_isStep 184 = .ok (.iload_n 1, 1) := by decide +kernel
theorem dX12_isStep_185 : decode cX12_isStep 185 = .ok (.invokestatic 184, 3) := by decide +kernel
theorem dX12_isStep_188 : decode cX12_isStep 188 = .ok (.ifCond .eq 17, 3) := by decide +kernel
theorem dX12_isStep_191 : decode cX12_isStep 191 = .ok (.iload_n 2, 1) := by decide +kernel
theorem dX12_isStep_192 : decode cX12_isStep 192 = .ok (.iconst 1, 1) := by decide +kernel
theorem dX12_isStep_193 : decode cX12_isStep 193 = .ok (.bipush 11, 2) := by decide +kernel
theorem dX12_isStep_195 : decode cX12_isStep 195 = .ok (.invokestatic 177, 3) := by decide +kernel
theorem dX12_isStep_198 : decode cX12_isStep 198 = .ok (.ifCond .eq 7, 3) := by decide +kernel
theorem dX12_isStep_201 : decode cX12_isStep 201 = .ok (.iconst 1, 1) := by decide +kernel
theorem dX12_isStep_202 : decode cX12_isStep 202 = .ok (.goto 4, 3) := by decide +kernel
theorem dX12_isStep_205 : decode cX12_isStep 205 = .ok (.iconst 0, 1) := by decide +kernel
theorem dX12_isStep_206 : decode cX12_isStep 206 = .ok (.ireturn, 1) := by decide +kernel
theorem dX12_isStep_207 : decode cX12_isStep 207 = .ok (.iload_n 1, 1) := by decide +kernel
theorem dX12_isStep_208 : decode cX12_isStep 208 = .ok (.invokestatic 184, 3) := by decide +kernel
theorem dX12_isStep_211 : decode cX12_isStep 211 = .ok (.ifCond .eq 11, 3) := by decide +kernel
theorem dX12_isStep_214 : decode cX12_isStep 214 = .ok (.iload_n 2, 1) := by decide +kernel
theorem dX12_isStep_215 : decode cX12_isStep 215 = .ok (.ifCond .ne 7, 3) := by decide +kernel
theorem dX12_isStep_218 : decode cX12_isStep 218 = .ok (.iconst 1, 1) := by decide +kernel
theorem dX12_isStep_219 : decode cX12_isStep 219 = .ok (.goto 4, 3) := by decide +kernel
theorem dX12_isStep_222 : decode cX12_isStep 222 = .ok (.iconst 0, 1) := by decide +kernel
theorem dX12_isStep_223 : decode cX12_isStep 223 = .ok (.ireturn, 1) := by decide +kernel
theorem dX12_isStep_224 : decode cX12_isStep 224 = .ok (.iload_n 1, 1) := by decide +kernel
theorem dX12_isStep_225 : decode cX12_isStep 225 = .ok (.iconst 0, 1) := by decide +kernel
theorem dX12_isStep_226 : decode cX12_isStep 226 = .ok (.iconst 3, 1) := by decide +kernel
theorem dX12_isStep_227 : decode cX12_isStep 227 = .ok (.invokestatic 177, 3) := by decide +kernel
theorem dX12_isStep_230 : decode cX12_isStep 230 = .ok (.ifCond .eq 17, 3) := by decide +kernel
theorem dX12_isStep_233 : decode cX12_isStep 233 = .ok (.iload_n 2, 1) := by decide +kernel
theorem dX12_isStep_234 : decode cX12_isStep 234 = .ok (.iconst 1, 1) := by decide +kernel
theorem dX12_isStep_235 : decode cX12_isStep 235 = .ok (.bipush 11, 2) := by decide +kernel
theorem dX12_isStep_237 : decode cX12_isStep 237 = .ok (.invokestatic 177, 3) := by decide +kernel
theorem dX12_isStep_240 : decode cX12_isStep 240 = .ok (.ifCond .eq 7, 3) := by decide +kernel
theorem dX12_isStep_243 : decode cX12_isStep 243 = .ok (.iconst 1, 1) := by decide +kernel
theorem dX12_isStep_244 : decode cX12_isStep 244 = .ok (.goto 4, 3) := by decide +kernel
theorem dX12_isStep_247 : decode cX12_isStep 247 = .ok (.iconst 0, 1) := by decide +kernel
theorem dX12_isStep_248 : decode cX12_isStep 248 = .ok (.ireturn, 1) := by decide +kernel
theorem dX12_isStep_249 : decode cX12_isStep 249 = .ok (.iload_n 1, 1) := by decide +kernel
theorem dX12_isStep_250 : decode cX12_isStep 250 = .ok (.iconst 1, 1) := by decide +kernel
theorem dX12_isStep_251 : decode cX12_isStep 251 = .ok (.bipush 11, 2) := by decide +kernel
theorem dX12_isStep_253 : decode cX12_isStep 253 = .ok (.invokestatic 177, 3) := by decide +kernel
theorem dX12_isStep_256 : decode cX12_isStep 256 = .ok (.ifCond .eq 11, 3) := by decide +kernel
theorem dX12_isStep_259 : decode cX12_isStep 259 = .ok (.iload_n 2, 1) := by decide +kernel
theorem dX12_isStep_260 : decode cX12_isStep 260 = .ok (.ifCond .ne 7, 3) := by decide +kernel
theorem dX12_isStep_263 : decode cX12_isStep 263 = .ok (.iconst 1, 1) := by decide +kernel
theorem dX12_isStep_264 : decode cX12_isStep 264 = .ok (.goto 4, 3) := by decide +kernel
theorem dX12_isStep_267 : decode cX12_isStep 267 = .ok (.iconst 0, 1) := by decide +kernel
theorem dX12_isStep_268 : decode cX12_isStep 268 = .ok (.ireturn, 1) := by decide +kernel
theorem dX12_isStep_269 : decode cX12_isStep 269 = .ok (.iload_n 1, 1) := by decide +kernel
theorem dX12_isStep_270 : decode cX12_isStep 270 = .ok (.iconst 0, 1) := by decide +kernel
theorem dX12_isStep_271 : decode cX12_isStep 271 = .ok (.iconst 1, 1) := by decide +kernel
theorem dX12_isStep_272 : decode cX12_isStep 272 = .ok (.invokestatic 177, 3) := by decide +kernel
theorem dX12_isStep_275 : decode cX12_isStep 275 = .ok (.ifCond .eq 18, 3) := by decide +kernel
theorem dX12_isStep_278 : decode cX12_isStep 278 = .ok (.iload_n 2, 1) := by decide +kernel
theorem dX12_isStep_279 : decode cX12_isStep 279 = .ok (.bipush (-99), 2) := by decide +kernel
theorem dX12_isStep_281 : decode cX12_isStep 281 = .ok (.bipush 100, 2) := by decide +kernel
theorem dX12_isStep_283 : decode cX12_isStep 283 = .ok (.invokestatic 177, 3) := by decide +kernel
theorem dX12_isStep_286 : decode cX12_isStep 286 = .ok (.ifCond .eq 7, 3) := by decide +kernel
theorem dX12_isStep_289 : decode cX12_isStep 289 = .ok (.iconst 1, 1) := by decide +kernel
theorem dX12_isStep_290 : decode cX12_isStep 290 = .ok (.goto 4, 3) := by decide +kernel
theorem dX12_isStep_293 : decode cX12_isStep 293 = .ok (.iconst 0, 1) := by decide +kernel
theorem dX12_isStep_294 : decode cX12_isStep 294 = .ok (.ireturn, 1) := by decide +kernel
theorem dX12_isStep_295 : decode cX12_isStep 295 = .ok (.iload_n 1, 1) := by decide +kernel
theorem dX12_isStep_296 : decode cX12_isStep 296 = .ok (.iconst 1, 1) := by decide +kernel
theorem dX12_isStep_297 : decode cX12_isStep 297 = .ok (.bipush 9, 2) := by decide +kernel
theorem dX12_isStep_299 : decode cX12_isStep 299 = .ok (.invokestatic 177, 3) := by decide +kernel
theorem dX12_isStep_302 : decode cX12_isStep 302 = .ok (.ifCond .eq 11, 3) := by decide +kernel
theorem dX12_isStep_305 : decode cX12_isStep 305 = .ok (.iload_n 2, 1) := by decide +kernel
theorem dX12_isStep_306 : decode cX12_isStep 306 = .ok (.ifCond .ne 7, 3) := by decide +kernel
theorem dX12_isStep_309 : decode cX12_isStep 309 = .ok (.iconst 1, 1) := by decide +kernel
theorem dX12_isStep_310 : decode cX12_isStep 310 = .ok (.goto 4, 3) := by decide +kernel
theorem dX12_isStep_313 : decode cX12_isStep 313 = .ok (.iconst 0, 1) := by decide +kernel
theorem dX12_isStep_314 : decode cX12_isStep 314 = .ok (.ireturn, 1) := by decide +kernel
theorem dX12_isStep_315 : decode cX12_isStep 315 = .ok (.iload_n 0, 1) := by decide +kernel
theorem dX12_isStep_316 : decode cX12_isStep 316 = .ok (.bipush 14, 2) := by decide +kernel
theorem dX12_isStep_318 : decode cX12_isStep 318 = .ok (.bipush 15, 2) := by decide +kernel
theorem dX12_isStep_320 : decode cX12_isStep 320 = .ok (.invokestatic 177, 3) := by decide +kernel
theorem dX12_isStep_323 : decode cX12_isStep 323 = .ok (.ifCond .eq 15, 3) := by decide +kernel
theorem dX12_isStep_326 : decode cX12_isStep 326 = .ok (.iload_n 1, 1) := by decide +kernel
theorem dX12_isStep_327 : decode cX12_isStep 327 = .ok (.ifCond .ne 11, 3) := by decide +kernel
theorem dX12_isStep_330 : decode cX12_isStep 330 = .ok (.iload_n 2, 1) := by decide +kernel
theorem dX12_isStep_331 : decode cX12_isStep 331 = .ok (.ifCond .ne 7, 3) := by decide +kernel
theorem dX12_isStep_334 : decode cX12_isStep 334 = .ok (.iconst 1, 1) := by decide +kernel
theorem dX12_isStep_335 : decode cX12_isStep 335 = .ok (.goto 4, 3) := by decide +kernel
theorem dX12_isStep_338 : decode cX12_isStep 338 = .ok (.iconst 0, 1) := by decide +kernel
theorem dX12_isStep_339 : decode cX12_isStep 339 = .ok (.ireturn, 1) := by decide +kernel
theorem e_X12_isStep_0 (d : Nat) {l0 l1 l2 : Int} {m : Mem} {v : Int} {m' : Mem} (h : X12_isStep_0 l0 l1 l2 m = some (v, m')) : Ex (d + 2) fm_X12_isStep 0 [(0, l0), (0, l1), (0, l2)] [] m (.inl (0, v)) m' := by
  unfold X12_isStep_0 at h
  refine x_iload_n dX12_isStep_0 rfl rfl (?_ : Ex _ _ 1 _ _ _ _ _)
  rcases ite_some h with ⟨b1, h⟩ | ⟨b1, h⟩
  · refine y_tableAt (j := 0) (off := 71) (tgt := 72) b1 dX12_isStep_1 (by decide) (by decide) rfl rfl (?_ : Ex _ _ 72 _ _ _ _ _)
    refine x_iload_n dX12_isStep_72 rfl rfl (?_ : Ex _ _ 73 _ _ _ _ _)
    refine x_iconst dX12_isStep_73 rfl (by decide) (?_ : Ex _ _ 74 _ _ _ _ _)
    refine x_iconst dX12_isStep_74 rfl (by decide) (?_ : Ex _ _ 75 _ _ _ _ _)
    obtain ⟨v2, m3, g4, h⟩ := cal_some h
    refine cS3 (e_X12_isIn (d + 1) g4) (contN (by decide) (?_ : Ex _ _ 78 _ _ _ _ _)) og_X12_isIn rfl ml_RX12_177 sm_X12_isIn (Nat.le_of_ble_eq_true rfl) dX12_isStep_75
    rcases ite_some h with ⟨b5, h⟩ | ⟨b5, h⟩
    · refine x_if_eq (tgt := 94) dX12_isStep_78 rfl b5 (?_ : Ex _ _ 94 _ _ _ _ _)
      refine x_iconst dX12_isStep_94 rfl (by decide) (?_ : Ex _ _ 95 _ _ _ _ _)
      cases h
      exact x_ret dX12_isStep_95 (by decide : (0 : Int) ≠ 3)
    · refine x_if_eqN dX12_isStep_78 (by decide) b5 (?_ : Ex _ _ 81 _ _ _ _ _)
      refine x_iload_n dX12_isStep_81 rfl rfl (?_ : Ex _ _ 82 _ _ _ _ _)
      refine x_iconst dX12_isStep_82 rfl (by decide) (?_ : Ex _ _ 83 _ _ _ _ _)
      refine x_iconst dX12_isStep_83 rfl (by decide) (?_ : Ex _ _ 84 _ _ _ _ _)
      obtain ⟨v6, m7, g8, h⟩ := cal_some h
      refine cS3 (e_X12_isIn (d + 1) g8) (contN (by decide) (?_ : Ex _ _ 87 _ _ _ _ _)) og_X12_isIn rfl ml_RX12_177 sm_X12_isIn (Nat.le_of_ble_eq_true rfl) dX12_isStep_84
      rcases ite_some h with ⟨b9, h⟩ | ⟨b9, h⟩
      · refine x_if_eq (tgt := 94) dX12_isStep_87 rfl b9 (?_ : Ex _ _ 94 _ _ _ _ _)
        refine x_iconst dX12_isStep_94 rfl (by decide) (?_ : Ex _ _ 95 _ _ _ _ _)
        cases h
        exact x_ret dX12_isStep_95 (by decide : (0 : Int) ≠ 3)
      · refine x_if_eqN dX12_isStep_87 (by decide) b9 (?_ : Ex _ _ 90 _ _ _ _ _)
        refine x_iconst dX12_isStep_90 rfl (by decide) (?_ : Ex _ _ 91 _ _ _ _ _)
        refine x_goto (tgt := 95) dX12_isStep_91 rfl (?_ : Ex _ _ 95 _ _ _ _ _)
        cases h
        exact x_ret dX12_isStep_95 (by decide : (0 : Int) ≠ 3)
  rcases ite_some h with ⟨b10, h⟩ | ⟨b10, h⟩
  · refine y_tableAt (j := 1) (off := 95) (tgt := 96) b10 dX12_isStep_1 (by decide) (by decide) rfl rfl (?_ : Ex _ _ 96 _ _ _ _ _)
    refine x_iload_n dX12_isStep_96 rfl rfl (?_ : Ex _ _ 97 _ _ _ _ _)
    refine x_iconst dX12_isStep_97 rfl (by decide) (?_ : Ex _ _ 98 _ _ _ _ _)
    refine x_bipush dX12_isStep_98 kb_50 (by decide) (?_ : Ex _ _ 100 _ _ _ _ _)
    obtain ⟨v11, m12, g13, h⟩ := cal_some h
    refine cS3 (e_X12_isIn (d + 1) g13) (contN (by decide) (?_ : Ex _ _ 103 _ _ _ _ _)) og_X12_isIn rfl ml_RX12_177 sm_X12_isIn (Nat.le_of_ble_eq_true rfl) dX12_isStep_100
    rcases ite_some h with ⟨b14, h⟩ | ⟨b14, h⟩
    · refine x_if_eq (tgt := 114) dX12_isStep_103 rfl b14 (?_ : Ex _ _ 114 _ _ _ _ _)
      refine x_iconst dX12_isStep_114 rfl (by decide) (?_ : Ex _ _ 115 _ _ _ _ _)
      cases h
      exact x_ret dX12_isStep_115 (by decide : (0 : Int) ≠ 3)
    · refine x_if_eqN dX12_isStep_103 (by decide) b14 (?_ : Ex _ _ 106 _ _ _ _ _)
      refine x_iload_n dX12_isStep_106 rfl rfl (?_ : Ex _ _ 107 _ _ _ _ _)
      rcases ite_some h with ⟨b15, h⟩ | ⟨b15, h⟩
      · refine x_if_neN dX12_isStep_107 (by decide) (fun hh => hh b15) (?_ : Ex _ _ 110 _ _ _ _ _)
        refine x_iconst dX12_isStep_110 rfl (by decide) (?_ : Ex _ _ 111 _ _ _ _ _)
        refine x_goto (tgt := 115) dX12_isStep_111 rfl (?_ : Ex _ _ 115 _ _ _ _ _)
        cases h
        exact x_ret dX12_isStep_115 (by decide : (0 : Int) ≠ 3)
      · refine x_if_ne (tgt := 114) dX12_isStep_107 rfl b15 (?_ : Ex _ _ 114 _ _ _ _ _)
        refine x_iconst dX12_isStep_114 rfl (by decide) (?_ : Ex _ _ 115 _ _ _ _ _)
        cases h
        exact x_ret dX12_isStep_115 (by decide : (0 : Int) ≠ 3)
  rcases ite_some h with ⟨b16, h⟩ | ⟨b16, h⟩
  · refine y_tableAt (j := 2) (off := 115) (tgt := 116) b16 dX12_isStep_1 (by decide) (by decide) rfl rfl (?_ : Ex _ _ 116 _ _ _ _ _)
    refine x_iload_n dX12_isStep_116 rfl rfl (?_ : Ex _ _ 117 _ _ _ _ _)
    refine x_iconst dX12_isStep_117 rfl (by decide) (?_ : Ex _ _ 118 _ _ _ _ _)
    refine x_iconst dX12_isStep_118 rfl (by decide) (?_ : Ex _ _ 119 _ _ _ _ _)
    obtain ⟨v17, m18, g19, h⟩ := cal_some h
    refine cS3 (e_X12_isIn (d + 1) g19) (contN (by decide) (?_ : Ex _ _ 122 _ _ _ _ _)) og_X12_isIn rfl ml_RX12_177 sm_X12_isIn (Nat.le_of_ble_eq_true rfl) dX12_isStep_119
    rcases ite_some h with ⟨b20, h⟩ | ⟨b20, h⟩
    · refine x_if_eq (tgt := 139) dX12_isStep_122 rfl b20 (?_ : Ex _ _ 139 _ _ _ _ _)
      refine x_iconst dX12_isStep_139 rfl (by decide) (?_ : Ex _ _ 140 _ _ _ _ _)
      cases h
      exact x_ret dX12_isStep_140 (by decide : (0 : Int) ≠ 3)
    · refine x_if_eqN dX12_isStep_122 (by decide) b20 (?_ : Ex _ _ 125 _ _ _ _ _)
      refine x_iload_n dX12_isStep_125 rfl rfl (?_ : Ex _ _ 126 _ _ _ _ _)
      refine x_iconst dX12_isStep_126 rfl (by decide) (?_ : Ex _ _ 127 _ _ _ _ _)
      refine x_bipush dX12_isStep_127 kb_50 (by decide) (?_ : Ex _ _ 129 _ _ _ _ _)
      obtain ⟨v21, m22, g23, h⟩ := cal_some h
      refine cS3 (e_X12_isIn (d + 1) g23) (contN (by decide) (?_ : Ex _ _ 132 _ _ _ _ _)) og_X12_isIn rfl ml_RX12_177 sm_X12_isIn (Nat.le_of_ble_eq_true rfl) dX12_isStep_129
      rcases ite_some h with ⟨b24, h⟩ | ⟨b24, h⟩
      · refine x_if_eq (tgt := 139) dX12_isStep_132 rfl b24 (?_ : Ex _ _ 139 _ _ _ _ _)
        refine x_iconst dX12_isStep_139 rfl (by decide) (?_ : Ex _ _ 140 _ _ _ _ _)
        cases h
        exact x_ret dX12_isStep_140 (by decide : (0 : Int) ≠ 3)
      · refine x_if_eqN dX12_isStep_132 (by decide) b24 (?_ : Ex _ _ 135 _ _ _ _ _)
        refine x_iconst dX12_isStep_135 rfl (by decide) (?_ : Ex _ _ 136 _ _ _ _ _)
        refine x_goto (tgt := 140) dX12_isStep_136 rfl (?_ : Ex _ _ 140 _ _ _ _ _)
        cases h
        exact x_ret dX12_isStep_140 (by decide : (0 : Int) ≠ 3)
  rcases ite_some h with ⟨b25, h⟩ | ⟨b25, h⟩
  · refine y_tableAt (j := 3) (off := 140) (tgt := 141) b25 dX12_isStep_1 (by decide) (by decide) rfl rfl (?_ : Ex _ _ 141 _ _ _ _ _)
    refine x_iload_n dX12_isStep_141 rfl rfl (?_ : Ex _ _ 142 _ _ _ _ _)
    refine x_iconst dX12_isStep_142 rfl (by decide) (?_ : Ex _ _ 143 _ _ _ _ _)
    refine x_iconst dX12_isStep_143 rfl (by decide) (?_ : Ex _ _ 144 _ _ _ _ _)
    obtain ⟨v26, m27, g28, h⟩ := cal_some h
    refine cS3 (e_X12_isIn (d + 1) g28) (contN (by decide) (?_ : Ex _ _ 147 _ _ _ _ _)) og_X12_isIn rfl ml_RX12_177 sm_X12_isIn (Nat.le_of_ble_eq_true rfl) dX12_isStep_144
    rcases ite_some h with ⟨b29, h⟩ | ⟨b29, h⟩
    · refine x_if_eq (tgt := 163) dX12_isStep_147 rfl b29 (?_ : Ex _ _ 163 _ _ _ _ _)
      refine x_iconst dX12_isStep_163 rfl (by decide) (?_ : Ex _ _ 164 _ _ _ _ _)
      cases h
      exact x_ret dX12_isStep_164 (by decide : (0 : Int) ≠ 3)
    · refine x_if_eqN dX12_isStep_147 (by decide) b29 (?_ : Ex _ _ 150 _ _ _ _ _)
      refine x_iload_n dX12_isStep_150 rfl rfl (?_ : Ex _ _ 151 _ _ _ _ _)
      refine x_iconst dX12_isStep_151 rfl (by decide) (?_ : Ex _ _ 152 _ _ _ _ _)
      refine x_iconst dX12_isStep_152 rfl (by decide) (?_ : Ex _ _ 153 _ _ _ _ _)
      obtain ⟨v30, m31, g32, h⟩ := cal_some h
      refine cS3 (e_X12_isIn (d + 1) g32) (contN (by decide) (?_ : Ex _ _ 156 _ _ _ _ _)) og_X12_isIn rfl ml_RX12_177 sm_X12_isIn (Nat.le_of_ble_eq_true rfl) dX12_isStep_153
      rcases ite_some h with ⟨b33, h⟩ | ⟨b33, h⟩
      · refine x_if_eq (tgt := 163) dX12_isStep_156 rfl b33 (?_ : Ex _ _ 163 _ _ _ _ _)
        refine x_iconst dX12_isStep_163 rfl (by decide) (?_ : Ex _ _ 164 _ _ _ _ _)
        cases h
        exact x_ret dX12_isStep_164 (by decide : (0 : Int) ≠ 3)
      · refine x_if_eqN dX12_isStep_156 (by decide) b33 (?_ : Ex _ _ 159 _ _ _ _ _)
        refine x_iconst dX12_isStep_159 rfl (by decide) (?_ : Ex _ _ 160 _ _ _ _ _)
        refine x_goto (tgt := 164) dX12_isStep_160 rfl (?_ : Ex _ _ 164 _ _ _ _ _)
        cases h
        exact x_ret dX12_isStep_164 (by decide : (0 : Int) ≠ 3)
  rcases ite_some h with ⟨b34, h⟩ | ⟨b34, h⟩
  · refine y_tableAt (j := 4) (off := 164) (tgt := 165) b34 dX12_isStep_1 (by decide) (by decide) rfl rfl (?_ : Ex _ _ 165 _ _ _ _ _)
    refine x_iload_n dX12_isStep_165 rfl rfl (?_ : Ex _ _ 166 _ _ _ _ _)
    refine x_iconst dX12_isStep_166 rfl (by decide) (?_ : Ex _ _ 167 _ _ _ _ _)
    refine x_iconst dX12_isStep_167 rfl (by decide) (?_ : Ex _ _ 168 _ _ _ _ _)
    obtain ⟨v35, m36, g37, h⟩ := cal_some h
    refine cS3 (e_X12_isIn (d + 1) g37) (contN (by decide) (?_ : Ex _ _ 171 _ _ _ _ _)) og_X12_isIn rfl ml_RX12_177 sm_X12_isIn (Nat.le_of_ble_eq_true rfl) dX12_isStep_168
    rcases ite_some h with ⟨b38, h⟩ | ⟨b38, h⟩
    · refine x_if_eq (tgt := 182) dX12_isStep_171 rfl b38 (?_ : Ex _ _ 182 _ _ _ _ _)
      refine x_iconst dX12_isStep_182 rfl (by decide) (?_ : Ex _ _ 183 _ _ _ _ _)
      cases h
      exact x_ret dX12_isStep_183 (by decide : (0 : Int) ≠ 3)
    · refine x_if_eqN dX12_isStep_171 (by decide) b38 (?_ : Ex _ _ 174 _ _ _ _ _)
      refine x_iload_n dX12_isStep_174 rfl rfl (?_ : Ex _ _ 175 _ _ _ _ _)
      rcases ite_some h with ⟨b39, h⟩ | ⟨b39, h⟩
      · refine x_if_neN dX12_isStep_175 (by decide) (fun hh => hh b39) (?_ : Ex _ _ 178 _ _ _ _ _)
        refine x_iconst dX12_isStep_178 rfl (by decide) (?_ : Ex _ _ 179 _ _ _ _ _)
        refine x_goto (tgt := 183) dX12_isStep_179 rfl (?_ : Ex _ _ 183 _ _ _ _ _)
        cases h
        exact x_ret dX12_isStep_183 (by decide : (0 : Int) ≠ 3)
      · refine x_if_ne (tgt := 182) dX12_isStep_175 rfl b39 (?_ : Ex _ _ 182 _ _ _ _ _)
        refine x_iconst dX12_isStep_182 rfl (by decide) (?_ : Ex _ _ 183 _ _ _ _ _)
        cases h
        exact x_ret dX12_isStep_183 (by decide : (0 : Int) ≠ 3)
  rcases ite_some h with ⟨b40, h⟩ | ⟨b40, h⟩
  · refine y_tableAt (j := 5) (off := 183) (tgt := 184) b40 dX12_isStep_1 (by decide) (by decide) rfl rfl (?_ : Ex _ _ 184 _ _ _ _ _)
    refine x_iload_n dX12_isStep_184 rfl rfl (?_ : Ex _ _ 185 _ _ _ _ _)
    obtain ⟨v41, m42, g43, h⟩ := cal_some h
    refine cS1 (e_X12_isValue d g43) (contN (by decide) (?_ : Ex _ _ 188 _ _ _ _ _)) og_X12_isValue rfl ml_RX12_184 sm_X12_isValue (Nat.le_of_ble_eq_true rfl) dX12_isStep_185
    rcases ite_some h with ⟨b44, h⟩ | ⟨b44, h⟩
    · refine x_if_eq (tgt := 205) dX12_isStep_188 rfl b44 (?_ : Ex _ _ 205 _ _ _ _ _)
      refine x_iconst dX12_isStep_205 rfl (by decide) (?_ : Ex _ _ 206 _ _ _ _ _)
      cases h
      exact x_ret dX12_isStep_206 (by decide : (0 : Int) ≠ 3)
    · refine x_if_eqN dX12_isStep_188 (by decide) b44 (?_ : Ex _ _ 191 _ _ _ _ _)
      refine x_iload_n dX12_isStep_191 rfl rfl (?_ : Ex _ _ 192 _ _ _ _ _)
      refine x_iconst dX12_isStep_192 rfl (by decide) (?_ : Ex _ _ 193 _ _ _ _ _)
      refine x_bipush dX12_isStep_193 kb_11 (by decide) (?_ : Ex _ _ 195 _ _ _ _ _)
      obtain ⟨v45, m46, g47, h⟩ := cal_some h
      refine cS3 (e_X12_isIn (d + 1) g47) (contN (by decide) (?_ : Ex _ _ 198 _ _ _ _ _)) og_X12_isIn rfl ml_RX12_177 sm_X12_isIn (Nat.le_of_ble_eq_true rfl) dX12_isStep_195
      rcases ite_some h with ⟨b48, h⟩ | ⟨b48, h⟩
      · refine x_if_eq (tgt := 205) dX12_isStep_198 rfl b48 (?_ : Ex _ _ 205 _ _ _ _ _)
        refine x_iconst dX12_isStep_205 rfl (by decide) (?_ : Ex _ _ 206 _ _ _ _ _)
        cases h
        exact x_ret dX12_isStep_206 (by decide : (0 : Int) ≠ 3)
      · refine x_if_eqN dX12_isStep_198 (by decide) b48 (?_ : Ex _ _ 201 _ _ _ _ _)
        refine x_iconst dX12_isStep_201 rfl (by decide) (?_ : Ex _ _ 202 _ _ _ _ _)
        refine x_goto (tgt := 206) dX12_isStep_202 rfl (?_ : Ex _ _ 206 _ _ _ _ _)
        cases h
        exact x_ret dX12_isStep_206 (by decide : (0 : Int) ≠ 3)
  rcases ite_some h with ⟨b49, h⟩ | ⟨b49, h⟩
  · refine y_tableAt (j := 6) (off := 183) (tgt := 184) b49 dX12_isStep_1 (by decide) (by decide) rfl rfl (?_ : Ex _ _ 184 _ _ _ _ _)
    refine x_iload_n dX12_isStep_184 rfl rfl (?_ : Ex _ _ 185 _ _ _ _ _)
    obtain ⟨v50, m51, g52, h⟩ := cal_some h
    refine cS1 (e_X12_isValue d g52) (contN (by decide) (?_ : Ex _ _ 188 _ _ _ _ _)) og_X12_isValue rfl ml_RX12_184 sm_X12_isValue (Nat.le_of_ble_eq_true rfl) dX12_isStep_185
    rcases ite_some h with ⟨b53, h⟩ | ⟨b53, h⟩
    · refine x_if_eq (tgt := 205) dX12_isStep_188 rfl b53 (?_ : Ex _ _ 205 _ _ _ _ _)
      refine x_iconst dX12_isStep_205 rfl (by decide) (?_ : Ex _ _ 206 _ _ _ _ _)
      cases h
      exact x_ret dX12_isStep_206 (by decide : (0 : Int) ≠ 3)
    · refine x_if_eqN dX12_isStep_188 (by decide) b53 (?_ : Ex _ _ 191 _ _ _ _ _)
      refine x_iload_n dX12_isStep_191 rfl rfl (?_ : Ex _ _ 192 _ _ _ _ _)
      refine x_iconst dX12_isStep_192 rfl (by decide) (?_ : Ex _ _ 193 _ _ _ _ _)
      refine x_bipush dX12_isStep_193 kb_11 (by decide) (?_ : Ex _ _ 195 _ _ _ _ _)
      obtain ⟨v54, m55, g56, h⟩ := cal_some h
      refine cS3 (e_X12_isIn (d + 1) g56) (contN (by decide) (?_ : Ex _ _ 198 _ _ _ _ _)) og_X12_isIn rfl ml_RX12_177 sm_X12_isIn (Nat.le_of_ble_eq_true rfl) dX12_isStep_195
      rcases ite_some h with ⟨b57, h⟩ | ⟨b57, h⟩
      · refine x_if_eq (tgt := 205) dX12_isStep_198 rfl b57 (?_ : Ex _ _ 205 _ _ _ _ _)
        refine x_iconst dX12_isStep_205 rfl (by decide) (?_ : Ex _ _ 206 _ _ _ _ _)
        cases h
        exact x_ret dX12_isStep_206 (by decide : (0 : Int) ≠ 3)
      · refine x_if_eqN dX12_isStep_198 (by decide) b57 (?_ : Ex _ _ 201 _ _ _ _ _)
        refine x_iconst dX12_isStep_201 rfl (by decide) (?_ : Ex _ _ 202 _ _ _ _ _)
        refine x_goto (tgt := 206) dX12_isStep_202 rfl (?_ : Ex _ _ 206 _ _ _ _ _)
        cases h
        exact x_ret dX12_isStep_206 (by decide : (0 : Int) ≠ 3)
  rcases ite_some h with ⟨b58, h⟩ | ⟨b58, h⟩
  · refine y_tableAt (j := 7) (off := 206) (tgt := 207) b58 dX12_isStep_1 (by decide) (by decide) rfl rfl (?_ : Ex _ _ 207 _ _ _ _ _)
    refine x_iload_n dX12_isStep_207 rfl rfl (?_ : Ex _ _ 208 _ _ _ _ _)
    obtain ⟨v59, m60, g61, h⟩ := cal_some h
    refine cS1 (e_X12_isValue d g61) (contN (by decide) (?_ : Ex _ _ 211 _ _ _ _ _)) og_X12_isValue rfl ml_RX12_184 sm_X12_isValue (Nat.le_of_ble_eq_true rfl) dX12_isStep_208
    rcases ite_some h with ⟨b62, h⟩ | ⟨b62, h⟩
    · refine x_if_eq (tgt := 222) dX12_isStep_211 rfl b62 (?_ : Ex _ _ 222 _ _ _ _ _)
      refine x_iconst dX12_isStep_222 rfl (by decide) (?_ : Ex _ _ 223 _ _ _ _ _)
      cases h
      exact x_ret dX12_isStep_223 (by decide : (0 : Int) ≠ 3)
    · refine x_if_eqN dX12_isStep_211 (by decide) b62 (?_ : Ex _ _ 214 _ _ _ _ _)
      refine x_iload_n dX12_isStep_214 rfl rfl (?_ : Ex _ _ 215 _ _ _ _ _)
      rcases ite_some h with ⟨b63, h⟩ | ⟨b63, h⟩
      · refine x_if_neN dX12_isStep_215 (by decide) (fun hh => hh b63) (?_ : Ex _ _ 218 _ _ _ _ _)
        refine x_iconst dX12_isStep_218 rfl (by decide) (?_ : Ex _ _ 219 _ _ _ _ _)
        refine x_goto (tgt := 223) dX12_isStep_219 rfl (?_ : Ex _ _ 223 _ _ _ _ _)
        cases h
        exact x_ret dX12_isStep_223 (by decide : (0 : Int) ≠ 3)
      · refine x_if_ne (tgt := 222) dX12_isStep_215 rfl b63 (?_ : Ex _ _ 222 _ _ _ _ _)
        refine x_iconst dX12_isStep_222 rfl (by decide) (?_ : Ex _ _ 223 _ _ _ _ _)
        cases h
        exact x_ret dX12_isStep_223 (by decide : (0 : Int) ≠ 3)
  rcases ite_some h with ⟨b64, h⟩ | ⟨b64, h⟩
  · refine y_tableAt (j := 8) (off := 206) (tgt := 207) b64 dX12_isStep_1 (by decide) (by decide) rfl rfl (?_ : Ex _ _ 207 _ _ _ _ _)
    refine x_iload_n dX12_isStep_207 rfl rfl (?_ : Ex _ _ 208 _ _ _ _ _)
    obtain ⟨v65, m66, g67, h⟩ := cal_some h
    refine cS1 (e_X12_isValue d g67) (contN (by decide) (?_ : Ex _ _ 211 _ _ _ _ _)) og_X12_isValue rfl ml_RX12_184 sm_X12_isValue (Nat.le_of_ble_eq_true rfl) dX12_isStep_208
    rcases ite_some h with ⟨b68, h⟩ | ⟨b68, h⟩
    · refine x_if_eq (tgt := 222) dX12_isStep_211 rfl b68 (?_ : Ex _ _ 222 _ _ _ _ _)
      refine x_iconst dX12_isStep_222 rfl (by decide) (?_ : Ex _ _ 223 _ _ _ _ _)
      cases h
      exact x_ret dX12_isStep_223 (by decide : (0 : Int) ≠ 3)
    · refine x_if_eqN dX12_isStep_211 (by decide) b68 (?_ : Ex _ _ 214 _ _ _ _ _)
      refine x_iload_n dX12_isStep_214 rfl rfl (?_ : Ex _ _ 215 _ _ _ _ _)
      rcases ite_some h with ⟨b69, h⟩ | ⟨b69, h⟩
      · refine x_if_neN dX12_isStep_215 (by decide) (fun hh => hh b69) (?_ : Ex _ _ 218 _ _ _ _ _)
        refine x_iconst dX12_isStep_218 rfl (by decide) (?_ : Ex _ _ 219 _ _ _ _ _)
        refine x_goto (tgt := 223) dX12_isStep_219 rfl (?_ : Ex _ _ 223 _ _ _ _ _)
        cases h
        exact x_ret dX12_isStep_223 (by decide : (0 : Int) ≠ 3)
      · refine x_if_ne (tgt := 222) dX12_isStep_215 rfl b69 (?_ : Ex _ _ 222 _ _ _ _ _)
        refine x_iconst dX12_isStep_222 rfl (by decide) (?_ : Ex _ _ 223 _ _ _ _ _)
        cases h
        exact x_ret dX12_isStep_223 (by decide : (0 : Int) ≠ 3)
  rcases ite_some h with ⟨b70, h⟩ | ⟨b70, h⟩
  · refine y_tableAt (j := 9) (off := 71) (tgt := 72) b70 dX12_isStep_1 (by decide) (by decide) rfl rfl (?_ : Ex _ _ 72 _ _ _ _ _)
    refine x_iload_n dX12_isStep_72 rfl rfl (?_ : Ex _ _ 73 _ _ _ _ _)
    refine x_iconst dX12_isStep_73 rfl (by decide) (?_ : Ex _ _ 74 _ _ _ _ _)
    refine x_iconst dX12_isStep_74 rfl (by decide) (?_ : Ex _ _ 75 _ _ _ _ _)
    obtain ⟨v71, m72, g73, h⟩ := cal_some h
    refine cS3 (e_X12_isIn (d + 1) g73) (contN (by decide) (?_ : Ex _ _ 78 _ _ _ _ _)) og_X12_isIn rfl ml_RX12_177 sm_X12_isIn (Nat.le_of_ble_eq_true rfl) dX12_isStep_75
    rcases ite_some h with ⟨b74, h⟩ | ⟨b74, h⟩
    · refine x_if_eq (tgt := 94) dX12_isStep_78 rfl b74 (?_ : Ex _ _ 94 _ _ _ _ _)
      refine x_iconst dX12_isStep_94 rfl (by decide) (?_ : Ex _ _ 95 _ _ _ _ _)
      cases h
      exact x_ret dX12_isStep_95 (by decide : (0 : Int) ≠ 3)
    · refine x_if_eqN dX12_isStep_78 (by decide) b74 (?_ : Ex _ _ 81 _ _ _ _ _)
      refine x_iload_n dX12_isStep_81 rfl rfl (?_ : Ex _ _ 82 _ _ _ _ _)
      refine x_iconst dX12_isStep_82 rfl (by decide) (?_ : Ex _ _ 83 _ _ _ _ _)
      refine x_iconst dX12_isStep_83 rfl (by decide) (?_ : Ex _ _ 84 _ _ _ _ _)
      obtain ⟨v75, m76, g77, h⟩ := cal_some h
      refine cS3 (e_X12_isIn (d + 1) g77) (contN (by decide) (?_ : Ex _ _ 87 _ _ _ _ _)) og_X12_isIn rfl ml_RX12_177 sm_X12_isIn (Nat.le_of_ble_eq_true rfl) dX12_isStep_84
      rcases ite_some h with ⟨b78, h⟩ | ⟨b78, h⟩
      · refine x_if_eq (tgt := 94) dX12_isStep_87 rfl b78 (?_ : Ex _ _ 94 _ _ _ _ _)
        refine x_iconst dX12_isStep_94 rfl (by decide) (?_ : Ex _ _ 95 _ _ _ _ _)
        cases h
        exact x_ret dX12_isStep_95 (by decide : (0 : Int) ≠ 3)
      · refine x_if_eqN dX12_isStep_87 (by decide) b78 (?_ : Ex _ _ 90 _ _ _ _ _)
        refine x_iconst dX12_isStep_90 rfl (by decide) (?_ : Ex _ _ 91 _ _ _ _ _)
        refine x_goto (tgt := 95) dX12_isStep_91 rfl (?_ : Ex _ _ 95 _ _ _ _ _)
        cases h
        exact x_ret dX12_isStep_95 (by decide : (0 : Int) ≠ 3)
  rcases ite_some h with ⟨b79, h⟩ | ⟨b79, h⟩
  · refine y_tableAt (j := 10) (off := 223) (tgt := 224) b79 dX12_isStep_1 (by decide) (by decide) rfl rfl (?_ : Ex _ _ 224 _ _ _ _ _)
    refine x_iload_n dX12_isStep_224 rfl rfl (?_ : Ex _ _ 225 _ _ _ _ _)
    refine x_iconst dX12_isStep_225 rfl (by decide) (?_ : Ex _ _ 226 _ _ _ _ _)
    refine x_iconst dX12_isStep_226 rfl (by decide) (?_ : Ex _ _ 227 _ _ _ _ _)
    obtain ⟨v80, m81, g82, h⟩ := cal_some h
    refine cS3 (e_X12_isIn (d + 1) g82) (contN (by decide) (?_ : Ex _ _ 230 _ _ _ _ _)) og_X12_isIn rfl ml_RX12_177 sm_X12_isIn (Nat.le_of_ble_eq_true rfl) dX12_isStep_227
    rcases ite_some h with ⟨b83, h⟩ | ⟨b83, h⟩
    · refine x_if_eq (tgt := 247) dX12_isStep_230 rfl b83 (?_ : Ex _ _ 247 _ _ _ _ _)
      refine x_iconst dX12_isStep_247 rfl (by decide) (?_ : Ex _ _ 248 _ _ _ _ _)
      cases h
      exact x_ret dX12_isStep_248 (by decide : (0 : Int) ≠ 3)
    · refine x_if_eqN dX12_isStep_230 (by decide) b83 (?_ : Ex _ _ 233 _ _ _ _ _)
      refine x_iload_n dX12_isStep_233 rfl rfl (?_ : Ex _ _ 234 _ _ _ _ _)
      refine x_iconst dX12_isStep_234 rfl (by decide) (?_ : Ex _ _ 235 _ _ _ _ _)
      refine x_bipush dX12_isStep_235 kb_11 (by decide) (?_ : Ex _ _ 237 _ _ _ _ _)
      obtain ⟨v84, m85, g86, h⟩ := cal_some h
      refine cS3 (e_X12_isIn (d + 1) g86) (contN (by decide) (?_ : Ex _ _ 240 _ _ _ _ _)) og_X12_isIn rfl ml_RX12_177 sm_X12_isIn (Nat.le_of_ble_eq_true rfl) dX12_isStep_237
      rcases ite_some h with ⟨b87, h⟩ | ⟨b87, h⟩
      · refine x_if_eq (tgt := 247) dX12_isStep_240 rfl b87 (?_ : Ex _ _ 247 _ _ _ _ _)
        refine x_iconst dX12_isStep_247 rfl (by decide) (?_ : Ex _ _ 248 _ _ _ _ _)
        cases h
        exact x_ret dX12_isStep_248 (by decide : (0 : Int) ≠ 3)
      · refine x_if_eqN dX12_isStep_240 (by decide) b87 (?_ : Ex _ _ 243 _ _ _ _ _)
        refine x_iconst dX12_isStep_243 rfl (by decide) (?_ : Ex _ _ 244 _ _ _ _ _)
        refine x_goto (tgt := 248) dX12_isStep_244 rfl (?_ : Ex _ _ 248 _ _ _ _ _)
        cases h
        exact x_ret dX12_isStep_248 (by decide : (0 : Int) ≠ 3)
  rcases ite_some h with ⟨b88, h⟩ | ⟨b88, h⟩
  · refine y_tableAt (j := 11) (off := 248) (tgt := 249) b88 dX12_isStep_1 (by decide) (by decide) rfl rfl (?_ : Ex _ _ 249 _ _ _ _ _)
    refine x_iload_n dX12_isStep_249 rfl rfl (?_ : Ex _ _ 250 _ _ _ _ _)
    refine x_iconst dX12_isStep_250 rfl (by decide) (?_ : Ex _ _ 251 _ _ _ _ _)
    refine x_bipush dX12_isStep_251 kb_11 (by decide) (?_ : Ex _ _ 253 _ _ _ _ _)
    obtain ⟨v89, m90, g91, h⟩ := cal_some h
    refine cS3 (e_X12_isIn (d + 1) g91) (contN (by decide) (?_ : Ex _ _ 256 _ _ _ _ _)) og_X12_isIn rfl ml_RX12_177 sm_X12_isIn (Nat.le_of_ble_eq_true rfl) dX12_isStep_253
    rcases ite_some h with ⟨b92, h⟩ | ⟨b92, h⟩
    · refine x_if_eq (tgt := 267) dX12_isStep_256 rfl b92 (?_ : Ex _ _ 267 _ _ _ _ _)
      refine x_iconst dX12_isStep_267 rfl (by decide) (?_ : Ex _ _ 268 _ _ _ _ _)
      cases h
      exact x_ret dX12_isStep_268 (by decide : (0 : Int) ≠ 3)
    · refine x_if_eqN dX12_isStep_256 (by decide) b92 (?_ : Ex _ _ 259 _ _ _ _ _)
      refine x_iload_n dX12_isStep_259 rfl rfl (?_ : Ex _ _ 260 _ _ _ _ _)
      rcases ite_some h with ⟨b93, h⟩ | ⟨b93, h⟩
      · refine x_if_neN dX12_isStep_260 (by decide) (fun hh => hh b93) (?_ : Ex _ _ 263 _ _ _ _ _)
        refine x_iconst dX12_isStep_263 rfl (by decide) (?_ : Ex _ _ 264 _ _ _ _ _)
        refine x_goto (tgt := 268) dX12_isStep_264 rfl (?_ : Ex _ _ 268 _ _ _ _ _)
        cases h
        exact x_ret dX12_isStep_268 (by decide : (0 : Int) ≠ 3)
      · refine x_if_ne (tgt := 267) dX12_isStep_260 rfl b93 (?_ : Ex _ _ 267 _ _ _ _ _)
        refine x_iconst dX12_isStep_267 rfl (by decide) (?_ : Ex _ _ 268 _ _ _ _ _)
        cases h
        exact x_ret dX12_isStep_268 (by decide : (0 : Int) ≠ 3)
  rcases ite_some h with ⟨b94, h⟩ | ⟨b94, h⟩
  · refine y_tableAt (j := 12) (off := 268) (tgt := 269) b94 dX12_isStep_1 (by decide) (by decide) rfl rfl (?_ : Ex _ _ 269 _ _ _ _ _)
    refine x_iload_n dX12_isStep_269 rfl rfl (?_ : Ex _ _ 270 _ _ _ _ _)
    refine x_iconst dX12_isStep_270 rfl (by decide) (?_ : Ex _ _ 271 _ _ _ _ _)
    refine x_iconst dX12_isStep_271 rfl (by decide) (?_ : Ex _ _ 272 _ _ _ _ _)
    obtain ⟨v95, m96, g97, h⟩ := cal_some h
    refine cS3 (e_X12_isIn (d + 1) g97) (contN (by decide) (?_ : Ex _ _ 275 _ _ _ _ _)) og_X12_isIn rfl ml_RX12_177 sm_X12_isIn (Nat.le_of_ble_eq_true rfl) dX12_isStep_272
    rcases ite_some h with ⟨b98, h⟩ | ⟨b98, h⟩
    · refine x_if_eq (tgt := 293) dX12_isStep_275 rfl b98 (?_ : Ex _ _ 293 _ _ _ _ _)
      refine x_iconst dX12_isStep_293 rfl (by decide) (?_ : Ex _ _ 294 _ _ _ _ _)
      cases h
      exact x_ret dX12_isStep_294 (by decide : (0 : Int) ≠ 3)
    · refine x_if_eqN dX12_isStep_275 (by decide) b98 (?_ : Ex _ _ 278 _ _ _ _ _)
      refine x_iload_n dX12_isStep_278 rfl rfl (?_ : Ex _ _ 279 _ _ _ _ _)
      refine x_bipush dX12_isStep_279 kb_n99 (by decide) (?_ : Ex _ _ 281 _ _ _ _ _)
      refine x_bipush dX12_isStep_281 kb_100 (by decide) (?_ : Ex _ _ 283 _ _ _ _ _)
      obtain ⟨v99, m100, g101, h⟩ := cal_some h
      refine cS3 (e_X12_isIn (d + 1) g101) (contN (by decide) (?_ : Ex _ _ 286 _ _ _ _ _)) og_X12_isIn rfl ml_RX12_177 sm_X12_isIn (Nat.le_of_ble_eq_true rfl) dX12_isStep_283
      rcases ite_some h with ⟨b102, h⟩ | ⟨b102, h⟩
      · refine x_if_eq (tgt := 293) dX12_isStep_286 rfl b102 (?_ : Ex _ _ 293 _ _ _ _ _)
        refine x_iconst dX12_isStep_293 rfl (by decide) (?_ : Ex _ _ 294 _ _ _ _ _)
        cases h
        exact x_ret dX12_isStep_294 (by decide : (0 : Int) ≠ 3)
      · refine x_if_eqN dX12_isStep_286 (by decide) b102 (?_ : Ex _ _ 289 _ _ _ _ _)
        refine x_iconst dX12_isStep_289 rfl (by decide) (?_ : Ex _ _ 290 _ _ _ _ _)
        refine x_goto (tgt := 294) dX12_isStep_290 rfl (?_ : Ex _ _ 294 _ _ _ _ _)
        cases h
        exact x_ret dX12_isStep_294 (by decide : (0 : Int) ≠ 3)
  rcases ite_some h with ⟨b103, h⟩ | ⟨b103, h⟩
  · refine y_tableAt (j := 13) (off := 294) (tgt := 295) b103 dX12_isStep_1 (by decide) (by decide) rfl rfl (?_ : Ex _ _ 295 _ _ _ _ _)
    refine x_iload_n dX12_isStep_295 rfl rfl (?_ : Ex _ _ 296 _ _ _ _ _)
    refine x_iconst dX12_isStep_296 rfl (by decide) (?_ : Ex _ _ 297 _ _ _ _ _)
    refine x_bipush dX12_isStep_297 kb_9 (by decide) (?_ : Ex _ _ 299 _ _ _ _ _)
    obtain ⟨v104, m105, g106, h⟩ := cal_some h
    refine cS3 (e_X12_isIn (d + 1) g106) (contN (by decide) (?_ : Ex _ _ 302 _ _ _ _ _)) og_X12_isIn rfl ml_RX12_177 sm_X12_isIn (Nat.le_of_ble_eq_true rfl) dX12_isStep_299
    rcases ite_some h with ⟨b107, h⟩ | ⟨b107, h⟩
    · refine x_if_eq (tgt := 313) dX12_isStep_302 rfl b107 (?_ : Ex _ _ 313 _ _ _ _ _)
      refine x_iconst dX12_isStep_313 rfl (by decide) (?_ : Ex _ _ 314 _ _ _ _ _)
      cases h
      exact x_ret dX12_isStep_314 (by decide : (0 : Int) ≠ 3)
    · refine x_if_eqN dX12_isStep_302 (by decide) b107 (?_ : Ex _ _ 305 _ _ _ _ _)
      refine x_iload_n dX12_isStep_305 rfl rfl (?_ : Ex _ _ 306 _ _ _ _ _)
      rcases ite_some h with ⟨b108, h⟩ | ⟨b108, h⟩
      · refine x_if_neN dX12_isStep_306 (by decide) (fun hh => hh b108) (?_ : Ex _ _ 309 _ _ _ _ _)
        refine x_iconst dX12_isStep_309 rfl (by decide) (?_ : Ex _ _ 310 _ _ _ _ _)
        refine x_goto (tgt := 314) dX12_isStep_310 rfl (?_ : Ex _ _ 314 _ _ _ _ _)
        cases h
        exact x_ret dX12_isStep_314 (by decide : (0 : Int) ≠ 3)
      · refine x_if_ne (tgt := 313) dX12_isStep_306 rfl b108 (?_ : Ex _ _ 313 _ _ _ _ _)
        refine x_iconst dX12_isStep_313 rfl (by decide) (?_ : Ex _ _ 314 _ _ _ _ _)
        cases h
        exact x_ret dX12_isStep_314 (by decide : (0 : Int) ≠ 3)
  refine x_tableOut (tgt := 315) dX12_isStep_1 (by omega) rfl (?_ : Ex _ _ 315 _ _ _ _ _)
  refine x_iload_n dX12_isStep_315 rfl rfl (?_ : Ex _ _ 316 _ _ _ _ _)
  refine x_bipush dX12_isStep_316 kb_14 (by decide) (?_ : Ex _ _ 318 _ _ _ _ _)
  refine x_bipush dX12_isStep_318 kb_15 (by decide) (?_ : Ex _ _ 320 _ _ _ _ _)
  obtain ⟨v109, m110, g111, h⟩ := cal_some h
  refine cS3 (e_X12_isIn (d + 1) g111) (contN (by decide) (?_ : Ex _ _ 323 _ _ _ _ _)) og_X12_isIn rfl ml_RX12_177 sm_X12_isIn (Nat.le_of_ble_eq_true rfl) dX12_isStep_320
  rcases ite_some h with ⟨b112, h⟩ | ⟨b112, h⟩
  · refine x_if_eq (tgt := 338) dX12_isStep_323 rfl b112 (?_ : Ex _ _ 338 _ _ _ _ _)
    refine x_iconst dX12_isStep_338 rfl (by decide) (?_ : Ex _ _ 339 _ _ _ _ _)
    cases h
    exact x_ret dX12_isStep_339 (by decide : (0 : Int) ≠ 3)
  · refine x_if_eqN dX12_isStep_323 (by decide) b112 (?_ : Ex _ _ 326 _ _ _ _ _)
    refine x_iload_n dX12_isStep_326 rfl rfl (?_ : Ex _ _ 327 _ _ _ _ _)
    rcases ite_some h with ⟨b113, h⟩ | ⟨b113, h⟩
    · refine x_if_neN dX12_isStep_327 (by decide) (fun hh => hh b113) (?_ : Ex _ _ 330 _ _ _ _ _)
      refine x_iload_n dX12_isStep_330 rfl rfl (?_ : Ex _ _ 331 _ _ _ _ _)
      rcases ite_some h with ⟨b114, h⟩ | ⟨b114, h⟩
      · refine x_if_neN dX12_isStep_331 (by decide) (fun hh => hh b114) (?_ : Ex _ _ 334 _ _ _ _ _)
        refine x_iconst dX12_isStep_334 rfl (by decide) (?_ : Ex _ _ 335 _ _ _ _ _)
        refine x_goto (tgt := 339) dX12_isStep_335 rfl (?_ : Ex _ _ 339 _ _ _ _ _)
        cases h
        exact x_ret dX12_isStep_339 (by decide : (0 : Int) ≠ 3)
      · refine x_if_ne (tgt := 338) dX12_isStep_331 rfl b114 (?_ : Ex _ _ 338 _ _ _ _ _)
        refine x_iconst dX12_isStep_338 rfl (by decide) (?_ : Ex _ _ 339 _ _ _ _ _)
        cases h
        exact x_ret dX12_isStep_339 (by decide : (0 : Int) ≠ 3)
    · refine x_if_ne (tgt := 338) dX12_isStep_327 rfl b113 (?_ : Ex _ _ 338 _ _ _ _ _)
      refine x_iconst dX12_isStep_338 rfl (by decide) (?_ : Ex _ _ 339 _ _ _ _ _)
      cases h
      exact x_ret dX12_isStep_339 (by decide : (0 : Int) ≠ 3)
theorem e_X12_isStep (d : Nat) {a0 a1 a2 : Int} {m : Mem} {v : Int} {m' : Mem} (h : X12_isStep a0 a1 a2 m = some (v, m')) : ExM (d + 2) fm_X12_isStep [(0, a0), (0, a1), (0, a2)] m (.inl (0, v)) m' := by
  obtain ⟨hb, h⟩ := boolR_some h
  exact ExM.of (by decide +kernel) (Nat.le_of_ble_eq_true rfl) (cat9 rfl) (retZ hb) (e_X12_isStep_0 d h)
