/-! the machine does what the functions say, printed -/
theorem dL_signal_0 : decode cL_signal 0 = .ok (.aload 4, 2) := by decide +kernel
theorem dL_signal_2 : decode cL_signal 2 = .ok (.iconst 0, 1) := by decide +kernel
theorem dL_signal_3 : decode cL_signal 3 = .ok (.aload_n 0, 1) := by decide +kernel
theorem dL_signal_4 : decode cL_signal 4 = .ok (.iload_n 1, 1) := by decide +kernel
theorem dL_signal_5 : decode cL_signal 5 = .ok (.iload_n 2, 1) := by decide +kernel
theorem dL_signal_6 : decode cL_signal 6 = .ok (.iload_n 3, 1) := by decide +kernel
theorem dL_signal_7 : decode cL_signal 7 = .ok (.invokevirtual 33, 3) := by decide +kernel
theorem dL_signal_10 : decode cL_signal 10 = .ok (.ifCond .eq 7, 3) := by decide +kernel
theorem dL_signal_13 : decode cL_signal 13 = .ok (.lconst 1, 1) := by decide +kernel
theorem dL_signal_14 : decode cL_signal 14 = .ok (.goto 4, 3) := by decide +kernel
theorem dL_signal_17 : decode cL_signal 17 = .ok (.lconst 0, 1) := by decide +kernel
theorem dL_signal_18 : decode cL_signal 18 = .ok (.lastore, 1) := by decide +kernel
theorem dL_signal_19 : decode cL_signal 19 = .ok (.goto 11, 3) := by decide +kernel
theorem dL_signal_22 : decode cL_signal 22 = .ok (.astore 5, 2) := by decide +kernel
theorem dL_signal_24 : decode cL_signal 24 = .ok (.iconst 1, 1) := by decide +kernel
theorem dL_signal_25 : decode cL_signal 25 = .ok (.ireturn, 1) := by decide +kernel
theorem dL_signal_26 : decode cL_signal 26 = .ok (.astore 5, 2) := by decide +kernel
theorem dL_signal_28 : decode cL_signal 28 = .ok (.iconst 2, 1) := by decide +kernel
theorem dL_signal_29 : decode cL_signal 29 = .ok (.ireturn, 1) := by decide +kernel
theorem dL_signal_30 : decode cL_signal 30 = .ok (.iconst 0, 1) := by decide +kernel
theorem dL_signal_31 : decode cL_signal 31 = .ok (.ireturn, 1) := by decide +kernel
theorem e_L_signal_0 (d : Nat) {l0 l1 l2 l3 l4 : Int} {m : Mem} {v : Int} {m' : Mem} (h : L_signal_0 l0 l1 l2 l3 l4 m = some (v, m')) : Ex (d + 3) fm_L_signal 0 [(21, l0), (0, l1), (0, l2), (0, l3), (300001, l4), (3, 0)] [] m (.inl (0, v)) m' := by
  unfold L_signal_0 at h
  refine x_aload dL_signal_0 rfl (Or.inr (by decide)) (?_ : Ex _ _ 2 _ _ _ _ _)
  refine x_iconst dL_signal_2 rfl (by decide) (?_ : Ex _ _ 3 _ _ _ _ _)
  refine x_aload_n dL_signal_3 rfl rfl (Or.inr (by decide)) (?_ : Ex _ _ 4 _ _ _ _ _)
  refine x_iload_n dL_signal_4 rfl rfl (?_ : Ex _ _ 5 _ _ _ _ _)
  refine x_iload_n dL_signal_5 rfl rfl (?_ : Ex _ _ 6 _ _ _ _ _)
  refine x_iload_n dL_signal_6 rfl rfl (?_ : Ex _ _ 7 _ _ _ _ _)
  obtain ⟨c1, h⟩ := chk_some h
  rcases calT_some h with ⟨v2, m3, g4, h⟩ | ⟨e11, v2, m3, x10, g4, h⟩
  · refine cV3 (e_X11_signal d g4) (cont0 (by decide) (?_ : Ex _ _ 10 _ _ _ _ _)) og_X11_signal rfl ml_RL_33 11 rfl rfl c1 im_X11_signal se_X11_signal (Nat.le_of_ble_eq_true rfl) dL_signal_7
    rcases ite_some h with ⟨b5, h⟩ | ⟨b5, h⟩
    · refine x_if_eq (tgt := 17) dL_signal_10 rfl b5 (?_ : Ex _ _ 17 _ _ _ _ _)
      refine x_lconst dL_signal_17 kl_0 (by decide) (?_ : Ex _ _ 18 _ _ _ _ _)
      obtain ⟨c6, h⟩ := chk_some h
      obtain ⟨m7, hm7, h⟩ := st_some h
      refine sd_l_1 c6 (by decide) (by decide) dL_signal_18 (?_ : Ex _ _ 19 _ _ _ _ _)
      rw [← hm7]
      refine x_goto (tgt := 30) dL_signal_19 rfl (?_ : Ex _ _ 30 _ _ _ _ _)
      refine x_iconst dL_signal_30 rfl (by decide) (?_ : Ex _ _ 31 _ _ _ _ _)
      cases h
      exact x_ret dL_signal_31 (by decide : (0 : Int) ≠ 3)
    · refine x_if_eqN dL_signal_10 (by decide) b5 (?_ : Ex _ _ 13 _ _ _ _ _)
      refine x_lconst dL_signal_13 kl_1 (by decide) (?_ : Ex _ _ 14 _ _ _ _ _)
      refine x_goto (tgt := 18) dL_signal_14 rfl (?_ : Ex _ _ 18 _ _ _ _ _)
      obtain ⟨c8, h⟩ := chk_some h
      obtain ⟨m9, hm9, h⟩ := st_some h
      refine sd_l_1 c8 (by decide) (by decide) dL_signal_18 (?_ : Ex _ _ 19 _ _ _ _ _)
      rw [← hm9]
      refine x_goto (tgt := 30) dL_signal_19 rfl (?_ : Ex _ _ 30 _ _ _ _ _)
      refine x_iconst dL_signal_30 rfl (by decide) (?_ : Ex _ _ 31 _ _ _ _ _)
      cases h
      exact x_ret dL_signal_31 (by decide : (0 : Int) ≠ 3)
  · rcases ite_some h with ⟨b12, h⟩ | ⟨b12, h⟩
    · refine cV3 (e_X11_signal d g4) (contH [] [(0, 19, 26, 15)] (0, 19, 22, 13) x10 (by subst b12; rfl) rfl (by decide) (by decide) cl_RL_13 ca_xIO (fun z hz => nomatch hz) (h_astore (ls2 := [(21, l0), (0, l1), (0, l2), (0, l3), (300001, l4), (3, 0)]) dL_signal_22 (Nat.le_of_ble_eq_true rfl) rfl (?_ : Ex _ _ 24 _ _ _ _ _))) og_X11_signal rfl ml_RL_33 11 rfl rfl c1 im_X11_signal se_X11_signal (Nat.le_of_ble_eq_true rfl) dL_signal_7
      refine x_iconst dL_signal_24 rfl (by decide) (?_ : Ex _ _ 25 _ _ _ _ _)
      cases h
      exact x_ret dL_signal_25 (by decide : (0 : Int) ≠ 3)
    rcases ite_some h with ⟨b13, h⟩ | ⟨b13, h⟩
    · refine cV3 (e_X11_signal d g4) (contH [(0, 19, 22, 13)] [] (0, 19, 26, 15) x10 (by subst b13; rfl) rfl (by decide) (by decide) cl_RL_15 ca_xIA (cH1 ⟨by decide, _, cl_RL_13, by decide⟩) (h_astore (ls2 := [(21, l0), (0, l1), (0, l2), (0, l3), (300001, l4), (3, 0)]) dL_signal_26 (Nat.le_of_ble_eq_true rfl) rfl (?_ : Ex _ _ 28 _ _ _ _ _))) og_X11_signal rfl ml_RL_33 11 rfl rfl c1 im_X11_signal se_X11_signal (Nat.le_of_ble_eq_true rfl) dL_signal_7
      refine x_iconst dL_signal_28 rfl (by decide) (?_ : Ex _ _ 29 _ _ _ _ _)
      cases h
      exact x_ret dL_signal_29 (by decide : (0 : Int) ≠ 3)
    cases h
theorem e_L_signal (d : Nat) {a0 a1 a2 a3 a4 : Int} {m : Mem} {v : Int} {m' : Mem} (h : L_signal a0 a1 a2 a3 a4 m = some (v, m')) : ExM (d + 3) fm_L_signal [(21, a0), (0, a1), (0, a2), (0, a3), (300001, a4)] m (.inl (0, v)) m' := by
  exact ExM.of (by decide +kernel) (Nat.le_of_ble_eq_true rfl) (cat9 rfl) retI (e_L_signal_0 d h)
theorem dL_cancel_0 : decode cL_cancel 0 = .ok (.aload_n 2, 1) := by decide +kernel
theorem dL_cancel_1 : decode cL_cancel 1 = .ok (.iconst 0, 1) := by decide +kernel
theorem dL_cancel_2 : decode cL_cancel 2 = .ok (.aload_n 0, 1) := by decide +kernel
theorem dL_cancel_3 : decode cL_cancel 3 = .ok (.iload_n 1, 1) := by decide +kernel
theorem dL_cancel_4 : decode cL_cancel 4 = .ok (.invokevirtual 37, 3) := by decide +kernel
theorem dL_cancel_7 : decode cL_cancel 7 = .ok (.ifCond .eq 7, 3) := by decide +kernel
theorem dL_cancel_10 : decode cL_cancel 10 = .ok (.lconst 1, 1) := by decide +kernel
theorem dL_cancel_11 : decode cL_cancel 11 = .ok (.goto 4, 3) := by decide +kernel
theorem dL_cancel_14 : decode cL_cancel 14 = .ok (.lconst 0, 1) := by decide +kernel
theorem dL_cancel_15 : decode cL_cancel 15 = .ok (.lastore, 1) := by decide +kernel
theorem dL_cancel_16 : decode cL_cancel 16 = .ok (.goto 6, 3) := by decide +kernel
theorem dL_cancel_19 : decode cL_cancel 19 = .ok (.astore_n 3, 1) := by decide +kernel
theorem dL_cancel_20 : decode cL_cancel 20 = .ok (.iconst 1, 1) := by decide +kernel
theorem dL_cancel_21 : decode cL_cancel 21 = .ok (.ireturn, 1) := by decide +kernel
theorem dL_cancel_22 : decode cL_cancel 22 = .ok (.iconst 0, 1) := by decide +kernel
theorem dL_cancel_23 : decode cL_cancel 23 = .ok (.ireturn, 1) := by decide +kernel
theorem e_L_cancel_0 (d : Nat) {l0 l1 l2 : Int} {m : Mem} {v : Int} {m' : Mem} (h : L_cancel_0 l0 l1 l2 m = some (v, m')) : Ex (d + 4) fm_L_cancel 0 [(21, l0), (0, l1), (300001, l2), (3, 0)] [] m (.inl (0, v)) m' := by
  unfold L_cancel_0 at h
  refine x_aload_n dL_cancel_0 rfl rfl (Or.inr (by decide)) (?_ : Ex _ _ 1 _ _ _ _ _)
  refine x_iconst dL_cancel_1 rfl (by decide) (?_ : Ex _ _ 2 _ _ _ _ _)
  refine x_aload_n dL_cancel_2 rfl rfl (Or.inr (by decide)) (?_ : Ex _ _ 3 _ _ _ _ _)
  refine x_iload_n dL_cancel_3 rfl rfl (?_ : Ex _ _ 4 _ _ _ _ _)
  obtain ⟨c1, h⟩ := chk_some h
  rcases calT_some h with ⟨v2, m3, g4, h⟩ | ⟨e11, v2, m3, x10, g4, h⟩
  · refine cV1 (e_X11_cancel d g4) (cont0 (by decide) (?_ : Ex _ _ 7 _ _ _ _ _)) og_X11_cancel rfl ml_RL_37 11 rfl rfl c1 im_X11_cancel se_X11_cancel (Nat.le_of_ble_eq_true rfl) dL_cancel_4
    rcases ite_some h with ⟨b5, h⟩ | ⟨b5, h⟩
    · refine x_if_eq (tgt := 14) dL_cancel_7 rfl b5 (?_ : Ex _ _ 14 _ _ _ _ _)
      refine x_lconst dL_cancel_14 kl_0 (by decide) (?_ : Ex _ _ 15 _ _ _ _ _)
      obtain ⟨c6, h⟩ := chk_some h
      obtain ⟨m7, hm7, h⟩ := st_some h
      refine sd_l_1 c6 (by decide) (by decide) dL_cancel_15 (?_ : Ex _ _ 16 _ _ _ _ _)
      rw [← hm7]
      refine x_goto (tgt := 22) dL_cancel_16 rfl (?_ : Ex _ _ 22 _ _ _ _ _)
      refine x_iconst dL_cancel_22 rfl (by decide) (?_ : Ex _ _ 23 _ _ _ _ _)
      cases h
      exact x_ret dL_cancel_23 (by decide : (0 : Int) ≠ 3)
    · refine x_if_eqN dL_cancel_7 (by decide) b5 (?_ : Ex _ _ 10 _ _ _ _ _)
      refine x_lconst dL_cancel_10 kl_1 (by decide) (?_ : Ex _ _ 11 _ _ _ _ _)
      refine x_goto (tgt := 15) dL_cancel_11 rfl (?_ : Ex _ _ 15 _ _ _ _ _)
      obtain ⟨c8, h⟩ := chk_some h
      obtain ⟨m9, hm9, h⟩ := st_some h
      refine sd_l_1 c8 (by decide) (by decide) dL_cancel_15 (?_ : Ex _ _ 16 _ _ _ _ _)
      rw [← hm9]
      refine x_goto (tgt := 22) dL_cancel_16 rfl (?_ : Ex _ _ 22 _ _ _ _ _)
      refine x_iconst dL_cancel_22 rfl (by decide) (?_ : Ex _ _ 23 _ _ _ _ _)
      cases h
      exact x_ret dL_cancel_23 (by decide : (0 : Int) ≠ 3)
  · rcases ite_some h with ⟨b12, h⟩ | ⟨b12, h⟩
    · refine cV1 (e_X11_cancel d g4) (contH [] [] (0, 16, 19, 13) x10 (by subst b12; rfl) rfl (by decide) (by decide) cl_RL_13 ca_xIO (fun z hz => nomatch hz) (h_astore_n (ls2 := [(21, l0), (0, l1), (300001, l2), (3, 0)]) dL_cancel_19 rfl (Nat.le_of_ble_eq_true rfl) rfl (?_ : Ex _ _ 20 _ _ _ _ _))) og_X11_cancel rfl ml_RL_37 11 rfl rfl c1 im_X11_cancel se_X11_cancel (Nat.le_of_ble_eq_true rfl) dL_cancel_4
      refine x_iconst dL_cancel_20 rfl (by decide) (?_ : Ex _ _ 21 _ _ _ _ _)
      cases h
      exact x_ret dL_cancel_21 (by decide : (0 : Int) ≠ 3)
    cases h
theorem e_L_cancel (d : Nat) {a0 a1 a2 : Int} {m : Mem} {v : Int} {m' : Mem} (h : L_cancel a0 a1 a2 m = some (v, m')) : ExM (d + 4) fm_L_cancel [(21, a0), (0, a1), (300001, a2)] m (.inl (0, v)) m' := by
  exact ExM.of (by decide +kernel) (Nat.le_of_ble_eq_true rfl) (cat9 rfl) retI (e_L_cancel_0 d h)
theorem dL_decide_0 : decode cL_decide 0 = .ok (.aload_n 3, 1) := by decide +kernel
theorem dL_decide_1 : decode cL_decide 1 = .ok (.iconst 0, 1) := by decide +kernel
theorem dL_decide_2 : decode cL_decide 2 = .ok (.aload_n 0, 1) := by decide +kernel
theorem dL_decide_3 : decode cL_decide 3 = .ok (.iload_n 1, 1) := by decide +kernel
theorem dL_decide_4 : decode cL_decide 4 = .ok (.iload_n 2, 1) := by decide +kernel
theorem dL_decide_5 : decode cL_decide 5 = .ok (.invokevirtual 41, 3) := by decide +kernel
theorem dL_decide_8 : decode cL_decide 8 = .ok (.i2l, 1) := by decide +kernel
theorem dL_decide_9 : decode cL_decide 9 = .ok (.lastore, 1) := by decide +kernel
theorem dL_decide_10 : decode cL_decide 10 = .ok (.goto 11, 3) := by decide +kernel
theorem dL_decide_13 : decode cL_decide 13 = .ok (.astore 4, 2) := by decide +kernel
theorem dL_decide_15 : decode cL_decide 15 = .ok (.iconst 1, 1) := by decide +kernel
theorem dL_decide_16 : decode cL_decide 16 = .ok (.ireturn, 1) := by decide +kernel
theorem dL_decide_17 : decode cL_decide 17 = .ok (.astore 4, 2) := by decide +kernel
theorem dL_decide_19 : decode cL_decide 19 = .ok (.iconst 2, 1) := by decide +kernel
theorem dL_decide_20 : decode cL_decide 20 = .ok (.ireturn, 1) := by decide +kernel
theorem dL_decide_21 : decode cL_decide 21 = .ok (.iconst 0, 1) := by decide +kernel
theorem dL_decide_22 : decode cL_decide 22 = .ok (.ireturn, 1) := by decide +kernel
theorem e_L_decide_0 (d : Nat) {l0 l1 l2 l3 : Int} {m : Mem} {v : Int} {m' : Mem} (h : L_decide_0 l0 l1 l2 l3 m = some (v, m')) : Ex (d + 46) fm_L_decide 0 [(21, l0), (0, l1), (0, l2), (300001, l3), (3, 0)] [] m (.inl (0, v)) m' := by
  unfold L_decide_0 at h
  refine x_aload_n dL_decide_0 rfl rfl (Or.inr (by decide)) (?_ : Ex _ _ 1 _ _ _ _ _)
  refine x_iconst dL_decide_1 rfl (by decide) (?_ : Ex _ _ 2 _ _ _ _ _)
  refine x_aload_n dL_decide_2 rfl rfl (Or.inr (by decide)) (?_ : Ex _ _ 3 _ _ _ _ _)
  refine x_iload_n dL_decide_3 rfl rfl (?_ : Ex _ _ 4 _ _ _ _ _)
  refine x_iload_n dL_decide_4 rfl rfl (?_ : Ex _ _ 5 _ _ _ _ _)
  obtain ⟨c1, h⟩ := chk_some h
  rcases calT_some h with ⟨v2, m3, g4, h⟩ | ⟨e8, v2, m3, x7, g4, h⟩
  · refine cV2 (e_X11_decide d g4) (cont0 (by decide) (?_ : Ex _ _ 8 _ _ _ _ _)) og_X11_decide rfl ml_RL_41 11 rfl rfl c1 im_X11_decide se_X11_decide (Nat.le_of_ble_eq_true rfl) dL_decide_5
    refine x_i2l dL_decide_8 (?_ : Ex _ _ 9 _ _ _ _ _)
    obtain ⟨c5, h⟩ := chk_some h
    obtain ⟨m6, hm6, h⟩ := st_some h
    refine sd_l_1 c5 (by decide) (by decide) dL_decide_9 (?_ : Ex _ _ 10 _ _ _ _ _)
    rw [← hm6]
    refine x_goto (tgt := 21) dL_decide_10 rfl (?_ : Ex _ _ 21 _ _ _ _ _)
    refine x_iconst dL_decide_21 rfl (by decide) (?_ : Ex _ _ 22 _ _ _ _ _)
    cases h
    exact x_ret dL_decide_22 (by decide : (0 : Int) ≠ 3)
  · rcases ite_some h with ⟨b9, h⟩ | ⟨b9, h⟩
    · refine cV2 (e_X11_decide d g4) (contH [] [(0, 10, 17, 17)] (0, 10, 13, 13) x7 (by subst b9; rfl) rfl (by decide) (by decide) cl_RL_13 ca_xIO (fun z hz => nomatch hz) (h_astore (ls2 := [(21, l0), (0, l1), (0, l2), (300001, l3), (3, 0)]) dL_decide_13 (Nat.le_of_ble_eq_true rfl) rfl (?_ : Ex _ _ 15 _ _ _ _ _))) og_X11_decide rfl ml_RL_41 11 rfl rfl c1 im_X11_decide se_X11_decide (Nat.le_of_ble_eq_true rfl) dL_decide_5
      refine x_iconst dL_decide_15 rfl (by decide) (?_ : Ex _ _ 16 _ _ _ _ _)
      cases h
      exact x_ret dL_decide_16 (by decide : (0 : Int) ≠ 3)
    rcases ite_some h with ⟨b10, h⟩ | ⟨b10, h⟩
    · refine cV2 (e_X11_decide d g4) (contH [(0, 10, 13, 13)] [] (0, 10, 17, 17) x7 (by subst b10; rfl) rfl (by decide) (by decide) cl_RL_17 ca_xIS (cH1 ⟨by decide, _, cl_RL_13, by decide⟩) (h_astore (ls2 := [(21, l0), (0, l1), (0, l2), (300001, l3), (3, 0)]) dL_decide_17 (Nat.le_of_ble_eq_true rfl) rfl (?_ : Ex _ _ 19 _ _ _ _ _))) og_X11_decide rfl ml_RL_41 11 rfl rfl c1 im_X11_decide se_X11_decide (Nat.le_of_ble_eq_true rfl) dL_decide_5
      refine x_iconst dL_decide_19 rfl (by decide) (?_ : Ex _ _ 20 _ _ _ _ _)
      cases h
      exact x_ret dL_decide_20 (by decide : (0 : Int) ≠ 3)
    cases h
theorem e_L_decide (d : Nat) {a0 a1 a2 a3 : Int} {m : Mem} {v : Int} {m' : Mem} (h : L_decide a0 a1 a2 a3 m = some (v, m')) : ExM (d + 46) fm_L_decide [(21, a0), (0, a1), (0, a2), (300001, a3)] m (.inl (0, v)) m' := by
  exact ExM.of (by decide +kernel) (Nat.le_of_ble_eq_true rfl) (cat9 rfl) retI (e_L_decide_0 d h)
theorem dL_setRate_0 : decode cL_setRate 0 = .ok (.aload_n 3, 1) := by decide +kernel
theorem dL_setRate_1 : decode cL_setRate 1 = .ok (.iconst 0, 1) := by decide +kernel
theorem dL_setRate_2 : decode cL_setRate 2 = .ok (.aload_n 0, 1) := by decide +kernel
theorem dL_setRate_3 : decode cL_setRate 3 = .ok (.iload_n 1, 1) := by decide +kernel
theorem dL_setRate_4 : decode cL_setRate 4 = .ok (.iload_n 2, 1) := by decide +kernel
theorem dL_setRate_5 : decode cL_setRate 5 = .ok (.invokevirtual 45, 3) := by decide +kernel
theorem dL_setRate_8 : decode cL_setRate 8 = .ok (.i2l, 1) := by decide +kernel
theorem dL_setRate_9 : decode cL_setRate 9 = .ok (.lastore, 1) := by decide +kernel
theorem dL_setRate_10 : decode cL_setRate 10 = .ok (.goto 11, 3) := by decide +kernel
theorem dL_setRate_13 : decode cL_setRate 13 = .ok (.astore 4, 2) := by decide +kernel
theorem dL_setRate_15 : decode cL_setRate 15 = .ok (.iconst 1, 1) := by decide +kernel
theorem dL_setRate_16 : decode cL_setRate 16 = .ok (.ireturn, 1) := by decide +kernel
theorem dL_setRate_17 : decode cL_setRate 17 = .ok (.astore 4, 2) := by decide +kernel
theorem dL_setRate_19 : decode cL_setRate 19 = .ok (.iconst 2, 1) := by decide +kernel
theorem dL_setRate_20 : decode cL_setRate 20 = .ok (.ireturn, 1) := by decide +kernel
theorem dL_setRate_21 : decode cL_setRate 21 = .ok (.iconst 0, 1) := by decide +kernel
theorem dL_setRate_22 : decode cL_setRate 22 = .ok (.ireturn, 1) := by decide +kernel
theorem e_L_setRate_0 (d : Nat) {l0 l1 l2 l3 : Int} {m : Mem} {v : Int} {m' : Mem} (h : L_setRate_0 l0 l1 l2 l3 m = some (v, m')) : Ex (d + 4) fm_L_setRate 0 [(21, l0), (0, l1), (0, l2), (300001, l3), (3, 0)] [] m (.inl (0, v)) m' := by
  unfold L_setRate_0 at h
  refine x_aload_n dL_setRate_0 rfl rfl (Or.inr (by decide)) (?_ : Ex _ _ 1 _ _ _ _ _)
  refine x_iconst dL_setRate_1 rfl (by decide) (?_ : Ex _ _ 2 _ _ _ _ _)
  refine x_aload_n dL_setRate_2 rfl rfl (Or.inr (by decide)) (?_ : Ex _ _ 3 _ _ _ _ _)
  refine x_iload_n dL_setRate_3 rfl rfl (?_ : Ex _ _ 4 _ _ _ _ _)
  refine x_iload_n dL_setRate_4 rfl rfl (?_ : Ex _ _ 5 _ _ _ _ _)
  obtain ⟨c1, h⟩ := chk_some h
  rcases calT_some h with ⟨v2, m3, g4, h⟩ | ⟨e8, v2, m3, x7, g4, h⟩
  · refine cV2 (e_X11_setRate d g4) (cont0 (by decide) (?_ : Ex _ _ 8 _ _ _ _ _)) og_X11_setRate rfl ml_RL_45 11 rfl rfl c1 im_X11_setRate se_X11_setRate (Nat.le_of_ble_eq_true rfl) dL_setRate_5
    refine x_i2l dL_setRate_8 (?_ : Ex _ _ 9 _ _ _ _ _)
    obtain ⟨c5, h⟩ := chk_some h
    obtain ⟨m6, hm6, h⟩ := st_some h
    refine sd_l_1 c5 (by decide) (by decide) dL_setRate_9 (?_ : Ex _ _ 10 _ _ _ _ _)
    rw [← hm6]
    refine x_goto (tgt := 21) dL_setRate_10 rfl (?_ : Ex _ _ 21 _ _ _ _ _)
    refine x_iconst dL_setRate_21 rfl (by decide) (?_ : Ex _ _ 22 _ _ _ _ _)
    cases h
    exact x_ret dL_setRate_22 (by decide : (0 : Int) ≠ 3)
  · rcases ite_some h with ⟨b9, h⟩ | ⟨b9, h⟩
    · refine cV2 (e_X11_setRate d g4) (contH [] [(0, 10, 17, 15)] (0, 10, 13, 13) x7 (by subst b9; rfl) rfl (by decide) (by decide) cl_RL_13 ca_xIO (fun z hz => nomatch hz) (h_astore (ls2 := [(21, l0), (0, l1), (0, l2), (300001, l3), (3, 0)]) dL_setRate_13 (Nat.le_of_ble_eq_true rfl) rfl (?_ : Ex _ _ 15 _ _ _ _ _))) og_X11_setRate rfl ml_RL_45 11 rfl rfl c1 im_X11_setRate se_X11_setRate (Nat.le_of_ble_eq_true rfl) dL_setRate_5
      refine x_iconst dL_setRate_15 rfl (by decide) (?_ : Ex _ _ 16 _ _ _ _ _)
      cases h
      exact x_ret dL_setRate_16 (by decide : (0 : Int) ≠ 3)
    rcases ite_some h with ⟨b10, h⟩ | ⟨b10, h⟩
    · refine cV2 (e_X11_setRate d g4) (contH [(0, 10, 13, 13)] [] (0, 10, 17, 15) x7 (by subst b10; rfl) rfl (by decide) (by decide) cl_RL_15 ca_xIA (cH1 ⟨by decide, _, cl_RL_13, by decide⟩) (h_astore (ls2 := [(21, l0), (0, l1), (0, l2), (300001, l3), (3, 0)]) dL_setRate_17 (Nat.le_of_ble_eq_true rfl) rfl (?_ : Ex _ _ 19 _ _ _ _ _))) og_X11_setRate rfl ml_RL_45 11 rfl rfl c1 im_X11_setRate se_X11_setRate (Nat.le_of_ble_eq_true rfl) dL_setRate_5
      refine x_iconst dL_setRate_19 rfl (by decide) (?_ : Ex _ _ 20 _ _ _ _ _)
      cases h
      exact x_ret dL_setRate_20 (by decide : (0 : Int) ≠ 3)
    cases h
theorem e_L_setRate (d : Nat) {a0 a1 a2 a3 : Int} {m : Mem} {v : Int} {m' : Mem} (h : L_setRate a0 a1 a2 a3 m = some (v, m')) : ExM (d + 4) fm_L_setRate [(21, a0), (0, a1), (0, a2), (300001, a3)] m (.inl (0, v)) m' := by
  exact ExM.of (by decide +kernel) (Nat.le_of_ble_eq_true rfl) (cat9 rfl) retI (e_L_setRate_0 d h)
theorem dL_take_0 : decode cL_take 0 = .ok (.aload_n 3, 1) := by decide +kernel
theorem dL_take_1 : decode cL_take 1 = .ok (.iconst 0, 1) := by decide +kernel
theorem dL_take_2 : decode cL_take 2 = .ok (.aload_n 0, 1) := by decide +kernel
theorem dL_take_3 : decode cL_take 3 = .ok (.iload_n 1, 1) := by decide +kernel
theorem dL_take_4 : decode cL_take 4 = .ok (.iload_n 2, 1) := by decide +kernel
theorem dL_take_5 : decode cL_take 5 = .ok (.invokevirtual 48, 3) := by decide +kernel
theorem dL_take_8 : decode cL_take 8 = .ok (.i2l, 1) := by decide +kernel
theorem dL_take_9 : decode cL_take 9 = .ok (.lastore, 1) := by decide +kernel
theorem dL_take_10 : decode cL_take 10 = .ok (.goto 11, 3) := by decide +kernel
theorem dL_take_13 : decode cL_take 13 = .ok (.astore 4, 2) := by decide +kernel
theorem dL_take_15 : decode cL_take 15 = .ok (.iconst 1, 1) := by decide +kernel
theorem dL_take_16 : decode cL_take 16 = .ok (.ireturn, 1) := by decide +kernel
theorem dL_take_17 : decode cL_take 17 = .ok (.astore 4, 2) := by decide +kernel
theorem dL_take_19 : decode cL_take 19 = .ok (.iconst 2, 1) := by decide +kernel
theorem dL_take_20 : decode cL_take 20 = .ok (.ireturn, 1) := by decide +kernel
theorem dL_take_21 : decode cL_take 21 = .ok (.iconst 0, 1) := by decide +kernel
theorem dL_take_22 : decode cL_take 22 = .ok (.ireturn, 1) := by decide +kernel
theorem e_L_take_0 (d : Nat) {l0 l1 l2 l3 : Int} {m : Mem} {v : Int} {m' : Mem} (h : L_take_0 l0 l1 l2 l3 m = some (v, m')) : Ex (d + 4) fm_L_take 0 [(21, l0), (0, l1), (0, l2), (300001, l3), (3, 0)] [] m (.inl (0, v)) m' := by
  unfold L_take_0 at h
  refine x_aload_n dL_take_0 rfl rfl (Or.inr (by decide)) (?_ : Ex _ _ 1 _ _ _ _ _)
  refine x_iconst dL_take_1 rfl (by decide) (?_ : Ex _ _ 2 _ _ _ _ _)
  refine x_aload_n dL_take_2 rfl rfl (Or.inr (by decide)) (?_ : Ex _ _ 3 _ _ _ _ _)
  refine x_iload_n dL_take_3 rfl rfl (?_ : Ex _ _ 4 _ _ _ _ _)
  refine x_iload_n dL_take_4 rfl rfl (?_ : Ex _ _ 5 _ _ _ _ _)
  obtain ⟨c1, h⟩ := chk_some h
  rcases calT_some h with ⟨v2, m3, g4, h⟩ | ⟨e8, v2, m3, x7, g4, h⟩
  · refine cV2 (e_X11_take d g4) (cont0 (by decide) (?_ : Ex _ _ 8 _ _ _ _ _)) og_X11_take rfl ml_RL_48 11 rfl rfl c1 im_X11_take se_X11_take (Nat.le_of_ble_eq_true rfl) dL_take_5
    refine x_i2l dL_take_8 (?_ : Ex _ _ 9 _ _ _ _ _)
    obtain ⟨c5, h⟩ := chk_some h
    obtain ⟨m6, hm6, h⟩ := st_some h
    refine sd_l_1 c5 (by decide) (by decide) dL_take_9 (?_ : Ex _ _ 10 _ _ _ _ _)
    rw [← hm6]
    refine x_goto (tgt := 21) dL_take_10 rfl (?_ : Ex _ _ 21 _ _ _ _ _)
    refine x_iconst dL_take_21 rfl (by decide) (?_ : Ex _ _ 22 _ _ _ _ _)
    cases h
    exact x_ret dL_take_22 (by decide : (0 : Int) ≠ 3)
  · rcases ite_some h with ⟨b9, h⟩ | ⟨b9, h⟩
    · refine cV2 (e_X11_take d g4) (contH [] [(0, 10, 17, 17)] (0, 10, 13, 13) x7 (by subst b9; rfl) rfl (by decide) (by decide) cl_RL_13 ca_xIO (fun z hz => nomatch hz) (h_astore (ls2 := [(21, l0), (0, l1), (0, l2), (300001, l3), (3, 0)]) dL_take_13 (Nat.le_of_ble_eq_true rfl) rfl (?_ : Ex _ _ 15 _ _ _ _ _))) og_X11_take rfl ml_RL_48 11 rfl rfl c1 im_X11_take se_X11_take (Nat.le_of_ble_eq_true rfl) dL_take_5
      refine x_iconst dL_take_15 rfl (by decide) (?_ : Ex _ _ 16 _ _ _ _ _)
      cases h
      exact x_ret dL_take_16 (by decide : (0 : Int) ≠ 3)
    rcases ite_some h with ⟨b10, h⟩ | ⟨b10, h⟩
    · refine cV2 (e_X11_take d g4) (contH [(0, 10, 13, 13)] [] (0, 10, 17, 17) x7 (by subst b10; rfl) rfl (by decide) (by decide) cl_RL_17 ca_xIS (cH1 ⟨by decide, _, cl_RL_13, by decide⟩) (h_astore (ls2 := [(21, l0), (0, l1), (0, l2), (300001, l3), (3, 0)]) dL_take_17 (Nat.le_of_ble_eq_true rfl) rfl (?_ : Ex _ _ 19 _ _ _ _ _))) og_X11_take rfl ml_RL_48 11 rfl rfl c1 im_X11_take se_X11_take (Nat.le_of_ble_eq_true rfl) dL_take_5
      refine x_iconst dL_take_19 rfl (by decide) (?_ : Ex _ _ 20 _ _ _ _ _)
      cases h
      exact x_ret dL_take_20 (by decide : (0 : Int) ≠ 3)
    cases h
theorem e_L_take (d : Nat) {a0 a1 a2 a3 : Int} {m : Mem} {v : Int} {m' : Mem} (h : L_take a0 a1 a2 a3 m = some (v, m')) : ExM (d + 4) fm_L_take [(21, a0), (0, a1), (0, a2), (300001, a3)] m (.inl (0, v)) m' := by
  exact ExM.of (by decide +kernel) (Nat.le_of_ble_eq_true rfl) (cat9 rfl) retI (e_L_take_0 d h)
theorem dL_has_0 : decode cL_has 0 = .ok (.aload_n 2, 1) := by decide +kernel
theorem dL_has_1 : decode cL_has 1 = .ok (.iconst 0, 1) := by decide +kernel
theorem dL_has_2 : decode cL_has 2 = .ok (.aload_n 0, 1) := by decide +kernel
theorem dL_has_3 : decode cL_has 3 = .ok (.iload_n 1, 1) := by decide +kernel
theorem dL_has_4 : decode cL_has 4 = .ok (.invokevirtual 51, 3) := by decide +kernel
theorem dL_has_7 : decode cL_has 7 = .ok (.i2l, 1) := by decide +kernel
theorem dL_has_8 : decode cL_has 8 = .ok (.lastore, 1) := by decide +kernel
theorem dL_has_9 : decode cL_has 9 = .ok (.goto 6, 3) := by decide +kernel
theorem dL_has_12 : decode cL_has 12 = .ok (.astore_n 3, 1) := by decide +kernel
theorem dL_has_13 : decode cL_has 13 = .ok (.iconst 1, 1) := by decide +kernel
theorem dL_has_14 : decode cL_has 14 = .ok (.ireturn, 1) := by decide +kernel
theorem dL_has_15 : decode cL_has 15 = .ok (.iconst 0, 1) := by decide +kernel
theorem dL_has_16 : decode cL_has 16 = .ok (.ireturn, 1) := by decide +kernel
theorem e_L_has_0 (d : Nat) {l0 l1 l2 : Int} {m : Mem} {v : Int} {m' : Mem} (h : L_has_0 l0 l1 l2 m = some (v, m')) : Ex (d + 3) fm_L_has 0 [(21, l0), (0, l1), (300001, l2), (3, 0)] [] m (.inl (0, v)) m' := by
  unfold L_has_0 at h
  refine x_aload_n dL_has_0 rfl rfl (Or.inr (by decide)) (?_ : Ex _ _ 1 _ _ _ _ _)
  refine x_iconst dL_has_1 rfl (by decide) (?_ : Ex _ _ 2 _ _ _ _ _)
  refine x_aload_n dL_has_2 rfl rfl (Or.inr (by decide)) (?_ : Ex _ _ 3 _ _ _ _ _)
  refine x_iload_n dL_has_3 rfl rfl (?_ : Ex _ _ 4 _ _ _ _ _)
  obtain ⟨c1, h⟩ := chk_some h
  rcases calT_some h with ⟨v2, m3, g4, h⟩ | ⟨e8, v2, m3, x7, g4, h⟩
  · refine cV1 (e_X11_has d g4) (cont0 (by decide) (?_ : Ex _ _ 7 _ _ _ _ _)) og_X11_has rfl ml_RL_51 11 rfl rfl c1 im_X11_has se_X11_has (Nat.le_of_ble_eq_true rfl) dL_has_4
    refine x_i2l dL_has_7 (?_ : Ex _ _ 8 _ _ _ _ _)
    obtain ⟨c5, h⟩ := chk_some h
    obtain ⟨m6, hm6, h⟩ := st_some h
    refine sd_l_1 c5 (by decide) (by decide) dL_has_8 (?_ : Ex _ _ 9 _ _ _ _ _)
    rw [← hm6]
    refine x_goto (tgt := 15) dL_has_9 rfl (?_ : Ex _ _ 15 _ _ _ _ _)
    refine x_iconst dL_has_15 rfl (by decide) (?_ : Ex _ _ 16 _ _ _ _ _)
    cases h
    exact x_ret dL_has_16 (by decide : (0 : Int) ≠ 3)
  · rcases ite_some h with ⟨b9, h⟩ | ⟨b9, h⟩
    · refine cV1 (e_X11_has d g4) (contH [] [] (0, 9, 12, 13) x7 (by subst b9; rfl) rfl (by decide) (by decide) cl_RL_13 ca_xIO (fun z hz => nomatch hz) (h_astore_n (ls2 := [(21, l0), (0, l1), (300001, l2), (3, 0)]) dL_has_12 rfl (Nat.le_of_ble_eq_true rfl) rfl (?_ : Ex _ _ 13 _ _ _ _ _))) og_X11_has rfl ml_RL_51 11 rfl rfl c1 im_X11_has se_X11_has (Nat.le_of_ble_eq_true rfl) dL_has_4
      refine x_iconst dL_has_13 rfl (by decide) (?_ : Ex _ _ 14 _ _ _ _ _)
      cases h
      exact x_ret dL_has_14 (by decide : (0 : Int) ≠ 3)
    cases h
theorem e_L_has (d : Nat) {a0 a1 a2 : Int} {m : Mem} {v : Int} {m' : Mem} (h : L_has a0 a1 a2 m = some (v, m')) : ExM (d + 3) fm_L_has [(21, a0), (0, a1), (300001, a2)] m (.inl (0, v)) m' := by
  exact ExM.of (by decide +kernel) (Nat.le_of_ble_eq_true rfl) (cat9 rfl) retI (e_L_has_0 d h)
theorem dL_beat_0 : decode cL_beat 0 = .ok (.aload_n 2, 1) := by decide +kernel
theorem dL_beat_1 : decode cL_beat 1 = .ok (.iconst 0, 1) := by decide +kernel
theorem dL_beat_2 : decode cL_beat 2 = .ok (.aload_n 0, 1) := by decide +kernel
theorem dL_beat_3 : decode cL_beat 3 = .ok (.iload_n 1, 1) := by decide +kernel
theorem dL_beat_4 : decode cL_beat 4 = .ok (.invokevirtual 54, 3) := by decide +kernel
theorem dL_beat_7 : decode cL_beat 7 = .ok (.i2l, 1) := by decide +kernel
theorem dL_beat_8 : decode cL_beat 8 = .ok (.lastore, 1) := by decide +kernel
theorem dL_beat_9 : decode cL_beat 9 = .ok (.goto 9, 3) := by decide +kernel
theorem dL_beat_12 : decode cL_beat 12 = .ok (.astore_n 3, 1) := by decide +kernel
theorem dL_beat_13 : decode cL_beat 13 = .ok (.iconst 1, 1) := by decide +kernel
theorem dL_beat_14 : decode cL_beat 14 = .ok (.ireturn, 1) := by decide +kernel
theorem dL_beat_15 : decode cL_beat 15 = .ok (.astore_n 3, 1) := by decide +kernel
theorem dL_beat_16 : decode cL_beat 16 = .ok (.iconst 2, 1) := by decide +kernel
theorem dL_beat_17 : decode cL_beat 17 = .ok (.ireturn, 1) := by decide +kernel
theorem dL_beat_18 : decode cL_beat 18 = .ok (.iconst 0, 1) := by decide +kernel
theorem dL_beat_19 : decode cL_beat 19 = .ok (.ireturn, 1) := by decide +kernel
theorem e_L_beat_0 (d : Nat) {l0 l1 l2 : Int} {m : Mem} {v : Int} {m' : Mem} (h : L_beat_0 l0 l1 l2 m = some (v, m')) : Ex (d + 3) fm_L_beat 0 [(21, l0), (0, l1), (300001, l2), (3, 0)] [] m (.inl (0, v)) m' := by
  unfold L_beat_0 at h
  refine x_aload_n dL_beat_0 rfl rfl (Or.inr (by decide)) (?_ : Ex _ _ 1 _ _ _ _ _)
  refine x_iconst dL_beat_1 rfl (by decide) (?_ : Ex _ _ 2 _ _ _ _ _)
  refine x_aload_n dL_beat_2 rfl rfl (Or.inr (by decide)) (?_ : Ex _ _ 3 _ _ _ _ _)
  refine x_iload_n dL_beat_3 rfl rfl (?_ : Ex _ _ 4 _ _ _ _ _)
  obtain ⟨c1, h⟩ := chk_some h
  rcases calT_some h with ⟨v2, m3, g4, h⟩ | ⟨e8, v2, m3, x7, g4, h⟩
  · refine cV1 (e_X11_beat d g4) (cont0 (by decide) (?_ : Ex _ _ 7 _ _ _ _ _)) og_X11_beat rfl ml_RL_54 11 rfl rfl c1 im_X11_beat se_X11_beat (Nat.le_of_ble_eq_true rfl) dL_beat_4
    refine x_i2l dL_beat_7 (?_ : Ex _ _ 8 _ _ _ _ _)
    obtain ⟨c5, h⟩ := chk_some h
    obtain ⟨m6, hm6, h⟩ := st_some h
    refine sd_l_1 c5 (by decide) (by decide) dL_beat_8 (?_ : Ex _ _ 9 _ _ _ _ _)
    rw [← hm6]
    refine x_goto (tgt := 18) dL_beat_9 rfl (?_ : Ex _ _ 18 _ _ _ _ _)
    refine x_iconst dL_beat_18 rfl (by decide) (?_ : Ex _ _ 19 _ _ _ _ _)
    cases h
    exact x_ret dL_beat_19 (by decide : (0 : Int) ≠ 3)
  · rcases ite_some h with ⟨b9, h⟩ | ⟨b9, h⟩
    · refine cV1 (e_X11_beat d g4) (contH [] [(0, 9, 15, 17)] (0, 9, 12, 13) x7 (by subst b9; rfl) rfl (by decide) (by decide) cl_RL_13 ca_xIO (fun z hz => nomatch hz) (h_astore_n (ls2 := [(21, l0), (0, l1), (300001, l2), (3, 0)]) dL_beat_12 rfl (Nat.le_of_ble_eq_true rfl) rfl (?_ : Ex _ _ 13 _ _ _ _ _))) og_X11_beat rfl ml_RL_54 11 rfl rfl c1 im_X11_beat se_X11_beat (Nat.le_of_ble_eq_true rfl) dL_beat_4
      refine x_iconst dL_beat_13 rfl (by decide) (?_ : Ex _ _ 14 _ _ _ _ _)
      cases h
      exact x_ret dL_beat_14 (by decide : (0 : Int) ≠ 3)
    rcases ite_some h with ⟨b10, h⟩ | ⟨b10, h⟩
    · refine cV1 (e_X11_beat d g4) (contH [(0, 9, 12, 13)] [] (0, 9, 15, 17) x7 (by subst b10; rfl) rfl (by decide) (by decide) cl_RL_17 ca_xIS (cH1 ⟨by decide, _, cl_RL_13, by decide⟩) (h_astore_n (ls2 := [(21, l0), (0, l1), (300001, l2), (3, 0)]) dL_beat_15 rfl (Nat.le_of_ble_eq_true rfl) rfl (?_ : Ex _ _ 16 _ _ _ _ _))) og_X11_beat rfl ml_RL_54 11 rfl rfl c1 im_X11_beat se_X11_beat (Nat.le_of_ble_eq_true rfl) dL_beat_4
      refine x_iconst dL_beat_16 rfl (by decide) (?_ : Ex _ _ 17 _ _ _ _ _)
      cases h
      exact x_ret dL_beat_17 (by decide : (0 : Int) ≠ 3)
    cases h
theorem e_L_beat (d : Nat) {a0 a1 a2 : Int} {m : Mem} {v : Int} {m' : Mem} (h : L_beat a0 a1 a2 m = some (v, m')) : ExM (d + 3) fm_L_beat [(21, a0), (0, a1), (300001, a2)] m (.inl (0, v)) m' := by
  exact ExM.of (by decide +kernel) (Nat.le_of_ble_eq_true rfl) (cat9 rfl) retI (e_L_beat_0 d h)
theorem dL_end_0 : decode cL_end 0 = .ok (.aload_n 3, 1) := by decide +kernel
theorem dL_end_1 : decode cL_end 1 = .ok (.iconst 0, 1) := by decide +kernel
theorem dL_end_2 : decode cL_end 2 = .ok (.aload_n 0, 1) := by decide +kernel
theorem dL_end_3 : decode cL_end 3 = .ok (.iload_n 1, 1) := by decide +kernel
theorem dL_end_4 : decode cL_end 4 = .ok (.iload_n 2, 1) := by decide +kernel
theorem dL_end_5 : decode cL_end 5 = .ok (.invokevirtual 57, 3) := by decide +kernel
theorem dL_end_8 : decode cL_end 8 = .ok (.ifCond .eq 7, 3) := by decide +kernel
theorem dL_end_11 : decode cL_end 11 = .ok (.lconst 1, 1) := by decide +kernel
theorem dL_end_12 : decode cL_end 12 = .ok (.goto 4, 3) := by decide +kernel
theorem dL_end_15 : decode cL_end 15 = .ok (.lconst 0, 1) := by decide +kernel
theorem dL_end_16 : decode cL_end 16 = .ok (.lastore, 1) := by decide +kernel
theorem dL_end_17 : decode cL_end 17 = .ok (.goto 15, 3) := by decide +kernel
theorem dL_end_20 : decode cL_end 20 = .ok (.astore 4, 2) := by decide +kernel
theorem dL_end_22 : decode cL_end 22 = .ok (.iconst 1, 1) := by decide +kernel
theorem dL_end_23 : decode cL_end 23 = .ok (.ireturn, 1) := by decide +kernel
theorem dL_end_24 : decode cL_end 24 = .ok (.astore 4, 2) := by decide +kernel
theorem dL_end_26 : decode cL_end 26 = .ok (.iconst 2, 1) := by decide +kernel
theorem dL_end_27 : decode cL_end 27 = .ok (.ireturn, 1) := by decide +kernel
theorem dL_end_28 : decode cL_end 28 = .ok (.astore 4, 2) := by decide +kernel
theorem dL_end_30 : decode cL_end 30 = .ok (.iconst 3, 1) := by decide +kernel
theorem dL_end_31 : decode cL_end 31 = .ok (.ireturn, 1) := by decide +kernel
theorem dL_end_32 : decode cL_end 32 = .ok (.iconst 0, 1) := by decide +kernel
theorem dL_end_33 : decode cL_end 33 = .ok (.ireturn, 1) := by decide +kernel
theorem e_L_end_0 (d : Nat) {l0 l1 l2 l3 : Int} {m : Mem} {v : Int} {m' : Mem} (h : L_end_0 l0 l1 l2 l3 m = some (v, m')) : Ex (d + 3) fm_L_end 0 [(21, l0), (0, l1), (0, l2), (300001, l3), (3, 0)] [] m (.inl (0, v)) m' := by
  unfold L_end_0 at h
  refine x_aload_n dL_end_0 rfl rfl (Or.inr (by decide)) (?_ : Ex _ _ 1 _ _ _ _ _)
  refine x_iconst dL_end_1 rfl (by decide) (?_ : Ex _ _ 2 _ _ _ _ _)
  refine x_aload_n dL_end_2 rfl rfl (Or.inr (by decide)) (?_ : Ex _ _ 3 _ _ _ _ _)
  refine x_iload_n dL_end_3 rfl rfl (?_ : Ex _ _ 4 _ _ _ _ _)
  refine x_iload_n dL_end_4 rfl rfl (?_ : Ex _ _ 5 _ _ _ _ _)
  obtain ⟨c1, h⟩ := chk_some h
  rcases calT_some h with ⟨v2, m3, g4, h⟩ | ⟨e11, v2, m3, x10, g4, h⟩
  · refine cV2 (e_X11_end d g4) (cont0 (by decide) (?_ : Ex _ _ 8 _ _ _ _ _)) og_X11_end rfl ml_RL_57 11 rfl rfl c1 im_X11_end se_X11_end (Nat.le_of_ble_eq_true rfl) dL_end_5
    rcases ite_some h with ⟨b5, h⟩ | ⟨b5, h⟩
    · refine x_if_eq (tgt := 15) dL_end_8 rfl b5 (?_ : Ex _ _ 15 _ _ _ _ _)
      refine x_lconst dL_end_15 kl_0 (by decide) (?_ : Ex _ _ 16 _ _ _ _ _)
      obtain ⟨c6, h⟩ := chk_some h
      obtain ⟨m7, hm7, h⟩ := st_some h
      refine sd_l_1 c6 (by decide) (by decide) dL_end_16 (?_ : Ex _ _ 17 _ _ _ _ _)
      rw [← hm7]
      refine x_goto (tgt := 32) dL_end_17 rfl (?_ : Ex _ _ 32 _ _ _ _ _)
      refine x_iconst dL_end_32 rfl (by decide) (?_ : Ex _ _ 33 _ _ _ _ _)
      cases h
      exact x_ret dL_end_33 (by decide : (0 : Int) ≠ 3)
    · refine x_if_eqN dL_end_8 (by decide) b5 (?_ : Ex _ _ 11 _ _ _ _ _)
      refine x_lconst dL_end_11 kl_1 (by decide) (?_ : Ex _ _ 12 _ _ _ _ _)
      refine x_goto (tgt := 16) dL_end_12 rfl (?_ : Ex _ _ 16 _ _ _ _ _)
      obtain ⟨c8, h⟩ := chk_some h
      obtain ⟨m9, hm9, h⟩ := st_some h
      refine sd_l_1 c8 (by decide) (by decide) dL_end_16 (?_ : Ex _ _ 17 _ _ _ _ _)
      rw [← hm9]
      refine x_goto (tgt := 32) dL_end_17 rfl (?_ : Ex _ _ 32 _ _ _ _ _)
      refine x_iconst dL_end_32 rfl (by decide) (?_ : Ex _ _ 33 _ _ _ _ _)
      cases h
      exact x_ret dL_end_33 (by decide : (0 : Int) ≠ 3)
  · rcases ite_some h with ⟨b12, h⟩ | ⟨b12, h⟩
    · refine cV2 (e_X11_end d g4) (contH [] [(0, 17, 24, 15), (0, 17, 28, 17)] (0, 17, 20, 13) x10 (by subst b12; rfl) rfl (by decide) (by decide) cl_RL_13 ca_xIO (fun z hz => nomatch hz) (h_astore (ls2 := [(21, l0), (0, l1), (0, l2), (300001, l3), (3, 0)]) dL_end_20 (Nat.le_of_ble_eq_true rfl) rfl (?_ : Ex _ _ 22 _ _ _ _ _))) og_X11_end rfl ml_RL_57 11 rfl rfl c1 im_X11_end se_X11_end (Nat.le_of_ble_eq_true rfl) dL_end_5
      refine x_iconst dL_end_22 rfl (by decide) (?_ : Ex _ _ 23 _ _ _ _ _)
      cases h
      exact x_ret dL_end_23 (by decide : (0 : Int) ≠ 3)
    rcases ite_some h with ⟨b13, h⟩ | ⟨b13, h⟩
    · refine cV2 (e_X11_end d g4) (contH [(0, 17, 20, 13)] [(0, 17, 28, 17)] (0, 17, 24, 15) x10 (by subst b13; rfl) rfl (by decide) (by decide) cl_RL_15 ca_xIA (cH1 ⟨by decide, _, cl_RL_13, by decide⟩) (h_astore (ls2 := [(21, l0), (0, l1), (0, l2), (300001, l3), (3, 0)]) dL_end_24 (Nat.le_of_ble_eq_true rfl) rfl (?_ : Ex _ _ 26 _ _ _ _ _))) og_X11_end rfl ml_RL_57 11 rfl rfl c1 im_X11_end se_X11_end (Nat.le_of_ble_eq_true rfl) dL_end_5
      refine x_iconst dL_end_26 rfl (by decide) (?_ : Ex _ _ 27 _ _ _ _ _)
      cases h
      exact x_ret dL_end_27 (by decide : (0 : Int) ≠ 3)
    rcases ite_some h with ⟨b14, h⟩ | ⟨b14, h⟩
    · refine cV2 (e_X11_end d g4) (contH [(0, 17, 20, 13), (0, 17, 24, 15)] [] (0, 17, 28, 17) x10 (by subst b14; rfl) rfl (by decide) (by decide) cl_RL_17 ca_xIS (cH2 ⟨by decide, _, cl_RL_13, by decide⟩ ⟨by decide, _, cl_RL_15, by decide⟩) (h_astore (ls2 := [(21, l0), (0, l1), (0, l2), (300001, l3), (3, 0)]) dL_end_28 (Nat.le_of_ble_eq_true rfl) rfl (?_ : Ex _ _ 30 _ _ _ _ _))) og_X11_end rfl ml_RL_57 11 rfl rfl c1 im_X11_end se_X11_end (Nat.le_of_ble_eq_true rfl) dL_end_5
      refine x_iconst dL_end_30 rfl (by decide) (?_ : Ex _ _ 31 _ _ _ _ _)
      cases h
      exact x_ret dL_end_31 (by decide : (0 : Int) ≠ 3)
    cases h
theorem e_L_end (d : Nat) {a0 a1 a2 a3 : Int} {m : Mem} {v : Int} {m' : Mem} (h : L_end a0 a1 a2 a3 m = some (v, m')) : ExM (d + 3) fm_L_end [(21, a0), (0, a1), (0, a2), (300001, a3)] m (.inl (0, v)) m' := by
  exact ExM.of (by decide +kernel) (Nat.le_of_ble_eq_true rfl) (cat9 rfl) retI (e_L_end_0 d h)
theorem dL_fail_0 : decode cL_fail 0 = .ok (.aload_n 2, 1) := by decide +kernel
theorem dL_fail_1 : decode cL_fail 1 = .ok (.iconst 0, 1) := by decide +kernel
theorem dL_fail_2 : decode cL_fail 2 = .ok (.aload_n 0, 1) := by decide +kernel
theorem dL_fail_3 : decode cL_fail 3 = .ok (.iload_n 1, 1) := by decide +kernel
theorem dL_fail_4 : decode cL_fail 4 = .ok (.invokevirtual 61, 3) := by decide +kernel
theorem dL_fail_7 : decode cL_fail 7 = .ok (.i2l, 1) := by decide +kernel
theorem dL_fail_8 : decode cL_fail 8 = .ok (.lastore, 1) := by decide +kernel
theorem dL_fail_9 : decode cL_fail 9 = .ok (.goto 9, 3) := by decide +kernel
theorem dL_fail_12 : decode cL_fail 12 = .ok (.astore_n 3, 1) := by decide +kernel
theorem dL_fail_13 : decode cL_fail 13 = .ok (.iconst 1, 1) := by decide +kernel
theorem dL_fail_14 : decode cL_fail 14 = .ok (.ireturn, 1) := by decide +kernel
theorem dL_fail_15 : decode cL_fail 15 = .ok (.astore_n 3, 1) := by decide +kernel
theorem dL_fail_16 : decode cL_fail 16 = .ok (.iconst 2, 1) := by decide +kernel
theorem dL_fail_17 : decode cL_fail 17 = .ok (.ireturn, 1) := by decide +kernel
theorem dL_fail_18 : decode cL_fail 18 = .ok (.iconst 0, 1) := by decide +kernel
theorem dL_fail_19 : decode cL_fail 19 = .ok (.ireturn, 1) := by decide +kernel
theorem e_L_fail_0 (d : Nat) {l0 l1 l2 : Int} {m : Mem} {v : Int} {m' : Mem} (h : L_fail_0 l0 l1 l2 m = some (v, m')) : Ex (d + 4) fm_L_fail 0 [(21, l0), (0, l1), (300001, l2), (3, 0)] [] m (.inl (0, v)) m' := by
  unfold L_fail_0 at h
  refine x_aload_n dL_fail_0 rfl rfl (Or.inr (by decide)) (?_ : Ex _ _ 1 _ _ _ _ _)
  refine x_iconst dL_fail_1 rfl (by decide) (?_ : Ex _ _ 2 _ _ _ _ _)
  refine x_aload_n dL_fail_2 rfl rfl (Or.inr (by decide)) (?_ : Ex _ _ 3 _ _ _ _ _)
  refine x_iload_n dL_fail_3 rfl rfl (?_ : Ex _ _ 4 _ _ _ _ _)
  obtain ⟨c1, h⟩ := chk_some h
  rcases calT_some h with ⟨v2, m3, g4, h⟩ | ⟨e8, v2, m3, x7, g4, h⟩
  · refine cV1 (e_X11_fail d g4) (cont0 (by decide) (?_ : Ex _ _ 7 _ _ _ _ _)) og_X11_fail rfl ml_RL_61 11 rfl rfl c1 im_X11_fail se_X11_fail (Nat.le_of_ble_eq_true rfl) dL_fail_4
    refine x_i2l dL_fail_7 (?_ : Ex _ _ 8 _ _ _ _ _)
    obtain ⟨c5, h⟩ := chk_some h
    obtain ⟨m6, hm6, h⟩ := st_some h
    refine sd_l_1 c5 (by decide) (by decide) dL_fail_8 (?_ : Ex _ _ 9 _ _ _ _ _)
    rw [← hm6]
    refine x_goto (tgt := 18) dL_fail_9 rfl (?_ : Ex _ _ 18 _ _ _ _ _)
    refine x_iconst dL_fail_18 rfl (by decide) (?_ : Ex _ _ 19 _ _ _ _ _)
    cases h
    exact x_ret dL_fail_19 (by decide : (0 : Int) ≠ 3)
  · rcases ite_some h with ⟨b9, h⟩ | ⟨b9, h⟩
    · refine cV1 (e_X11_fail d g4) (contH [] [(0, 9, 15, 17)] (0, 9, 12, 13) x7 (by subst b9; rfl) rfl (by decide) (by decide) cl_RL_13 ca_xIO (fun z hz => nomatch hz) (h_astore_n (ls2 := [(21, l0), (0, l1), (300001, l2), (3, 0)]) dL_fail_12 rfl (Nat.le_of_ble_eq_true rfl) rfl (?_ : Ex _ _ 13 _ _ _ _ _))) og_X11_fail rfl ml_RL_61 11 rfl rfl c1 im_X11_fail se_X11_fail (Nat.le_of_ble_eq_true rfl) dL_fail_4
      refine x_iconst dL_fail_13 rfl (by decide) (?_ : Ex _ _ 14 _ _ _ _ _)
      cases h
      exact x_ret dL_fail_14 (by decide : (0 : Int) ≠ 3)
    rcases ite_some h with ⟨b10, h⟩ | ⟨b10, h⟩
    · refine cV1 (e_X11_fail d g4) (contH [(0, 9, 12, 13)] [] (0, 9, 15, 17) x7 (by subst b10; rfl) rfl (by decide) (by decide) cl_RL_17 ca_xIS (cH1 ⟨by decide, _, cl_RL_13, by decide⟩) (h_astore_n (ls2 := [(21, l0), (0, l1), (300001, l2), (3, 0)]) dL_fail_15 rfl (Nat.le_of_ble_eq_true rfl) rfl (?_ : Ex _ _ 16 _ _ _ _ _))) og_X11_fail rfl ml_RL_61 11 rfl rfl c1 im_X11_fail se_X11_fail (Nat.le_of_ble_eq_true rfl) dL_fail_4
      refine x_iconst dL_fail_16 rfl (by decide) (?_ : Ex _ _ 17 _ _ _ _ _)
      cases h
      exact x_ret dL_fail_17 (by decide : (0 : Int) ≠ 3)
    cases h
theorem e_L_fail (d : Nat) {a0 a1 a2 : Int} {m : Mem} {v : Int} {m' : Mem} (h : L_fail a0 a1 a2 m = some (v, m')) : ExM (d + 4) fm_L_fail [(21, a0), (0, a1), (300001, a2)] m (.inl (0, v)) m' := by
  exact ExM.of (by decide +kernel) (Nat.le_of_ble_eq_true rfl) (cat9 rfl) retI (e_L_fail_0 d h)
theorem dL_run_0 : decode cL_run 0 = .ok (.aload_n 3, 1) := by decide +kernel
theorem dL_run_1 : decode cL_run 1 = .ok (.iconst 0, 1) := by decide +kernel
theorem dL_run_2 : decode cL_run 2 = .ok (.aload_n 0, 1) := by decide +kernel
theorem dL_run_3 : decode cL_run 3 = .ok (.iload_n 1, 1) := by decide +kernel
theorem dL_run_4 : decode cL_run 4 = .ok (.iload_n 2, 1) := by decide +kernel
theorem dL_run_5 : decode cL_run 5 = .ok (.invokevirtual 64, 3) := by decide +kernel
theorem dL_run_8 : decode cL_run 8 = .ok (.ifCond .eq 7, 3) := by decide +kernel
theorem dL_run_11 : decode cL_run 11 = .ok (.lconst 1, 1) := by decide +kernel
theorem dL_run_12 : decode cL_run 12 = .ok (.goto 4, 3) := by decide +kernel
theorem dL_run_15 : decode cL_run 15 = .ok (.lconst 0, 1) := by decide +kernel
theorem dL_run_16 : decode cL_run 16 = .ok (.lastore, 1) := by decide +kernel
theorem dL_run_17 : decode cL_run 17 = .ok (.goto 7, 3) := by decide +kernel
theorem dL_run_20 : decode cL_run 20 = .ok (.astore 4, 2) := by decide +kernel
theorem dL_run_22 : decode cL_run 22 = .ok (.iconst 1, 1) := by decide +kernel
theorem dL_run_23 : decode cL_run 23 = .ok (.ireturn, 1) := by decide +kernel
theorem dL_run_24 : decode cL_run 24 = .ok (.iconst 0, 1) := by decide +kernel
theorem dL_run_25 : decode cL_run 25 = .ok (.ireturn, 1) := by decide +kernel
theorem e_L_run_0 (d : Nat) {l0 l1 l2 l3 : Int} {m : Mem} {v : Int} {m' : Mem} (h : L_run_0 l0 l1 l2 l3 m = some (v, m')) : Ex (d + 3) fm_L_run 0 [(21, l0), (0, l1), (0, l2), (300001, l3), (3, 0)] [] m (.inl (0, v)) m' := by
  unfold L_run_0 at h
  refine x_aload_n dL_run_0 rfl rfl (Or.inr (by decide)) (?_ : Ex _ _ 1 _ _ _ _ _)
  refine x_iconst dL_run_1 rfl (by decide) (?_ : Ex _ _ 2 _ _ _ _ _)
  refine x_aload_n dL_run_2 rfl rfl (Or.inr (by decide)) (?_ : Ex _ _ 3 _ _ _ _ _)
  refine x_iload_n dL_run_3 rfl rfl (?_ : Ex _ _ 4 _ _ _ _ _)
  refine x_iload_n dL_run_4 rfl rfl (?_ : Ex _ _ 5 _ _ _ _ _)
  obtain ⟨c1, h⟩ := chk_some h
  rcases calT_some h with ⟨v2, m3, g4, h⟩ | ⟨e11, v2, m3, x10, g4, h⟩
  · refine cV2 (e_X11_run d g4) (cont0 (by decide) (?_ : Ex _ _ 8 _ _ _ _ _)) og_X11_run rfl ml_RL_64 11 rfl rfl c1 im_X11_run se_X11_run (Nat.le_of_ble_eq_true rfl) dL_run_5
    rcases ite_some h with ⟨b5, h⟩ | ⟨b5, h⟩
    · refine x_if_eq (tgt := 15) dL_run_8 rfl b5 (?_ : Ex _ _ 15 _ _ _ _ _)
      refine x_lconst dL_run_15 kl_0 (by decide) (?_ : Ex _ _ 16 _ _ _ _ _)
      obtain ⟨c6, h⟩ := chk_some h
      obtain ⟨m7, hm7, h⟩ := st_some h
      refine sd_l_1 c6 (by decide) (by decide) dL_run_16 (?_ : Ex _ _ 17 _ _ _ _ _)
      rw [← hm7]
      refine x_goto (tgt := 24) dL_run_17 rfl (?_ : Ex _ _ 24 _ _ _ _ _)
      refine x_iconst dL_run_24 rfl (by decide) (?_ : Ex _ _ 25 _ _ _ _ _)
      cases h
      exact x_ret dL_run_25 (by decide : (0 : Int) ≠ 3)
    · refine x_if_eqN dL_run_8 (by decide) b5 (?_ : Ex _ _ 11 _ _ _ _ _)
      refine x_lconst dL_run_11 kl_1 (by decide) (?_ : Ex _ _ 12 _ _ _ _ _)
      refine x_goto (tgt := 16) dL_run_12 rfl (?_ : Ex _ _ 16 _ _ _ _ _)
      obtain ⟨c8, h⟩ := chk_some h
      obtain ⟨m9, hm9, h⟩ := st_some h
      refine sd_l_1 c8 (by decide) (by decide) dL_run_16 (?_ : Ex _ _ 17 _ _ _ _ _)
      rw [← hm9]
      refine x_goto (tgt := 24) dL_run_17 rfl (?_ : Ex _ _ 24 _ _ _ _ _)
      refine x_iconst dL_run_24 rfl (by decide) (?_ : Ex _ _ 25 _ _ _ _ _)
      cases h
      exact x_ret dL_run_25 (by decide : (0 : Int) ≠ 3)
  · rcases ite_some h with ⟨b12, h⟩ | ⟨b12, h⟩
    · refine cV2 (e_X11_run d g4) (contH [] [] (0, 17, 20, 13) x10 (by subst b12; rfl) rfl (by decide) (by decide) cl_RL_13 ca_xIO (fun z hz => nomatch hz) (h_astore (ls2 := [(21, l0), (0, l1), (0, l2), (300001, l3), (3, 0)]) dL_run_20 (Nat.le_of_ble_eq_true rfl) rfl (?_ : Ex _ _ 22 _ _ _ _ _))) og_X11_run rfl ml_RL_64 11 rfl rfl c1 im_X11_run se_X11_run (Nat.le_of_ble_eq_true rfl) dL_run_5
      refine x_iconst dL_run_22 rfl (by decide) (?_ : Ex _ _ 23 _ _ _ _ _)
      cases h
      exact x_ret dL_run_23 (by decide : (0 : Int) ≠ 3)
    cases h
theorem e_L_run (d : Nat) {a0 a1 a2 a3 : Int} {m : Mem} {v : Int} {m' : Mem} (h : L_run a0 a1 a2 a3 m = some (v, m')) : ExM (d + 3) fm_L_run [(21, a0), (0, a1), (0, a2), (300001, a3)] m (.inl (0, v)) m' := by
  exact ExM.of (by decide +kernel) (Nat.le_of_ble_eq_true rfl) (cat9 rfl) retI (e_L_run_0 d h)
theorem dL_ready_0 : decode cL_ready 0 = .ok (.aload_n 2, 1) := by decide +kernel
theorem dL_ready_1 : decode cL_ready 1 = .ok (.iconst 0, 1) := by decide +kernel
theorem dL_ready_2 : decode cL_ready 2 = .ok (.aload_n 0, 1) := by decide +kernel
theorem dL_ready_3 : decode cL_ready 3 = .ok (.iload_n 1, 1) := by decide +kernel
theorem dL_ready_4 : decode cL_ready 4 = .ok (.invokevirtual 68, 3) := by decide +kernel
theorem dL_ready_7 : decode cL_ready 7 = .ok (.i2l, 1) := by decide +kernel
theorem dL_ready_8 : decode cL_ready 8 = .ok (.lastore, 1) := by decide +kernel
theorem dL_ready_9 : decode cL_ready 9 = .ok (.goto 6, 3) := by decide +kernel
theorem dL_ready_12 : decode cL_ready 12 = .ok (.astore_n 3, 1) := by decide +kernel
theorem dL_ready_13 : decode cL_ready 13 = .ok (.iconst 1, 1) := by decide +kernel
theorem dL_ready_14 : decode cL_ready 14 = .ok (.ireturn, 1) := by decide +kernel
theorem dL_ready_15 : decode cL_ready 15 = .ok (.iconst 0, 1) := by decide +kernel
theorem dL_ready_16 : decode cL_ready 16 = .ok (.ireturn, 1) := by decide +kernel
theorem e_L_ready_0 (d : Nat) {l0 l1 l2 : Int} {m : Mem} {v : Int} {m' : Mem} (h : L_ready_0 l0 l1 l2 m = some (v, m')) : Ex (d + 3) fm_L_ready 0 [(21, l0), (0, l1), (300001, l2), (3, 0)] [] m (.inl (0, v)) m' := by
  unfold L_ready_0 at h
  refine x_aload_n dL_ready_0 rfl rfl (Or.inr (by decide)) (?_ : Ex _ _ 1 _ _ _ _ _)
  refine x_iconst dL_ready_1 rfl (by decide) (?_ : Ex _ _ 2 _ _ _ _ _)
  refine x_aload_n dL_ready_2 rfl rfl (Or.inr (by decide)) (?_ : Ex _ _ 3 _ _ _ _ _)
  refine x_iload_n dL_ready_3 rfl rfl (?_ : Ex _ _ 4 _ _ _ _ _)
  obtain ⟨c1, h⟩ := chk_some h
  rcases calT_some h with ⟨v2, m3, g4, h⟩ | ⟨e8, v2, m3, x7, g4, h⟩
  · refine cV1 (e_X11_ready d g4) (cont0 (by decide) (?_ : Ex _ _ 7 _ _ _ _ _)) og_X11_ready rfl ml_RL_68 11 rfl rfl c1 im_X11_ready se_X11_ready (Nat.le_of_ble_eq_true rfl) dL_ready_4
    refine x_i2l dL_ready_7 (?_ : Ex _ _ 8 _ _ _ _ _)
    obtain ⟨c5, h⟩ := chk_some h
    obtain ⟨m6, hm6, h⟩ := st_some h
    refine sd_l_1 c5 (by decide) (by decide) dL_ready_8 (?_ : Ex _ _ 9 _ _ _ _ _)
    rw [← hm6]
    refine x_goto (tgt := 15) dL_ready_9 rfl (?_ : Ex _ _ 15 _ _ _ _ _)
    refine x_iconst dL_ready_15 rfl (by decide) (?_ : Ex _ _ 16 _ _ _ _ _)
    cases h
    exact x_ret dL_ready_16 (by decide : (0 : Int) ≠ 3)
  · rcases ite_some h with ⟨b9, h⟩ | ⟨b9, h⟩
    · refine cV1 (e_X11_ready d g4) (contH [] [] (0, 9, 12, 13) x7 (by subst b9; rfl) rfl (by decide) (by decide) cl_RL_13 ca_xIO (fun z hz => nomatch hz) (h_astore_n (ls2 := [(21, l0), (0, l1), (300001, l2), (3, 0)]) dL_ready_12 rfl (Nat.le_of_ble_eq_true rfl) rfl (?_ : Ex _ _ 13 _ _ _ _ _))) og_X11_ready rfl ml_RL_68 11 rfl rfl c1 im_X11_ready se_X11_ready (Nat.le_of_ble_eq_true rfl) dL_ready_4
      refine x_iconst dL_ready_13 rfl (by decide) (?_ : Ex _ _ 14 _ _ _ _ _)
      cases h
      exact x_ret dL_ready_14 (by decide : (0 : Int) ≠ 3)
    cases h
theorem e_L_ready (d : Nat) {a0 a1 a2 : Int} {m : Mem} {v : Int} {m' : Mem} (h : L_ready a0 a1 a2 m = some (v, m')) : ExM (d + 3) fm_L_ready [(21, a0), (0, a1), (300001, a2)] m (.inl (0, v)) m' := by
  exact ExM.of (by decide +kernel) (Nat.le_of_ble_eq_true rfl) (cat9 rfl) retI (e_L_ready_0 d h)
theorem dL_taken_0 : decode cL_taken 0 = .ok (.aload_n 3, 1) := by decide +kernel
theorem dL_taken_1 : decode cL_taken 1 = .ok (.iconst 0, 1) := by decide +kernel
theorem dL_taken_2 : decode cL_taken 2 = .ok (.aload_n 0, 1) := by decide +kernel
theorem dL_taken_3 : decode cL_taken 3 = .ok (.iload_n 1, 1) := by decide +kernel
theorem dL_taken_4 : decode cL_taken 4 = .ok (.iload_n 2, 1) := by decide +kernel
theorem dL_taken_5 : decode cL_taken 5 = .ok (.invokevirtual 71, 3) := by decide +kernel
theorem dL_taken_8 : decode cL_taken 8 = .ok (.i2l, 1) := by decide +kernel
theorem dL_taken_9 : decode cL_taken 9 = .ok (.lastore, 1) := by decide +kernel
theorem dL_taken_10 : decode cL_taken 10 = .ok (.goto 7, 3) := by decide +kernel
theorem dL_taken_13 : decode cL_taken 13 = .ok (.astore 4, 2) := by decide +kernel
theorem dL_taken_15 : decode cL_taken 15 = .ok (.iconst 1, 1) := by decide +kernel
theorem dL_taken_16 : decode cL_taken 16 = .ok (.ireturn, 1) := by decide +kernel
theorem dL_taken_17 : decode cL_taken 17 = .ok (.iconst 0, 1) := by decide +kernel
theorem dL_taken_18 : decode cL_taken 18 = .ok (.ireturn, 1) := by decide +kernel
theorem e_L_taken_0 (d : Nat) {l0 l1 l2 l3 : Int} {m : Mem} {v : Int} {m' : Mem} (h : L_taken_0 l0 l1 l2 l3 m = some (v, m')) : Ex (d + 4) fm_L_taken 0 [(21, l0), (0, l1), (0, l2), (300001, l3), (3, 0)] [] m (.inl (0, v)) m' := by
  unfold L_taken_0 at h
  refine x_aload_n dL_taken_0 rfl rfl (Or.inr (by decide)) (?_ : Ex _ _ 1 _ _ _ _ _)
  refine x_iconst dL_taken_1 rfl (by decide) (?_ : Ex _ _ 2 _ _ _ _ _)
  refine x_aload_n dL_taken_2 rfl rfl (Or.inr (by decide)) (?_ : Ex _ _ 3 _ _ _ _ _)
  refine x_iload_n dL_taken_3 rfl rfl (?_ : Ex _ _ 4 _ _ _ _ _)
  refine x_iload_n dL_taken_4 rfl rfl (?_ : Ex _ _ 5 _ _ _ _ _)
  obtain ⟨c1, h⟩ := chk_some h
  rcases calT_some h with ⟨v2, m3, g4, h⟩ | ⟨e8, v2, m3, x7, g4, h⟩
  · refine cV2 (e_X11_taken d g4) (cont0 (by decide) (?_ : Ex _ _ 8 _ _ _ _ _)) og_X11_taken rfl ml_RL_71 11 rfl rfl c1 im_X11_taken se_X11_taken (Nat.le_of_ble_eq_true rfl) dL_taken_5
    refine x_i2l dL_taken_8 (?_ : Ex _ _ 9 _ _ _ _ _)
    obtain ⟨c5, h⟩ := chk_some h
    obtain ⟨m6, hm6, h⟩ := st_some h
    refine sd_l_1 c5 (by decide) (by decide) dL_taken_9 (?_ : Ex _ _ 10 _ _ _ _ _)
    rw [← hm6]
    refine x_goto (tgt := 17) dL_taken_10 rfl (?_ : Ex _ _ 17 _ _ _ _ _)
    refine x_iconst dL_taken_17 rfl (by decide) (?_ : Ex _ _ 18 _ _ _ _ _)
    cases h
    exact x_ret dL_taken_18 (by decide : (0 : Int) ≠ 3)
  · rcases ite_some h with ⟨b9, h⟩ | ⟨b9, h⟩
    · refine cV2 (e_X11_taken d g4) (contH [] [] (0, 10, 13, 13) x7 (by subst b9; rfl) rfl (by decide) (by decide) cl_RL_13 ca_xIO (fun z hz => nomatch hz) (h_astore (ls2 := [(21, l0), (0, l1), (0, l2), (300001, l3), (3, 0)]) dL_taken_13 (Nat.le_of_ble_eq_true rfl) rfl (?_ : Ex _ _ 15 _ _ _ _ _))) og_X11_taken rfl ml_RL_71 11 rfl rfl c1 im_X11_taken se_X11_taken (Nat.le_of_ble_eq_true rfl) dL_taken_5
      refine x_iconst dL_taken_15 rfl (by decide) (?_ : Ex _ _ 16 _ _ _ _ _)
      cases h
      exact x_ret dL_taken_16 (by decide : (0 : Int) ≠ 3)
    cases h
theorem e_L_taken (d : Nat) {a0 a1 a2 a3 : Int} {m : Mem} {v : Int} {m' : Mem} (h : L_taken a0 a1 a2 a3 m = some (v, m')) : ExM (d + 4) fm_L_taken [(21, a0), (0, a1), (0, a2), (300001, a3)] m (.inl (0, v)) m' := by
  exact ExM.of (by decide +kernel) (Nat.le_of_ble_eq_true rfl) (cat9 rfl) retI (e_L_taken_0 d h)
theorem dL_tick_0 : decode cL_tick 0 = .ok (.aload_n 2, 1) := by decide +kernel
theorem dL_tick_1 : decode cL_tick 1 = .ok (.iconst 0, 1) := by decide +kernel
theorem dL_tick_2 : decode cL_tick 2 = .ok (.aload_n 0, 1) := by decide +kernel
theorem dL_tick_3 : decode cL_tick 3 = .ok (.iload_n 1, 1) := by decide +kernel
theorem dL_tick_4 : decode cL_tick 4 = .ok (.invokevirtual 74, 3) := by decide +kernel
theorem dL_tick_7 : decode cL_tick 7 = .ok (.i2l, 1) := by decide +kernel
theorem dL_tick_8 : decode cL_tick 8 = .ok (.lastore, 1) := by decide +kernel
theorem dL_tick_9 : decode cL_tick 9 = .ok (.goto 6, 3) := by decide +kernel
theorem dL_tick_12 : decode cL_tick 12 = .ok (.astore_n 3, 1) := by decide +kernel
theorem dL_tick_13 : decode cL_tick 13 = .ok (.iconst 1, 1) := by decide +kernel
theorem dL_tick_14 : decode cL_tick 14 = .ok (.ireturn, 1) := by decide +kernel
theorem dL_tick_15 : decode cL_tick 15 = .ok (.iconst 0, 1) := by decide +kernel
theorem dL_tick_16 : decode cL_tick 16 = .ok (.ireturn, 1) := by decide +kernel
theorem e_L_tick_0 (d : Nat) {l0 l1 l2 : Int} {m : Mem} {v : Int} {m' : Mem} (h : L_tick_0 l0 l1 l2 m = some (v, m')) : Ex (d + 6) fm_L_tick 0 [(21, l0), (0, l1), (300001, l2), (3, 0)] [] m (.inl (0, v)) m' := by
  unfold L_tick_0 at h
  refine x_aload_n dL_tick_0 rfl rfl (Or.inr (by decide)) (?_ : Ex _ _ 1 _ _ _ _ _)
  refine x_iconst dL_tick_1 rfl (by decide) (?_ : Ex _ _ 2 _ _ _ _ _)
  refine x_aload_n dL_tick_2 rfl rfl (Or.inr (by decide)) (?_ : Ex _ _ 3 _ _ _ _ _)
  refine x_iload_n dL_tick_3 rfl rfl (?_ : Ex _ _ 4 _ _ _ _ _)
  obtain ⟨c1, h⟩ := chk_some h
  rcases calT_some h with ⟨v2, m3, g4, h⟩ | ⟨e8, v2, m3, x7, g4, h⟩
  · refine cV1 (e_X11_tick d g4) (cont0 (by decide) (?_ : Ex _ _ 7 _ _ _ _ _)) og_X11_tick rfl ml_RL_74 11 rfl rfl c1 im_X11_tick se_X11_tick (Nat.le_of_ble_eq_true rfl) dL_tick_4
    refine x_i2l dL_tick_7 (?_ : Ex _ _ 8 _ _ _ _ _)
    obtain ⟨c5, h⟩ := chk_some h
    obtain ⟨m6, hm6, h⟩ := st_some h
    refine sd_l_1 c5 (by decide) (by decide) dL_tick_8 (?_ : Ex _ _ 9 _ _ _ _ _)
    rw [← hm6]
    refine x_goto (tgt := 15) dL_tick_9 rfl (?_ : Ex _ _ 15 _ _ _ _ _)
    refine x_iconst dL_tick_15 rfl (by decide) (?_ : Ex _ _ 16 _ _ _ _ _)
    cases h
    exact x_ret dL_tick_16 (by decide : (0 : Int) ≠ 3)
  · rcases ite_some h with ⟨b9, h⟩ | ⟨b9, h⟩
    · refine cV1 (e_X11_tick d g4) (contH [] [] (0, 9, 12, 15) x7 (by subst b9; rfl) rfl (by decide) (by decide) cl_RL_15 ca_xIA (fun z hz => nomatch hz) (h_astore_n (ls2 := [(21, l0), (0, l1), (300001, l2), (3, 0)]) dL_tick_12 rfl (Nat.le_of_ble_eq_true rfl) rfl (?_ : Ex _ _ 13 _ _ _ _ _))) og_X11_tick rfl ml_RL_74 11 rfl rfl c1 im_X11_tick se_X11_tick (Nat.le_of_ble_eq_true rfl) dL_tick_4
      refine x_iconst dL_tick_13 rfl (by decide) (?_ : Ex _ _ 14 _ _ _ _ _)
      cases h
      exact x_ret dL_tick_14 (by decide : (0 : Int) ≠ 3)
    cases h
theorem e_L_tick (d : Nat) {a0 a1 a2 : Int} {m : Mem} {v : Int} {m' : Mem} (h : L_tick a0 a1 a2 m = some (v, m')) : ExM (d + 6) fm_L_tick [(21, a0), (0, a1), (300001, a2)] m (.inl (0, v)) m' := by
  exact ExM.of (by decide +kernel) (Nat.le_of_ble_eq_true rfl) (cat9 rfl) retI (e_L_tick_0 d h)
theorem dL_parent_0 : decode cL_parent 0 = .ok (.aload_n 2, 1) := by decide +kernel
theorem dL_parent_1 : decode cL_parent 1 = .ok (.iconst 0, 1) := by decide +kernel
theorem dL_parent_2 : decode cL_parent 2 = .ok (.aload_n 0, 1) := by decide +kernel
theorem dL_parent_3 : decode cL_parent 3 = .ok (.iload_n 1, 1) := by decide +kernel
theorem dL_parent_4 : decode cL_parent 4 = .ok (.invokevirtual 77, 3) := by decide +kernel
theorem dL_parent_7 : decode cL_parent 7 = .ok (.i2l, 1) := by decide +kernel
theorem dL_parent_8 : decode cL_parent 8 = .ok (.lastore, 1) := by decide +kernel
theorem dL_parent_9 : decode cL_parent 9 = .ok (.goto 6, 3) := by decide +kernel
theorem dL_parent_12 : decode cL_parent 12 = .ok (.astore_n 3, 1) := by decide +kernel
theorem dL_parent_13 : decode cL_parent 13 = .ok (.iconst 1, 1) := by decide +kernel
theorem dL_parent_14 : decode cL_parent 14 = .ok (.ireturn, 1) := by decide +kernel
theorem dL_parent_15 : decode cL_parent 15 = .ok (.iconst 0, 1) := by decide +kernel
theorem dL_parent_16 : decode cL_parent 16 = .ok (.ireturn, 1) := by decide +kernel
theorem e_L_parent_0 (d : Nat) {l0 l1 l2 : Int} {m : Mem} {v : Int} {m' : Mem} (h : L_parent_0 l0 l1 l2 m = some (v, m')) : Ex (d + 3) fm_L_parent 0 [(21, l0), (0, l1), (300001, l2), (3, 0)] [] m (.inl (0, v)) m' := by
  unfold L_parent_0 at h
  refine x_aload_n dL_parent_0 rfl rfl (Or.inr (by decide)) (?_ : Ex _ _ 1 _ _ _ _ _)
  refine x_iconst dL_parent_1 rfl (by decide) (?_ : Ex _ _ 2 _ _ _ _ _)
  refine x_aload_n dL_parent_2 rfl rfl (Or.inr (by decide)) (?_ : Ex _ _ 3 _ _ _ _ _)
  refine x_iload_n dL_parent_3 rfl rfl (?_ : Ex _ _ 4 _ _ _ _ _)
  obtain ⟨c1, h⟩ := chk_some h
  rcases calT_some h with ⟨v2, m3, g4, h⟩ | ⟨e8, v2, m3, x7, g4, h⟩
  · refine cV1 (e_X11_parent d g4) (cont0 (by decide) (?_ : Ex _ _ 7 _ _ _ _ _)) og_X11_parent rfl ml_RL_77 11 rfl rfl c1 im_X11_parent se_X11_parent (Nat.le_of_ble_eq_true rfl) dL_parent_4
    refine x_i2l dL_parent_7 (?_ : Ex _ _ 8 _ _ _ _ _)
    obtain ⟨c5, h⟩ := chk_some h
    obtain ⟨m6, hm6, h⟩ := st_some h
    refine sd_l_1 c5 (by decide) (by decide) dL_parent_8 (?_ : Ex _ _ 9 _ _ _ _ _)
    rw [← hm6]
    refine x_goto (tgt := 15) dL_parent_9 rfl (?_ : Ex _ _ 15 _ _ _ _ _)
    refine x_iconst dL_parent_15 rfl (by decide) (?_ : Ex _ _ 16 _ _ _ _ _)
    cases h
    exact x_ret dL_parent_16 (by decide : (0 : Int) ≠ 3)
  · rcases ite_some h with ⟨b9, h⟩ | ⟨b9, h⟩
    · refine cV1 (e_X11_parent d g4) (contH [] [] (0, 9, 12, 13) x7 (by subst b9; rfl) rfl (by decide) (by decide) cl_RL_13 ca_xIO (fun z hz => nomatch hz) (h_astore_n (ls2 := [(21, l0), (0, l1), (300001, l2), (3, 0)]) dL_parent_12 rfl (Nat.le_of_ble_eq_true rfl) rfl (?_ : Ex _ _ 13 _ _ _ _ _))) og_X11_parent rfl ml_RL_77 11 rfl rfl c1 im_X11_parent se_X11_parent (Nat.le_of_ble_eq_true rfl) dL_parent_4
      refine x_iconst dL_parent_13 rfl (by decide) (?_ : Ex _ _ 14 _ _ _ _ _)
      cases h
      exact x_ret dL_parent_14 (by decide : (0 : Int) ≠ 3)
    cases h
theorem e_L_parent (d : Nat) {a0 a1 a2 : Int} {m : Mem} {v : Int} {m' : Mem} (h : L_parent a0 a1 a2 m = some (v, m')) : ExM (d + 3) fm_L_parent [(21, a0), (0, a1), (300001, a2)] m (.inl (0, v)) m' := by
  exact ExM.of (by decide +kernel) (Nat.le_of_ble_eq_true rfl) (cat9 rfl) retI (e_L_parent_0 d h)
theorem dL_runs_0 : decode cL_runs 0 = .ok (.aload_n 2, 1) := by decide +kernel
theorem dL_runs_1 : decode cL_runs 1 = .ok (.iconst 0, 1) := by decide +kernel
theorem dL_runs_2 : decode cL_runs 2 = .ok (.aload_n 0, 1) := by decide +kernel
theorem dL_runs_3 : decode cL_runs 3 = .ok (.iload_n 1, 1) := by decide +kernel
theorem dL_runs_4 : decode cL_runs 4 = .ok (.invokevirtual 80, 3) := by decide +kernel
theorem dL_runs_7 : decode cL_runs 7 = .ok (.i2l, 1) := by decide +kernel
theorem dL_runs_8 : decode cL_runs 8 = .ok (.lastore, 1) := by decide +kernel
theorem dL_runs_9 : decode cL_runs 9 = .ok (.goto 6, 3) := by decide +kernel
theorem dL_runs_12 : decode cL_runs 12 = .ok (.astore_n 3, 1) := by decide +kernel
theorem dL_runs_13 : decode cL_runs 13 = .ok (.iconst 1, 1) := by decide +kernel
theorem dL_runs_14 : decode cL_runs 14 = .ok (.ireturn, 1) := by decide +kernel
theorem dL_runs_15 : decode cL_runs 15 = .ok (.iconst 0, 1) := by decide +kernel
theorem dL_runs_16 : decode cL_runs 16 = .ok (.ireturn, 1) := by decide +kernel
theorem e_L_runs_0 (d : Nat) {l0 l1 l2 : Int} {m : Mem} {v : Int} {m' : Mem} (h : L_runs_0 l0 l1 l2 m = some (v, m')) : Ex (d + 3) fm_L_runs 0 [(21, l0), (0, l1), (300001, l2), (3, 0)] [] m (.inl (0, v)) m' := by
  unfold L_runs_0 at h
  refine x_aload_n dL_runs_0 rfl rfl (Or.inr (by decide)) (?_ : Ex _ _ 1 _ _ _ _ _)
  refine x_iconst dL_runs_1 rfl (by decide) (?_ : Ex _ _ 2 _ _ _ _ _)
  refine x_aload_n dL_runs_2 rfl rfl (Or.inr (by decide)) (?_ : Ex _ _ 3 _ _ _ _ _)
  refine x_iload_n dL_runs_3 rfl rfl (?_ : Ex _ _ 4 _ _ _ _ _)
  obtain ⟨c1, h⟩ := chk_some h
  rcases calT_some h with ⟨v2, m3, g4, h⟩ | ⟨e8, v2, m3, x7, g4, h⟩
  · refine cV1 (e_X11_runs d g4) (cont0 (by decide) (?_ : Ex _ _ 7 _ _ _ _ _)) og_X11_runs rfl ml_RL_80 11 rfl rfl c1 im_X11_runs se_X11_runs (Nat.le_of_ble_eq_true rfl) dL_runs_4
    refine x_i2l dL_runs_7 (?_ : Ex _ _ 8 _ _ _ _ _)
    obtain ⟨c5, h⟩ := chk_some h
    obtain ⟨m6, hm6, h⟩ := st_some h
    refine sd_l_1 c5 (by decide) (by decide) dL_runs_8 (?_ : Ex _ _ 9 _ _ _ _ _)
    rw [← hm6]
    refine x_goto (tgt := 15) dL_runs_9 rfl (?_ : Ex _ _ 15 _ _ _ _ _)
    refine x_iconst dL_runs_15 rfl (by decide) (?_ : Ex _ _ 16 _ _ _ _ _)
    cases h
    exact x_ret dL_runs_16 (by decide : (0 : Int) ≠ 3)
  · rcases ite_some h with ⟨b9, h⟩ | ⟨b9, h⟩
    · refine cV1 (e_X11_runs d g4) (contH [] [] (0, 9, 12, 13) x7 (by subst b9; rfl) rfl (by decide) (by decide) cl_RL_13 ca_xIO (fun z hz => nomatch hz) (h_astore_n (ls2 := [(21, l0), (0, l1), (300001, l2), (3, 0)]) dL_runs_12 rfl (Nat.le_of_ble_eq_true rfl) rfl (?_ : Ex _ _ 13 _ _ _ _ _))) og_X11_runs rfl ml_RL_80 11 rfl rfl c1 im_X11_runs se_X11_runs (Nat.le_of_ble_eq_true rfl) dL_runs_4
      refine x_iconst dL_runs_13 rfl (by decide) (?_ : Ex _ _ 14 _ _ _ _ _)
      cases h
      exact x_ret dL_runs_14 (by decide : (0 : Int) ≠ 3)
    cases h
theorem e_L_runs (d : Nat) {a0 a1 a2 : Int} {m : Mem} {v : Int} {m' : Mem} (h : L_runs a0 a1 a2 m = some (v, m')) : ExM (d + 3) fm_L_runs [(21, a0), (0, a1), (300001, a2)] m (.inl (0, v)) m' := by
  exact ExM.of (by decide +kernel) (Nat.le_of_ble_eq_true rfl) (cat9 rfl) retI (e_L_runs_0 d h)
theorem dL_state_0 : decode cL_state 0 = .ok (.aload_n 3, 1) := by decide +kernel
theorem dL_state_1 : decode cL_state 1 = .ok (.iconst 0, 1) := by decide +kernel
theorem dL_state_2 : decode cL_state 2 = .ok (.aload_n 0, 1) := by decide +kernel
theorem dL_state_3 : decode cL_state 3 = .ok (.iload_n 1, 1) := by decide +kernel
theorem dL_state_4 : decode cL_state 4 = .ok (.iload_n 2, 1) := by decide +kernel
theorem dL_state_5 : decode cL_state 5 = .ok (.invokevirtual 83, 3) := by decide +kernel
theorem dL_state_8 : decode cL_state 8 = .ok (.i2l, 1) := by decide +kernel
theorem dL_state_9 : decode cL_state 9 = .ok (.lastore, 1) := by decide +kernel
theorem dL_state_10 : decode cL_state 10 = .ok (.goto 7, 3) := by decide +kernel
theorem dL_state_13 : decode cL_state 13 = .ok (.astore 4, 2) := by decide +kernel
theorem dL_state_15 : decode cL_state 15 = .ok (.iconst 1, 1) := by decide +kernel
theorem dL_state_16 : decode cL_state 16 = .ok (.ireturn, 1) := by decide +kernel
theorem dL_state_17 : decode cL_state 17 = .ok (.iconst 0, 1) := by decide +kernel
theorem dL_state_18 : decode cL_state 18 = .ok (.ireturn, 1) := by decide +kernel
theorem e_L_state_0 (d : Nat) {l0 l1 l2 l3 : Int} {m : Mem} {v : Int} {m' : Mem} (h : L_state_0 l0 l1 l2 l3 m = some (v, m')) : Ex (d + 4) fm_L_state 0 [(21, l0), (0, l1), (0, l2), (300001, l3), (3, 0)] [] m (.inl (0, v)) m' := by
  unfold L_state_0 at h
  refine x_aload_n dL_state_0 rfl rfl (Or.inr (by decide)) (?_ : Ex _ _ 1 _ _ _ _ _)
  refine x_iconst dL_state_1 rfl (by decide) (?_ : Ex _ _ 2 _ _ _ _ _)
  refine x_aload_n dL_state_2 rfl rfl (Or.inr (by decide)) (?_ : Ex _ _ 3 _ _ _ _ _)
  refine x_iload_n dL_state_3 rfl rfl (?_ : Ex _ _ 4 _ _ _ _ _)
  refine x_iload_n dL_state_4 rfl rfl (?_ : Ex _ _ 5 _ _ _ _ _)
  obtain ⟨c1, h⟩ := chk_some h
  rcases calT_some h with ⟨v2, m3, g4, h⟩ | ⟨e8, v2, m3, x7, g4, h⟩
  · refine cV2 (e_X11_state d g4) (cont0 (by decide) (?_ : Ex _ _ 8 _ _ _ _ _)) og_X11_state rfl ml_RL_83 11 rfl rfl c1 im_X11_state se_X11_state (Nat.le_of_ble_eq_true rfl) dL_state_5
    refine x_i2l dL_state_8 (?_ : Ex _ _ 9 _ _ _ _ _)
    obtain ⟨c5, h⟩ := chk_some h
    obtain ⟨m6, hm6, h⟩ := st_some h
    refine sd_l_1 c5 (by decide) (by decide) dL_state_9 (?_ : Ex _ _ 10 _ _ _ _ _)
    rw [← hm6]
    refine x_goto (tgt := 17) dL_state_10 rfl (?_ : Ex _ _ 17 _ _ _ _ _)
    refine x_iconst dL_state_17 rfl (by decide) (?_ : Ex _ _ 18 _ _ _ _ _)
    cases h
    exact x_ret dL_state_18 (by decide : (0 : Int) ≠ 3)
  · rcases ite_some h with ⟨b9, h⟩ | ⟨b9, h⟩
    · refine cV2 (e_X11_state d g4) (contH [] [] (0, 10, 13, 13) x7 (by subst b9; rfl) rfl (by decide) (by decide) cl_RL_13 ca_xIO (fun z hz => nomatch hz) (h_astore (ls2 := [(21, l0), (0, l1), (0, l2), (300001, l3), (3, 0)]) dL_state_13 (Nat.le_of_ble_eq_true rfl) rfl (?_ : Ex _ _ 15 _ _ _ _ _))) og_X11_state rfl ml_RL_83 11 rfl rfl c1 im_X11_state se_X11_state (Nat.le_of_ble_eq_true rfl) dL_state_5
      refine x_iconst dL_state_15 rfl (by decide) (?_ : Ex _ _ 16 _ _ _ _ _)
      cases h
      exact x_ret dL_state_16 (by decide : (0 : Int) ≠ 3)
    cases h
theorem e_L_state (d : Nat) {a0 a1 a2 a3 : Int} {m : Mem} {v : Int} {m' : Mem} (h : L_state a0 a1 a2 a3 m = some (v, m')) : ExM (d + 4) fm_L_state [(21, a0), (0, a1), (0, a2), (300001, a3)] m (.inl (0, v)) m' := by
  exact ExM.of (by decide +kernel) (Nat.le_of_ble_eq_true rfl) (cat9 rfl) retI (e_L_state_0 d h)
theorem dL_events_0 : decode cL_events 0 = .ok (.aload_n 3, 1) := by decide +kernel
theorem dL_events_1 : decode cL_events 1 = .ok (.iconst 0, 1) := by decide +kernel
theorem dL_events_2 : decode cL_events 2 = .ok (.aload_n 0, 1) := by decide +kernel
theorem dL_events_3 : decode cL_events 3 = .ok (.iload_n 1, 1) := by decide +kernel
theorem dL_events_4 : decode cL_events 4 = .ok (.iload_n 2, 1) := by decide +kernel
theorem dL_events_5 : decode cL_events 5 = .ok (.invokevirtual 86, 3) := by decide +kernel
theorem dL_events_8 : decode cL_events 8 = .ok (.i2l, 1) := by decide +kernel
theorem dL_events_9 : decode cL_events 9 = .ok (.lastore, 1) := by decide +kernel
theorem dL_events_10 : decode cL_events 10 = .ok (.goto 7, 3) := by decide +kernel
theorem dL_events_13 : decode cL_events 13 = .ok (.astore 4, 2) := by decide +kernel
theorem dL_events_15 : decode cL_events 15 = .ok (.iconst 1, 1) := by decide +kernel
theorem dL_events_16 : decode cL_events 16 = .ok (.ireturn, 1) := by decide +kernel
theorem dL_events_17 : decode cL_events 17 = .ok (.iconst 0, 1) := by decide +kernel
theorem dL_events_18 : decode cL_events 18 = .ok (.ireturn, 1) := by decide +kernel
theorem e_L_events_0 (d : Nat) {l0 l1 l2 l3 : Int} {m : Mem} {v : Int} {m' : Mem} (h : L_events_0 l0 l1 l2 l3 m = some (v, m')) : Ex (d + 4) fm_L_events 0 [(21, l0), (0, l1), (0, l2), (300001, l3), (3, 0)] [] m (.inl (0, v)) m' := by
  unfold L_events_0 at h
  refine x_aload_n dL_events_0 rfl rfl (Or.inr (by decide)) (?_ : Ex _ _ 1 _ _ _ _ _)
  refine x_iconst dL_events_1 rfl (by decide) (?_ : Ex _ _ 2 _ _ _ _ _)
  refine x_aload_n dL_events_2 rfl rfl (Or.inr (by decide)) (?_ : Ex _ _ 3 _ _ _ _ _)
  refine x_iload_n dL_events_3 rfl rfl (?_ : Ex _ _ 4 _ _ _ _ _)
  refine x_iload_n dL_events_4 rfl rfl (?_ : Ex _ _ 5 _ _ _ _ _)
  obtain ⟨c1, h⟩ := chk_some h
  rcases calT_some h with ⟨v2, m3, g4, h⟩ | ⟨e8, v2, m3, x7, g4, h⟩
  · refine cV2 (e_X11_events d g4) (cont0 (by decide) (?_ : Ex _ _ 8 _ _ _ _ _)) og_X11_events rfl ml_RL_86 11 rfl rfl c1 im_X11_events se_X11_events (Nat.le_of_ble_eq_true rfl) dL_events_5
    refine x_i2l dL_events_8 (?_ : Ex _ _ 9 _ _ _ _ _)
    obtain ⟨c5, h⟩ := chk_some h
    obtain ⟨m6, hm6, h⟩ := st_some h
    refine sd_l_1 c5 (by decide) (by decide) dL_events_9 (?_ : Ex _ _ 10 _ _ _ _ _)
    rw [← hm6]
    refine x_goto (tgt := 17) dL_events_10 rfl (?_ : Ex _ _ 17 _ _ _ _ _)
    refine x_iconst dL_events_17 rfl (by decide) (?_ : Ex _ _ 18 _ _ _ _ _)
    cases h
    exact x_ret dL_events_18 (by decide : (0 : Int) ≠ 3)
  · rcases ite_some h with ⟨b9, h⟩ | ⟨b9, h⟩
    · refine cV2 (e_X11_events d g4) (contH [] [] (0, 10, 13, 13) x7 (by subst b9; rfl) rfl (by decide) (by decide) cl_RL_13 ca_xIO (fun z hz => nomatch hz) (h_astore (ls2 := [(21, l0), (0, l1), (0, l2), (300001, l3), (3, 0)]) dL_events_13 (Nat.le_of_ble_eq_true rfl) rfl (?_ : Ex _ _ 15 _ _ _ _ _))) og_X11_events rfl ml_RL_86 11 rfl rfl c1 im_X11_events se_X11_events (Nat.le_of_ble_eq_true rfl) dL_events_5
      refine x_iconst dL_events_15 rfl (by decide) (?_ : Ex _ _ 16 _ _ _ _ _)
      cases h
      exact x_ret dL_events_16 (by decide : (0 : Int) ≠ 3)
    cases h
theorem e_L_events (d : Nat) {a0 a1 a2 a3 : Int} {m : Mem} {v : Int} {m' : Mem} (h : L_events a0 a1 a2 a3 m = some (v, m')) : ExM (d + 4) fm_L_events [(21, a0), (0, a1), (0, a2), (300001, a3)] m (.inl (0, v)) m' := by
  exact ExM.of (by decide +kernel) (Nat.le_of_ble_eq_true rfl) (cat9 rfl) retI (e_L_events_0 d h)
theorem dL_eventKind_0 : decode cL_eventKind 0 = .ok (.aload 4, 2) := by decide +kernel
theorem dL_eventKind_2 : decode cL_eventKind 2 = .ok (.iconst 0, 1) := by decide +kernel
theorem dL_eventKind_3 : decode cL_eventKind 3 = .ok (.aload_n 0, 1) := by decide +kernel
theorem dL_eventKind_4 : decode cL_eventKind 4 = .ok (.iload_n 1, 1) := by decide +kernel
theorem dL_eventKind_5 : decode cL_eventKind 5 = .ok (.iload_n 2, 1) := by decide +kernel
theorem dL_eventKind_6 : decode cL_eventKind 6 = .ok (.iload_n 3, 1) := by decide +kernel
theorem dL_eventKind_7 : decode cL_eventKind 7 = .ok (.invokevirtual 89, 3) := by decide +kernel
theorem dL_eventKind_10 : decode cL_eventKind 10 = .ok (.i2l, 1) := by decide +kernel
theorem dL_eventKind_11 : decode cL_eventKind 11 = .ok (.lastore, 1) := by decide +kernel
theorem dL_eventKind_12 : decode cL_eventKind 12 = .ok (.goto 7, 3) := by decide +kernel
theorem dL_eventKind_15 : decode cL_eventKind 15 = .ok (.astore 5, 2) := by decide +kernel
theorem dL_eventKind_17 : decode cL_eventKind 17 = .ok (.iconst 1, 1) := by decide +kernel
theorem dL_eventKind_18 : decode cL_eventKind 18 = .ok (.ireturn, 1) := by decide +kernel
theorem dL_eventKind_19 : decode cL_eventKind 19 = .ok (.iconst 0, 1) := by decide +kernel
theorem dL_eventKind_20 : decode cL_eventKind 20 = .ok (.ireturn, 1) := by decide +kernel
theorem e_L_eventKind_0 (d : Nat) {l0 l1 l2 l3 l4 : Int} {m : Mem} {v : Int} {m' : Mem} (h : L_eventKind_0 l0 l1 l2 l3 l4 m = some (v, m')) : Ex (d + 5) fm_L_eventKind 0 [(21, l0), (0, l1), (0, l2), (0, l3), (300001, l4), (3, 0)] [] m (.inl (0, v)) m' := by
  unfold L_eventKind_0 at h
  refine x_aload dL_eventKind_0 rfl (Or.inr (by decide)) (?_ : Ex _ _ 2 _ _ _ _ _)
  refine x_iconst dL_eventKind_2 rfl (by decide) (?_ : Ex _ _ 3 _ _ _ _ _)
  refine x_aload_n dL_eventKind_3 rfl rfl (Or.inr (by decide)) (?_ : Ex _ _ 4 _ _ _ _ _)
  refine x_iload_n dL_eventKind_4 rfl rfl (?_ : Ex _ _ 5 _ _ _ _ _)
  refine x_iload_n dL_eventKind_5 rfl rfl (?_ : Ex _ _ 6 _ _ _ _ _)
  refine x_iload_n dL_eventKind_6 rfl rfl (?_ : Ex _ _ 7 _ _ _ _ _)
  obtain ⟨c1, h⟩ := chk_some h
  rcases calT_some h with ⟨v2, m3, g4, h⟩ | ⟨e8, v2, m3, x7, g4, h⟩
  · refine cV3 (e_X11_eventKind d g4) (cont0 (by decide) (?_ : Ex _ _ 10 _ _ _ _ _)) og_X11_eventKind rfl ml_RL_89 11 rfl rfl c1 im_X11_eventKind se_X11_eventKind (Nat.le_of_ble_eq_true rfl) dL_eventKind_7
    refine x_i2l dL_eventKind_10 (?_ : Ex _ _ 11 _ _ _ _ _)
    obtain ⟨c5, h⟩ := chk_some h
    obtain ⟨m6, hm6, h⟩ := st_some h
    refine sd_l_1 c5 (by decide) (by decide) dL_eventKind_11 (?_ : Ex _ _ 12 _ _ _ _ _)
    rw [← hm6]
    refine x_goto (tgt := 19) dL_eventKind_12 rfl (?_ : Ex _ _ 19 _ _ _ _ _)
    refine x_iconst dL_eventKind_19 rfl (by decide) (?_ : Ex _ _ 20 _ _ _ _ _)
    cases h
    exact x_ret dL_eventKind_20 (by decide : (0 : Int) ≠ 3)
  · rcases ite_some h with ⟨b9, h⟩ | ⟨b9, h⟩
    · refine cV3 (e_X11_eventKind d g4) (contH [] [] (0, 12, 15, 13) x7 (by subst b9; rfl) rfl (by decide) (by decide) cl_RL_13 ca_xIO (fun z hz => nomatch hz) (h_astore (ls2 := [(21, l0), (0, l1), (0, l2), (0, l3), (300001, l4), (3, 0)]) dL_eventKind_15 (Nat.le_of_ble_eq_true rfl) rfl (?_ : Ex _ _ 17 _ _ _ _ _))) og_X11_eventKind rfl ml_RL_89 11 rfl rfl c1 im_X11_eventKind se_X11_eventKind (Nat.le_of_ble_eq_true rfl) dL_eventKind_7
      refine x_iconst dL_eventKind_17 rfl (by decide) (?_ : Ex _ _ 18 _ _ _ _ _)
      cases h
      exact x_ret dL_eventKind_18 (by decide : (0 : Int) ≠ 3)
    cases h
theorem e_L_eventKind (d : Nat) {a0 a1 a2 a3 a4 : Int} {m : Mem} {v : Int} {m' : Mem} (h : L_eventKind a0 a1 a2 a3 a4 m = some (v, m')) : ExM (d + 5) fm_L_eventKind [(21, a0), (0, a1), (0, a2), (0, a3), (300001, a4)] m (.inl (0, v)) m' := by
  exact ExM.of (by decide +kernel) (Nat.le_of_ble_eq_true rfl) (cat9 rfl) retI (e_L_eventKind_0 d h)
theorem dL_eventNumber_0 : decode cL_eventNumber 0 = .ok (.aload 5, 2) := by decide +kernel
theorem dL_eventNumber_2 : decode cL_eventNumber 2 = .ok (.iconst 0, 1) := by decide +kernel
theorem dL_eventNumber_3 : decode cL_eventNumber 3 = .ok (.aload_n 0, 1) := by decide +kernel
theorem dL_eventNumber_4 : decode cL_eventNumber 4 = .ok (.iload_n 1, 1) := by decide +kernel
theorem dL_eventNumber_5 : decode cL_eventNumber 5 = .ok (.iload_n 2, 1) := by decide +kernel
theorem dL_eventNumber_6 : decode cL_eventNumber 6 = .ok (.iload_n 3, 1) := by decide +kernel
theorem dL_eventNumber_7 : decode cL_eventNumber 7 = .ok (.iload 4, 2) := by decide +kernel
theorem dL_eventNumber_9 : decode cL_eventNumber 9 = .ok (.invokevirtual 92, 3) := by decide +kernel
theorem dL_eventNumber_12 : decode cL_eventNumber 12 = .ok (.i2l, 1) := by decide +kernel
theorem dL_eventNumber_13 : decode cL_eventNumber 13 = .ok (.lastore, 1) := by decide +kernel
theorem dL_eventNumber_14 : decode cL_eventNumber 14 = .ok (.goto 7, 3) := by decide +kernel
theorem dL_eventNumber_17 : decode cL_eventNumber 17 = .ok (.astore 6, 2) := by decide +kernel
theorem dL_eventNumber_19 : decode cL_eventNumber 19 = .ok (.iconst 1, 1) := by decide +kernel
theorem dL_eventNumber_20 : decode cL_eventNumber 20 = .ok (.ireturn, 1) := by decide +kernel
theorem dL_eventNumber_21 : decode cL_eventNumber 21 = .ok (.iconst 0, 1) := by decide +kernel
theorem dL_eventNumber_22 : decode cL_eventNumber 22 = .ok (.ireturn, 1) := by decide +kernel
theorem e_L_eventNumber_0 (d : Nat) {l0 l1 l2 l3 l4 l5 : Int} {m : Mem} {v : Int} {m' : Mem} (h : L_eventNumber_0 l0 l1 l2 l3 l4 l5 m = some (v, m')) : Ex (d + 5) fm_L_eventNumber 0 [(21, l0), (0, l1), (0, l2), (0, l3), (0, l4), (300001, l5), (3, 0)] [] m (.inl (0, v)) m' := by
  unfold L_eventNumber_0 at h
  refine x_aload dL_eventNumber_0 rfl (Or.inr (by decide)) (?_ : Ex _ _ 2 _ _ _ _ _)
  refine x_iconst dL_eventNumber_2 rfl (by decide) (?_ : Ex _ _ 3 _ _ _ _ _)
  refine x_aload_n dL_eventNumber_3 rfl rfl (Or.inr (by decide)) (?_ : Ex _ _ 4 _ _ _ _ _)
  refine x_iload_n dL_eventNumber_4 rfl rfl (?_ : Ex _ _ 5 _ _ _ _ _)
  refine x_iload_n dL_eventNumber_5 rfl rfl (?_ : Ex _ _ 6 _ _ _ _ _)
  refine x_iload_n dL_eventNumber_6 rfl rfl (?_ : Ex _ _ 7 _ _ _ _ _)
  refine x_iload dL_eventNumber_7 rfl (?_ : Ex _ _ 9 _ _ _ _ _)
  obtain ⟨c1, h⟩ := chk_some h
  rcases calT_some h with ⟨v2, m3, g4, h⟩ | ⟨e8, v2, m3, x7, g4, h⟩
  · refine cV4 (e_X11_eventNumber d g4) (cont0 (by decide) (?_ : Ex _ _ 12 _ _ _ _ _)) og_X11_eventNumber rfl ml_RL_92 11 rfl rfl c1 im_X11_eventNumber se_X11_eventNumber (Nat.le_of_ble_eq_true rfl) dL_eventNumber_9
    refine x_i2l dL_eventNumber_12 (?_ : Ex _ _ 13 _ _ _ _ _)
    obtain ⟨c5, h⟩ := chk_some h
    obtain ⟨m6, hm6, h⟩ := st_some h
    refine sd_l_1 c5 (by decide) (by decide) dL_eventNumber_13 (?_ : Ex _ _ 14 _ _ _ _ _)
    rw [← hm6]
    refine x_goto (tgt := 21) dL_eventNumber_14 rfl (?_ : Ex _ _ 21 _ _ _ _ _)
    refine x_iconst dL_eventNumber_21 rfl (by decide) (?_ : Ex _ _ 22 _ _ _ _ _)
    cases h
    exact x_ret dL_eventNumber_22 (by decide : (0 : Int) ≠ 3)
  · rcases ite_some h with ⟨b9, h⟩ | ⟨b9, h⟩
    · refine cV4 (e_X11_eventNumber d g4) (contH [] [] (0, 14, 17, 13) x7 (by subst b9; rfl) rfl (by decide) (by decide) cl_RL_13 ca_xIO (fun z hz => nomatch hz) (h_astore (ls2 := [(21, l0), (0, l1), (0, l2), (0, l3), (0, l4), (300001, l5), (3, 0)]) dL_eventNumber_17 (Nat.le_of_ble_eq_true rfl) rfl (?_ : Ex _ _ 19 _ _ _ _ _))) og_X11_eventNumber rfl ml_RL_92 11 rfl rfl c1 im_X11_eventNumber se_X11_eventNumber (Nat.le_of_ble_eq_true rfl) dL_eventNumber_9
      refine x_iconst dL_eventNumber_19 rfl (by decide) (?_ : Ex _ _ 20 _ _ _ _ _)
      cases h
      exact x_ret dL_eventNumber_20 (by decide : (0 : Int) ≠ 3)
    cases h
theorem e_L_eventNumber (d : Nat) {a0 a1 a2 a3 a4 a5 : Int} {m : Mem} {v : Int} {m' : Mem} (h : L_eventNumber a0 a1 a2 a3 a4 a5 m = some (v, m')) : ExM (d + 5) fm_L_eventNumber [(21, a0), (0, a1), (0, a2), (0, a3), (0, a4), (300001, a5)] m (.inl (0, v)) m' := by
  exact ExM.of (by decide +kernel) (Nat.le_of_ble_eq_true rfl) (cat9 rfl) retI (e_L_eventNumber_0 d h)
theorem dL_property_0 : decode cL_property 0 = .ok (.aload_n 3, 1) := by decide +kernel
theorem dL_property_1 : decode cL_property 1 = .ok (.iconst 0, 1) := by decide +kernel
theorem dL_property_2 : decode cL_property 2 = .ok (.aload_n 0, 1) := by decide +kernel
theorem dL_property_3 : decode cL_property 3 = .ok (.iload_n 1, 1) := by decide +kernel
theorem dL_property_4 : decode cL_property 4 = .ok (.iload_n 2, 1) := by decide +kernel
theorem dL_property_5 : decode cL_property 5 = .ok (.invokevirtual 96, 3) := by decide +kernel
theorem dL_property_8 : decode cL_property 8 = .ok (.i2l, 1) := by decide +kernel
theorem dL_property_9 : decode cL_property 9 = .ok (.lastore, 1) := by decide +kernel
theorem dL_property_10 : decode cL_property 10 = .ok (.goto 11, 3) := by decide +kernel
theorem dL_property_13 : decode cL_property 13 = .ok (.astore 4, 2) := by decide +kernel
theorem dL_property_15 : decode cL_property 15 = .ok (.iconst 1, 1) := by decide +kernel
theorem dL_property_16 : decode cL_property 16 = .ok (.ireturn, 1) := by decide +kernel
theorem dL_property_17 : decode cL_property 17 = .ok (.astore 4, 2) := by decide +kernel
theorem dL_property_19 : decode cL_property 19 = .ok (.iconst 2, 1) := by decide +kernel
theorem dL_property_20 : decode cL_property 20 = .ok (.ireturn, 1) := by decide +kernel
theorem dL_property_21 : decode cL_property 21 = .ok (.iconst 0, 1) := by decide +kernel
theorem dL_property_22 : decode cL_property 22 = .ok (.ireturn, 1) := by decide +kernel
theorem e_L_property_0 (d : Nat) {l0 l1 l2 l3 : Int} {m : Mem} {v : Int} {m' : Mem} (h : L_property_0 l0 l1 l2 l3 m = some (v, m')) : Ex (d + 3) fm_L_property 0 [(21, l0), (0, l1), (0, l2), (300001, l3), (3, 0)] [] m (.inl (0, v)) m' := by
  unfold L_property_0 at h
  refine x_aload_n dL_property_0 rfl rfl (Or.inr (by decide)) (?_ : Ex _ _ 1 _ _ _ _ _)
  refine x_iconst dL_property_1 rfl (by decide) (?_ : Ex _ _ 2 _ _ _ _ _)
  refine x_aload_n dL_property_2 rfl rfl (Or.inr (by decide)) (?_ : Ex _ _ 3 _ _ _ _ _)
  refine x_iload_n dL_property_3 rfl rfl (?_ : Ex _ _ 4 _ _ _ _ _)
  refine x_iload_n dL_property_4 rfl rfl (?_ : Ex _ _ 5 _ _ _ _ _)
  obtain ⟨c1, h⟩ := chk_some h
  rcases calT_some h with ⟨v2, m3, g4, h⟩ | ⟨e8, v2, m3, x7, g4, h⟩
  · refine cV2 (e_X11_property d g4) (cont0 (by decide) (?_ : Ex _ _ 8 _ _ _ _ _)) og_X11_property rfl ml_RL_96 11 rfl rfl c1 im_X11_property se_X11_property (Nat.le_of_ble_eq_true rfl) dL_property_5
    refine x_i2l dL_property_8 (?_ : Ex _ _ 9 _ _ _ _ _)
    obtain ⟨c5, h⟩ := chk_some h
    obtain ⟨m6, hm6, h⟩ := st_some h
    refine sd_l_1 c5 (by decide) (by decide) dL_property_9 (?_ : Ex _ _ 10 _ _ _ _ _)
    rw [← hm6]
    refine x_goto (tgt := 21) dL_property_10 rfl (?_ : Ex _ _ 21 _ _ _ _ _)
    refine x_iconst dL_property_21 rfl (by decide) (?_ : Ex _ _ 22 _ _ _ _ _)
    cases h
    exact x_ret dL_property_22 (by decide : (0 : Int) ≠ 3)
  · rcases ite_some h with ⟨b9, h⟩ | ⟨b9, h⟩
    · refine cV2 (e_X11_property d g4) (contH [] [(0, 10, 17, 15)] (0, 10, 13, 13) x7 (by subst b9; rfl) rfl (by decide) (by decide) cl_RL_13 ca_xIO (fun z hz => nomatch hz) (h_astore (ls2 := [(21, l0), (0, l1), (0, l2), (300001, l3), (3, 0)]) dL_property_13 (Nat.le_of_ble_eq_true rfl) rfl (?_ : Ex _ _ 15 _ _ _ _ _))) og_X11_property rfl ml_RL_96 11 rfl rfl c1 im_X11_property se_X11_property (Nat.le_of_ble_eq_true rfl) dL_property_5
      refine x_iconst dL_property_15 rfl (by decide) (?_ : Ex _ _ 16 _ _ _ _ _)
      cases h
      exact x_ret dL_property_16 (by decide : (0 : Int) ≠ 3)
    rcases ite_some h with ⟨b10, h⟩ | ⟨b10, h⟩
    · refine cV2 (e_X11_property d g4) (contH [(0, 10, 13, 13)] [] (0, 10, 17, 15) x7 (by subst b10; rfl) rfl (by decide) (by decide) cl_RL_15 ca_xIA (cH1 ⟨by decide, _, cl_RL_13, by decide⟩) (h_astore (ls2 := [(21, l0), (0, l1), (0, l2), (300001, l3), (3, 0)]) dL_property_17 (Nat.le_of_ble_eq_true rfl) rfl (?_ : Ex _ _ 19 _ _ _ _ _))) og_X11_property rfl ml_RL_96 11 rfl rfl c1 im_X11_property se_X11_property (Nat.le_of_ble_eq_true rfl) dL_property_5
      refine x_iconst dL_property_19 rfl (by decide) (?_ : Ex _ _ 20 _ _ _ _ _)
      cases h
      exact x_ret dL_property_20 (by decide : (0 : Int) ≠ 3)
    cases h
theorem e_L_property (d : Nat) {a0 a1 a2 a3 : Int} {m : Mem} {v : Int} {m' : Mem} (h : L_property a0 a1 a2 a3 m = some (v, m')) : ExM (d + 3) fm_L_property [(21, a0), (0, a1), (0, a2), (300001, a3)] m (.inl (0, v)) m' := by
  exact ExM.of (by decide +kernel) (Nat.le_of_ble_eq_true rfl) (cat9 rfl) retI (e_L_property_0 d h)
theorem dL_found_0 : decode cL_found 0 = .ok (.aload 4, 2) := by decide +kernel
theorem dL_found_2 : decode cL_found 2 = .ok (.iconst 0, 1) := by decide +kernel
theorem dL_found_3 : decode cL_found 3 = .ok (.aload_n 0, 1) := by decide +kernel
theorem dL_found_4 : decode cL_found 4 = .ok (.iload_n 1, 1) := by decide +kernel
theorem dL_found_5 : decode cL_found 5 = .ok (.iload_n 2, 1) := by decide +kernel
theorem dL_found_6 : decode cL_found 6 = .ok (.iload_n 3, 1) := by decide +kernel
theorem dL_found_7 : decode cL_found 7 = .ok (.invokevirtual 99, 3) := by decide +kernel
theorem dL_found_10 : decode cL_found 10 = .ok (.i2l, 1) := by decide +kernel
theorem dL_found_11 : decode cL_found 11 = .ok (.lastore, 1) := by decide +kernel
theorem dL_found_12 : decode cL_found 12 = .ok (.goto 7, 3) := by decide +kernel
theorem dL_found_15 : decode cL_found 15 = .ok (.astore 5, 2) := by decide +kernel
theorem dL_found_17 : decode cL_found 17 = .ok (.iconst 1, 1) := by decide +kernel
theorem dL_found_18 : decode cL_found 18 = .ok (.ireturn, 1) := by decide +kernel
theorem dL_found_19 : decode cL_found 19 = .ok (.iconst 0, 1) := by decide +kernel
theorem dL_found_20 : decode cL_found 20 = .ok (.ireturn, 1) := by decide +kernel
theorem e_L_found_0 (d : Nat) {l0 l1 l2 l3 l4 : Int} {m : Mem} {v : Int} {m' : Mem} (h : L_found_0 l0 l1 l2 l3 l4 m = some (v, m')) : Ex (d + 3) fm_L_found 0 [(21, l0), (0, l1), (0, l2), (0, l3), (300001, l4), (3, 0)] [] m (.inl (0, v)) m' := by
  unfold L_found_0 at h
  refine x_aload dL_found_0 rfl (Or.inr (by decide)) (?_ : Ex _ _ 2 _ _ _ _ _)
  refine x_iconst dL_found_2 rfl (by decide) (?_ : Ex _ _ 3 _ _ _ _ _)
  refine x_aload_n dL_found_3 rfl rfl (Or.inr (by decide)) (?_ : Ex _ _ 4 _ _ _ _ _)
  refine x_iload_n dL_found_4 rfl rfl (?_ : Ex _ _ 5 _ _ _ _ _)
  refine x_iload_n dL_found_5 rfl rfl (?_ : Ex _ _ 6 _ _ _ _ _)
  refine x_iload_n dL_found_6 rfl rfl (?_ : Ex _ _ 7 _ _ _ _ _)
  obtain ⟨c1, h⟩ := chk_some h
  rcases calT_some h with ⟨v2, m3, g4, h⟩ | ⟨e8, v2, m3, x7, g4, h⟩
  · refine cV3 (e_X11_found d g4) (cont0 (by decide) (?_ : Ex _ _ 10 _ _ _ _ _)) og_X11_found rfl ml_RL_99 11 rfl rfl c1 im_X11_found se_X11_found (Nat.le_of_ble_eq_true rfl) dL_found_7
    refine x_i2l dL_found_10 (?_ : Ex _ _ 11 _ _ _ _ _)
    obtain ⟨c5, h⟩ := chk_some h
    obtain ⟨m6, hm6, h⟩ := st_some h
    refine sd_l_1 c5 (by decide) (by decide) dL_found_11 (?_ : Ex _ _ 12 _ _ _ _ _)
    rw [← hm6]
    refine x_goto (tgt := 19) dL_found_12 rfl (?_ : Ex _ _ 19 _ _ _ _ _)
    refine x_iconst dL_found_19 rfl (by decide) (?_ : Ex _ _ 20 _ _ _ _ _)
    cases h
    exact x_ret dL_found_20 (by decide : (0 : Int) ≠ 3)
  · rcases ite_some h with ⟨b9, h⟩ | ⟨b9, h⟩
    · refine cV3 (e_X11_found d g4) (contH [] [] (0, 12, 15, 15) x7 (by subst b9; rfl) rfl (by decide) (by decide) cl_RL_15 ca_xIA (fun z hz => nomatch hz) (h_astore (ls2 := [(21, l0), (0, l1), (0, l2), (0, l3), (300001, l4), (3, 0)]) dL_found_15 (Nat.le_of_ble_eq_true rfl) rfl (?_ : Ex _ _ 17 _ _ _ _ _))) og_X11_found rfl ml_RL_99 11 rfl rfl c1 im_X11_found se_X11_found (Nat.le_of_ble_eq_true rfl) dL_found_7
      refine x_iconst dL_found_17 rfl (by decide) (?_ : Ex _ _ 18 _ _ _ _ _)
      cases h
      exact x_ret dL_found_18 (by decide : (0 : Int) ≠ 3)
    cases h
theorem e_L_found (d : Nat) {a0 a1 a2 a3 a4 : Int} {m : Mem} {v : Int} {m' : Mem} (h : L_found a0 a1 a2 a3 a4 m = some (v, m')) : ExM (d + 3) fm_L_found [(21, a0), (0, a1), (0, a2), (0, a3), (300001, a4)] m (.inl (0, v)) m' := by
  exact ExM.of (by decide +kernel) (Nat.le_of_ble_eq_true rfl) (cat9 rfl) retI (e_L_found_0 d h)
theorem dL_isDue_0 : decode cL_isDue 0 = .ok (.aload_n 2, 1) := by decide +kernel
theorem dL_isDue_1 : decode cL_isDue 1 = .ok (.iconst 0, 1) := by decide +kernel
theorem dL_isDue_2 : decode cL_isDue 2 = .ok (.aload_n 0, 1) := by decide +kernel
theorem dL_isDue_3 : decode cL_isDue 3 = .ok (.iload_n 1, 1) := by decide +kernel
theorem dL_isDue_4 : decode cL_isDue 4 = .ok (.invokevirtual 102, 3) := by decide +kernel
theorem dL_isDue_7 : decode cL_isDue 7 = .ok (.ifCond .eq 7, 3) := by decide +kernel
theorem dL_isDue_10 : decode cL_isDue 10 = .ok (.lconst 1, 1) := by decide +kernel
theorem dL_isDue_11 : decode cL_isDue 11 = .ok (.goto 4, 3) := by decide +kernel
theorem dL_isDue_14 : decode cL_isDue 14 = .ok (.lconst 0, 1) := by decide +kernel
theorem dL_isDue_15 : decode cL_isDue 15 = .ok (.lastore, 1) := by decide +kernel
theorem dL_isDue_16 : decode cL_isDue 16 = .ok (.goto 6, 3) := by decide +kernel
theorem dL_isDue_19 : decode cL_isDue 19 = .ok (.astore_n 3, 1) := by decide +kernel
theorem dL_isDue_20 : decode cL_isDue 20 = .ok (.iconst 1, 1) := by decide +kernel
theorem dL_isDue_21 : decode cL_isDue 21 = .ok (.ireturn, 1) := by decide +kernel
theorem dL_isDue_22 : decode cL_isDue 22 = .ok (.iconst 0, 1) := by decide +kernel
theorem dL_isDue_23 : decode cL_isDue 23 = .ok (.ireturn, 1) := by decide +kernel
theorem e_L_isDue_0 (d : Nat) {l0 l1 l2 : Int} {m : Mem} {v : Int} {m' : Mem} (h : L_isDue_0 l0 l1 l2 m = some (v, m')) : Ex (d + 3) fm_L_isDue 0 [(21, l0), (0, l1), (300001, l2), (3, 0)] [] m (.inl (0, v)) m' := by
  unfold L_isDue_0 at h
  refine x_aload_n dL_isDue_0 rfl rfl (Or.inr (by decide)) (?_ : Ex _ _ 1 _ _ _ _ _)
  refine x_iconst dL_isDue_1 rfl (by decide) (?_ : Ex _ _ 2 _ _ _ _ _)
  refine x_aload_n dL_isDue_2 rfl rfl (Or.inr (by decide)) (?_ : Ex _ _ 3 _ _ _ _ _)
  refine x_iload_n dL_isDue_3 rfl rfl (?_ : Ex _ _ 4 _ _ _ _ _)
  obtain ⟨c1, h⟩ := chk_some h
  rcases calT_some h with ⟨v2, m3, g4, h⟩ | ⟨e11, v2, m3, x10, g4, h⟩
  · refine cV1 (e_X11_isDue d g4) (cont0 (by decide) (?_ : Ex _ _ 7 _ _ _ _ _)) og_X11_isDue rfl ml_RL_102 11 rfl rfl c1 im_X11_isDue se_X11_isDue (Nat.le_of_ble_eq_true rfl) dL_isDue_4
    rcases ite_some h with ⟨b5, h⟩ | ⟨b5, h⟩
    · refine x_if_eq (tgt := 14) dL_isDue_7 rfl b5 (?_ : Ex _ _ 14 _ _ _ _ _)
      refine x_lconst dL_isDue_14 kl_0 (by decide) (?_ : Ex _ _ 15 _ _ _ _ _)
      obtain ⟨c6, h⟩ := chk_some h
      obtain ⟨m7, hm7, h⟩ := st_some h
      refine sd_l_1 c6 (by decide) (by decide) dL_isDue_15 (?_ : Ex _ _ 16 _ _ _ _ _)
      rw [← hm7]
      refine x_goto (tgt := 22) dL_isDue_16 rfl (?_ : Ex _ _ 22 _ _ _ _ _)
      refine x_iconst dL_isDue_22 rfl (by decide) (?_ : Ex _ _ 23 _ _ _ _ _)
      cases h
      exact x_ret dL_isDue_23 (by decide : (0 : Int) ≠ 3)
    · refine x_if_eqN dL_isDue_7 (by decide) b5 (?_ : Ex _ _ 10 _ _ _ _ _)
      refine x_lconst dL_isDue_10 kl_1 (by decide) (?_ : Ex _ _ 11 _ _ _ _ _)
      refine x_goto (tgt := 15) dL_isDue_11 rfl (?_ : Ex _ _ 15 _ _ _ _ _)
      obtain ⟨c8, h⟩ := chk_some h
      obtain ⟨m9, hm9, h⟩ := st_some h
      refine sd_l_1 c8 (by decide) (by decide) dL_isDue_15 (?_ : Ex _ _ 16 _ _ _ _ _)
      rw [← hm9]
      refine x_goto (tgt := 22) dL_isDue_16 rfl (?_ : Ex _ _ 22 _ _ _ _ _)
      refine x_iconst dL_isDue_22 rfl (by decide) (?_ : Ex _ _ 23 _ _ _ _ _)
      cases h
      exact x_ret dL_isDue_23 (by decide : (0 : Int) ≠ 3)
  · rcases ite_some h with ⟨b12, h⟩ | ⟨b12, h⟩
    · refine cV1 (e_X11_isDue d g4) (contH [] [] (0, 16, 19, 13) x10 (by subst b12; rfl) rfl (by decide) (by decide) cl_RL_13 ca_xIO (fun z hz => nomatch hz) (h_astore_n (ls2 := [(21, l0), (0, l1), (300001, l2), (3, 0)]) dL_isDue_19 rfl (Nat.le_of_ble_eq_true rfl) rfl (?_ : Ex _ _ 20 _ _ _ _ _))) og_X11_isDue rfl ml_RL_102 11 rfl rfl c1 im_X11_isDue se_X11_isDue (Nat.le_of_ble_eq_true rfl) dL_isDue_4
      refine x_iconst dL_isDue_20 rfl (by decide) (?_ : Ex _ _ 21 _ _ _ _ _)
      cases h
      exact x_ret dL_isDue_21 (by decide : (0 : Int) ≠ 3)
    cases h
theorem e_L_isDue (d : Nat) {a0 a1 a2 : Int} {m : Mem} {v : Int} {m' : Mem} (h : L_isDue a0 a1 a2 m = some (v, m')) : ExM (d + 3) fm_L_isDue [(21, a0), (0, a1), (300001, a2)] m (.inl (0, v)) m' := by
  exact ExM.of (by decide +kernel) (Nat.le_of_ble_eq_true rfl) (cat9 rfl) retI (e_L_isDue_0 d h)
theorem dL_register_0 : decode cL_register 0 = .ok (.aload_n 2, 1) := by decide +kernel
theorem dL_register_1 : decode cL_register 1 = .ok (.iconst 0, 1) := by decide +kernel
theorem dL_register_2 : decode cL_register 2 = .ok (.aload_n 0, 1) := by decide +kernel
theorem dL_register_3 : decode cL_register 3 = .ok (.iload_n 1, 1) := by decide +kernel
theorem dL_register_4 : decode cL_register 4 = .ok (.invokevirtual 105, 3) := by decide +kernel
theorem dL_register_7 : decode cL_register 7 = .ok (.i2l, 1) := by decide +kernel
theorem dL_register_8 : decode cL_register 8 = .ok (.lastore, 1) := by decide +kernel
theorem dL_register_9 : decode cL_register 9 = .ok (.goto 6, 3) := by decide +kernel
theorem dL_register_12 : decode cL_register 12 = .ok (.astore_n 3, 1) := by decide +kernel
theorem dL_register_13 : decode cL_register 13 = .ok (.iconst 1, 1) := by decide +kernel
theorem dL_register_14 : decode cL_register 14 = .ok (.ireturn, 1) := by decide +kernel
theorem dL_register_15 : decode cL_register 15 = .ok (.iconst 0, 1) := by decide +kernel
theorem dL_register_16 : decode cL_register 16 = .ok (.ireturn, 1) := by decide +kernel
theorem e_L_register_0 (d : Nat) {l0 l1 l2 : Int} {m : Mem} {v : Int} {m' : Mem} (h : L_register_0 l0 l1 l2 m = some (v, m')) : Ex (d + 3) fm_L_register 0 [(21, l0), (0, l1), (300001, l2), (3, 0)] [] m (.inl (0, v)) m' := by
  unfold L_register_0 at h
  refine x_aload_n dL_register_0 rfl rfl (Or.inr (by decide)) (?_ : Ex _ _ 1 _ _ _ _ _)
  refine x_iconst dL_register_1 rfl (by decide) (?_ : Ex _ _ 2 _ _ _ _ _)
  refine x_aload_n dL_register_2 rfl rfl (Or.inr (by decide)) (?_ : Ex _ _ 3 _ _ _ _ _)
  refine x_iload_n dL_register_3 rfl rfl (?_ : Ex _ _ 4 _ _ _ _ _)
  obtain ⟨c1, h⟩ := chk_some h
  rcases calT_some h with ⟨v2, m3, g4, h⟩ | ⟨e8, v2, m3, x7, g4, h⟩
  · refine cV1 (e_X11_register d g4) (cont0 (by decide) (?_ : Ex _ _ 7 _ _ _ _ _)) og_X11_register rfl ml_RL_105 11 rfl rfl c1 im_X11_register se_X11_register (Nat.le_of_ble_eq_true rfl) dL_register_4
    refine x_i2l dL_register_7 (?_ : Ex _ _ 8 _ _ _ _ _)
    obtain ⟨c5, h⟩ := chk_some h
    obtain ⟨m6, hm6, h⟩ := st_some h
    refine sd_l_1 c5 (by decide) (by decide) dL_register_8 (?_ : Ex _ _ 9 _ _ _ _ _)
    rw [← hm6]
    refine x_goto (tgt := 15) dL_register_9 rfl (?_ : Ex _ _ 15 _ _ _ _ _)
    refine x_iconst dL_register_15 rfl (by decide) (?_ : Ex _ _ 16 _ _ _ _ _)
    cases h
    exact x_ret dL_register_16 (by decide : (0 : Int) ≠ 3)
  · rcases ite_some h with ⟨b9, h⟩ | ⟨b9, h⟩
    · refine cV1 (e_X11_register d g4) (contH [] [] (0, 9, 12, 13) x7 (by subst b9; rfl) rfl (by decide) (by decide) cl_RL_13 ca_xIO (fun z hz => nomatch hz) (h_astore_n (ls2 := [(21, l0), (0, l1), (300001, l2), (3, 0)]) dL_register_12 rfl (Nat.le_of_ble_eq_true rfl) rfl (?_ : Ex _ _ 13 _ _ _ _ _))) og_X11_register rfl ml_RL_105 11 rfl rfl c1 im_X11_register se_X11_register (Nat.le_of_ble_eq_true rfl) dL_register_4
      refine x_iconst dL_register_13 rfl (by decide) (?_ : Ex _ _ 14 _ _ _ _ _)
      cases h
      exact x_ret dL_register_14 (by decide : (0 : Int) ≠ 3)
    cases h
theorem e_L_register (d : Nat) {a0 a1 a2 : Int} {m : Mem} {v : Int} {m' : Mem} (h : L_register a0 a1 a2 m = some (v, m')) : ExM (d + 3) fm_L_register [(21, a0), (0, a1), (300001, a2)] m (.inl (0, v)) m' := by
  exact ExM.of (by decide +kernel) (Nat.le_of_ble_eq_true rfl) (cat9 rfl) retI (e_L_register_0 d h)
theorem dL_place_0 : decode cL_place 0 = .ok (.aload_n 2, 1) := by decide +kernel
theorem dL_place_1 : decode cL_place 1 = .ok (.iconst 0, 1) := by decide +kernel
theorem dL_place_2 : decode cL_place 2 = .ok (.aload_n 0, 1) := by decide +kernel
theorem dL_place_3 : decode cL_place 3 = .ok (.iload_n 1, 1) := by decide +kernel
theorem dL_place_4 : decode cL_place 4 = .ok (.invokevirtual 108, 3) := by decide +kernel
theorem dL_place_7 : decode cL_place 7 = .ok (.i2l, 1) := by decide +kernel
theorem dL_place_8 : decode cL_place 8 = .ok (.lastore, 1) := by decide +kernel
theorem dL_place_9 : decode cL_place 9 = .ok (.goto 6, 3) := by decide +kernel
theorem dL_place_12 : decode cL_place 12 = .ok (.astore_n 3, 1) := by decide +kernel
theorem dL_place_13 : decode cL_place 13 = .ok (.iconst 1, 1) := by decide +kernel
theorem dL_place_14 : decode cL_place 14 = .ok (.ireturn, 1) := by decide +kernel
theorem dL_place_15 : decode cL_place 15 = .ok (.iconst 0, 1) := by decide +kernel
theorem dL_place_16 : decode cL_place 16 = .ok (.ireturn, 1) := by decide +kernel
theorem e_L_place_0 (d : Nat) {l0 l1 l2 : Int} {m : Mem} {v : Int} {m' : Mem} (h : L_place_0 l0 l1 l2 m = some (v, m')) : Ex (d + 3) fm_L_place 0 [(21, l0), (0, l1), (300001, l2), (3, 0)] [] m (.inl (0, v)) m' := by
  unfold L_place_0 at h
  refine x_aload_n dL_place_0 rfl rfl (Or.inr (by decide)) (?_ : Ex _ _ 1 _ _ _ _ _)
  refine x_iconst dL_place_1 rfl (by decide) (?_ : Ex _ _ 2 _ _ _ _ _)
  refine x_aload_n dL_place_2 rfl rfl (Or.inr (by decide)) (?_ : Ex _ _ 3 _ _ _ _ _)
  refine x_iload_n dL_place_3 rfl rfl (?_ : Ex _ _ 4 _ _ _ _ _)
  obtain ⟨c1, h⟩ := chk_some h
  rcases calT_some h with ⟨v2, m3, g4, h⟩ | ⟨e8, v2, m3, x7, g4, h⟩
  · refine cV1 (e_X11_place d g4) (cont0 (by decide) (?_ : Ex _ _ 7 _ _ _ _ _)) og_X11_place rfl ml_RL_108 11 rfl rfl c1 im_X11_place se_X11_place (Nat.le_of_ble_eq_true rfl) dL_place_4
    refine x_i2l dL_place_7 (?_ : Ex _ _ 8 _ _ _ _ _)
    obtain ⟨c5, h⟩ := chk_some h
    obtain ⟨m6, hm6, h⟩ := st_some h
    refine sd_l_1 c5 (by decide) (by decide) dL_place_8 (?_ : Ex _ _ 9 _ _ _ _ _)
    rw [← hm6]
    refine x_goto (tgt := 15) dL_place_9 rfl (?_ : Ex _ _ 15 _ _ _ _ _)
    refine x_iconst dL_place_15 rfl (by decide) (?_ : Ex _ _ 16 _ _ _ _ _)
    cases h
    exact x_ret dL_place_16 (by decide : (0 : Int) ≠ 3)
  · rcases ite_some h with ⟨b9, h⟩ | ⟨b9, h⟩
    · refine cV1 (e_X11_place d g4) (contH [] [] (0, 9, 12, 13) x7 (by subst b9; rfl) rfl (by decide) (by decide) cl_RL_13 ca_xIO (fun z hz => nomatch hz) (h_astore_n (ls2 := [(21, l0), (0, l1), (300001, l2), (3, 0)]) dL_place_12 rfl (Nat.le_of_ble_eq_true rfl) rfl (?_ : Ex _ _ 13 _ _ _ _ _))) og_X11_place rfl ml_RL_108 11 rfl rfl c1 im_X11_place se_X11_place (Nat.le_of_ble_eq_true rfl) dL_place_4
      refine x_iconst dL_place_13 rfl (by decide) (?_ : Ex _ _ 14 _ _ _ _ _)
      cases h
      exact x_ret dL_place_14 (by decide : (0 : Int) ≠ 3)
    cases h
theorem e_L_place (d : Nat) {a0 a1 a2 : Int} {m : Mem} {v : Int} {m' : Mem} (h : L_place a0 a1 a2 m = some (v, m')) : ExM (d + 3) fm_L_place [(21, a0), (0, a1), (300001, a2)] m (.inl (0, v)) m' := by
  exact ExM.of (by decide +kernel) (Nat.le_of_ble_eq_true rfl) (cat9 rfl) retI (e_L_place_0 d h)
theorem dL_registerAnew_0 : decode cL_registerAnew 0 = .ok (.aload_n 3, 1) := by decide +kernel
theorem dL_registerAnew_1 : decode cL_registerAnew 1 = .ok (.iconst 0, 1) := by decide +kernel
theorem dL_registerAnew_2 : decode cL_registerAnew 2 = .ok (.aload_n 0, 1) := by decide +kernel
theorem dL_registerAnew_3 : decode cL_registerAnew 3 = .ok (.iload_n 1, 1) := by decide +kernel
theorem dL_registerAnew_4 : decode cL_registerAnew 4 = .ok (.iload_n 2, 1) := by decide +kernel
theorem dL_registerAnew_5 : decode cL_registerAnew 5 = .ok (.invokevirtual 111, 3) := by decide +kernel
theorem dL_registerAnew_8 : decode cL_registerAnew 8 = .ok (.i2l, 1) := by decide +kernel
theorem dL_registerAnew_9 : decode cL_registerAnew 9 = .ok (.lastore, 1) := by decide +kernel
theorem dL_registerAnew_10 : decode cL_registerAnew 10 = .ok (.goto 7, 3) := by decide +kernel
theorem dL_registerAnew_13 : decode cL_registerAnew 13 = .ok (.astore 4, 2) := by decide +kernel
theorem dL_registerAnew_15 : decode cL_registerAnew 15 = .ok (.iconst 1, 1) := by decide +kernel
theorem dL_registerAnew_16 : decode cL_registerAnew 16 = .ok (.ireturn, 1) := by decide +kernel
theorem dL_registerAnew_17 : decode cL_registerAnew 17 = .ok (.iconst 0, 1) := by decide +kernel
theorem dL_registerAnew_18 : decode cL_registerAnew 18 = .ok (.ireturn, 1) := by decide +kernel
theorem e_L_registerAnew_0 (d : Nat) {l0 l1 l2 l3 : Int} {m : Mem} {v : Int} {m' : Mem} (h : L_registerAnew_0 l0 l1 l2 l3 m = some (v, m')) : Ex (d + 7) fm_L_registerAnew 0 [(21, l0), (0, l1), (0, l2), (300001, l3), (3, 0)] [] m (.inl (0, v)) m' := by
  unfold L_registerAnew_0 at h
  refine x_aload_n dL_registerAnew_0 rfl rfl (Or.inr (by decide)) (?_ : Ex _ _ 1 _ _ _ _ _)
  refine x_iconst dL_registerAnew_1 rfl (by decide) (?_ : Ex _ _ 2 _ _ _ _ _)
  refine x_aload_n dL_registerAnew_2 rfl rfl (Or.inr (by decide)) (?_ : Ex _ _ 3 _ _ _ _ _)
  refine x_iload_n dL_registerAnew_3 rfl rfl (?_ : Ex _ _ 4 _ _ _ _ _)
  refine x_iload_n dL_registerAnew_4 rfl rfl (?_ : Ex _ _ 5 _ _ _ _ _)
  obtain ⟨c1, h⟩ := chk_some h
  rcases calT_some h with ⟨v2, m3, g4, h⟩ | ⟨e8, v2, m3, x7, g4, h⟩
  · refine cV2 (e_X11_registerAnew d g4) (cont0 (by decide) (?_ : Ex _ _ 8 _ _ _ _ _)) og_X11_registerAnew rfl ml_RL_111 11 rfl rfl c1 im_X11_registerAnew se_X11_registerAnew (Nat.le_of_ble_eq_true rfl) dL_registerAnew_5
    refine x_i2l dL_registerAnew_8 (?_ : Ex _ _ 9 _ _ _ _ _)
    obtain ⟨c5, h⟩ := chk_some h
    obtain ⟨m6, hm6, h⟩ := st_some h
    refine sd_l_1 c5 (by decide) (by decide) dL_registerAnew_9 (?_ : Ex _ _ 10 _ _ _ _ _)
    rw [← hm6]
    refine x_goto (tgt := 17) dL_registerAnew_10 rfl (?_ : Ex _ _ 17 _ _ _ _ _)
    refine x_iconst dL_registerAnew_17 rfl (by decide) (?_ : Ex _ _ 18 _ _ _ _ _)
    cases h
    exact x_ret dL_registerAnew_18 (by decide : (0 : Int) ≠ 3)
  · rcases ite_some h with ⟨b9, h⟩ | ⟨b9, h⟩
    · refine cV2 (e_X11_registerAnew d g4) (contH [] [] (0, 10, 13, 13) x7 (by subst b9; rfl) rfl (by decide) (by decide) cl_RL_13 ca_xIO (fun z hz => nomatch hz) (h_astore (ls2 := [(21, l0), (0, l1), (0, l2), (300001, l3), (3, 0)]) dL_registerAnew_13 (Nat.le_of_ble_eq_true rfl) rfl (?_ : Ex _ _ 15 _ _ _ _ _))) og_X11_registerAnew rfl ml_RL_111 11 rfl rfl c1 im_X11_registerAnew se_X11_registerAnew (Nat.le_of_ble_eq_true rfl) dL_registerAnew_5
      refine x_iconst dL_registerAnew_15 rfl (by decide) (?_ : Ex _ _ 16 _ _ _ _ _)
      cases h
      exact x_ret dL_registerAnew_16 (by decide : (0 : Int) ≠ 3)
    cases h
theorem e_L_registerAnew (d : Nat) {a0 a1 a2 a3 : Int} {m : Mem} {v : Int} {m' : Mem} (h : L_registerAnew a0 a1 a2 a3 m = some (v, m')) : ExM (d + 7) fm_L_registerAnew [(21, a0), (0, a1), (0, a2), (300001, a3)] m (.inl (0, v)) m' := by
  exact ExM.of (by decide +kernel) (Nat.le_of_ble_eq_true rfl) (cat9 rfl) retI (e_L_registerAnew_0 d h)
