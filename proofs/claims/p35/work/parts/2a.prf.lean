/-! the machine does what the functions say, printed -/
theorem dX3_put_0 : decode cX3_put 0 = .ok (.aload_n 0, 1) := by decide +kernel
theorem dX3_put_1 : decode cX3_put 1 = .ok (.getfield 21, 3) := by decide +kernel
theorem dX3_put_4 : decode cX3_put 4 = .ok (.bipush 80, 2) := by decide +kernel
theorem dX3_put_6 : decode cX3_put 6 = .ok (.if_icmp .ge 43, 3) := by decide +kernel
theorem dX3_put_9 : decode cX3_put 9 = .ok (.aload_n 0, 1) := by decide +kernel
theorem dX3_put_10 : decode cX3_put 10 = .ok (.getfield 9, 3) := by decide +kernel
theorem dX3_put_13 : decode cX3_put 13 = .ok (.aload_n 0, 1) := by decide +kernel
theorem dX3_put_14 : decode cX3_put 14 = .ok (.getfield 21, 3) := by decide +kernel
theorem dX3_put_17 : decode cX3_put 17 = .ok (.iload_n 1, 1) := by decide +kernel
theorem dX3_put_18 : decode cX3_put 18 = .ok (.iastore, 1) := by decide +kernel
theorem dX3_put_19 : decode cX3_put 19 = .ok (.aload_n 0, 1) := by decide +kernel
theorem dX3_put_20 : decode cX3_put 20 = .ok (.getfield 15, 3) := by decide +kernel
theorem dX3_put_23 : decode cX3_put 23 = .ok (.aload_n 0, 1) := by decide +kernel
theorem dX3_put_24 : decode cX3_put 24 = .ok (.getfield 21, 3) := by decide +kernel
theorem dX3_put_27 : decode cX3_put 27 = .ok (.iload_n 2, 1) := by decide +kernel
theorem dX3_put_28 : decode cX3_put 28 = .ok (.iastore, 1) := by decide +kernel
theorem dX3_put_29 : decode cX3_put 29 = .ok (.aload_n 0, 1) := by decide +kernel
theorem dX3_put_30 : decode cX3_put 30 = .ok (.getfield 18, 3) := by decide +kernel
theorem dX3_put_33 : decode cX3_put 33 = .ok (.aload_n 0, 1) := by decide +kernel
theorem dX3_put_34 : decode cX3_put 34 = .ok (.getfield 21, 3) := by decide +kernel
theorem dX3_put_37 : decode cX3_put 37 = .ok (.iload_n 3, 1) := by decide +kernel
theorem dX3_put_38 : decode cX3_put 38 = .ok (.iastore, 1) := by decide +kernel
theorem dX3_put_39 : decode cX3_put 39 = .ok (.aload_n 0, 1) := by decide +kernel
theorem dX3_put_40 : decode cX3_put 40 = .ok (.dup, 1) := by decide +kernel
theorem dX3_put_41 : decode cX3_put 41 = .ok (.getfield 21, 3) := by decide +kernel
theorem dX3_put_44 : decode cX3_put 44 = .ok (.iconst 1, 1) := by decide +kernel
theorem dX3_put_45 : decode cX3_put 45 = .ok (.iadd, 1) := by decide +kernel
theorem dX3_put_46 : decode cX3_put 46 = .ok (.putfield 21, 3) := by decide +kernel
theorem dX3_put_49 : decode cX3_put 49 = .ok (.return_, 1) := by decide +kernel
theorem e_X3_put_0 (d : Nat) {l0 l1 l2 l3 : Int} {m : Mem} {v : Int} {m' : Mem} (h : X3_put_0 l0 l1 l2 l3 m = some (v, m')) : Ex d fm_X3_put 0 [(13, l0), (0, l1), (0, l2), (0, l3)] [] m (.inl (3, 0)) m' := by
  unfold X3_put_0 at h
  refine x_aload_n dX3_put_0 rfl rfl (Or.inr (by decide)) (?_ : Ex _ _ 1 _ _ _ _ _)
  obtain ⟨c1, h⟩ := chk_some h
  refine gt_3_3 c1 fl_RX3_21 dX3_put_1 (?_ : Ex _ _ 4 _ _ _ _ _)
  refine x_bipush dX3_put_4 kb_80 (by decide) (?_ : Ex _ _ 6 _ _ _ _ _)
  rcases ite_some h with ⟨b2, h⟩ | ⟨b2, h⟩
  · refine x_icmp_ge (tgt := 49) dX3_put_6 rfl b2 (?_ : Ex _ _ 49 _ _ _ _ _)
    cases h
    exact x_retv dX3_put_49
  · refine x_icmp_geN dX3_put_6 (by decide) b2 (?_ : Ex _ _ 9 _ _ _ _ _)
    refine x_aload_n dX3_put_9 rfl rfl (Or.inr (by decide)) (?_ : Ex _ _ 10 _ _ _ _ _)
    refine gt_3_0 c1 fl_RX3_9 dX3_put_10 (?_ : Ex _ _ 13 _ _ _ _ _)
    refine x_aload_n dX3_put_13 rfl rfl (Or.inr (by decide)) (?_ : Ex _ _ 14 _ _ _ _ _)
    refine gt_3_3 c1 fl_RX3_21 dX3_put_14 (?_ : Ex _ _ 17 _ _ _ _ _)
    refine x_iload_n dX3_put_17 rfl rfl (?_ : Ex _ _ 18 _ _ _ _ _)
    obtain ⟨⟨c3, c4, c5⟩, h⟩ := chk_some h
    obtain ⟨m6, hm6, h⟩ := st_some h
    refine sd_i_80 c3 c4 c5 dX3_put_18 (?_ : Ex _ _ 19 _ _ _ _ _)
    rw [← hm6]
    refine x_aload_n dX3_put_19 rfl rfl (Or.inr (by decide)) (?_ : Ex _ _ 20 _ _ _ _ _)
    refine gt_3_1 c1 fl_RX3_15 dX3_put_20 (?_ : Ex _ _ 23 _ _ _ _ _)
    refine x_aload_n dX3_put_23 rfl rfl (Or.inr (by decide)) (?_ : Ex _ _ 24 _ _ _ _ _)
    refine gt_3_3 c1 fl_RX3_21 dX3_put_24 (?_ : Ex _ _ 27 _ _ _ _ _)
    refine x_iload_n dX3_put_27 rfl rfl (?_ : Ex _ _ 28 _ _ _ _ _)
    obtain ⟨⟨c7, c8, c9⟩, h⟩ := chk_some h
    obtain ⟨m10, hm10, h⟩ := st_some h
    refine sd_i_80 c7 c8 c9 dX3_put_28 (?_ : Ex _ _ 29 _ _ _ _ _)
    rw [← hm10]
    refine x_aload_n dX3_put_29 rfl rfl (Or.inr (by decide)) (?_ : Ex _ _ 30 _ _ _ _ _)
    refine gt_3_2 c1 fl_RX3_18 dX3_put_30 (?_ : Ex _ _ 33 _ _ _ _ _)
    refine x_aload_n dX3_put_33 rfl rfl (Or.inr (by decide)) (?_ : Ex _ _ 34 _ _ _ _ _)
    refine gt_3_3 c1 fl_RX3_21 dX3_put_34 (?_ : Ex _ _ 37 _ _ _ _ _)
    refine x_iload_n dX3_put_37 rfl rfl (?_ : Ex _ _ 38 _ _ _ _ _)
    obtain ⟨⟨c11, c12, c13⟩, h⟩ := chk_some h
    obtain ⟨m14, hm14, h⟩ := st_some h
    refine sd_i_80 c11 c12 c13 dX3_put_38 (?_ : Ex _ _ 39 _ _ _ _ _)
    rw [← hm14]
    refine x_aload_n dX3_put_39 rfl rfl (Or.inr (by decide)) (?_ : Ex _ _ 40 _ _ _ _ _)
    refine x_dup (by decide : (13 : Int) ≠ 2) dX3_put_40 (?_ : Ex _ _ 41 _ _ _ _ _)
    refine gt_3_3 c1 fl_RX3_21 dX3_put_41 (?_ : Ex _ _ 44 _ _ _ _ _)
    refine x_iconst dX3_put_44 rfl (by decide) (?_ : Ex _ _ 45 _ _ _ _ _)
    obtain ⟨c15, h⟩ := chk_some h
    refine x_iadd dX3_put_45 c15 (?_ : Ex _ _ 46 _ _ _ _ _)
    obtain ⟨m16, hm16, h⟩ := st_some h
    refine pt_3_3  c1 fl_RX3_21 dX3_put_46 (?_ : Ex _ _ 49 _ _ _ _ _)
    rw [← hm16]
    cases h
    exact x_retv dX3_put_49
theorem e_X3_put (d : Nat) {a0 a1 a2 a3 : Int} {m : Mem} {v : Int} {m' : Mem} (h : X3_put a0 a1 a2 a3 m = some (v, m')) : ExM d fm_X3_put [(13, a0), (0, a1), (0, a2), (0, a3)] m (.inl (3, 0)) m' := by
  exact ExM.of (by decide +kernel) (Nat.le_of_ble_eq_true rfl) (cat9 rfl) retV (e_X3_put_0 d h)
theorem dX7_happen_0 : decode cX7_happen 0 = .ok (.aload_n 0, 1) := by decide +kernel
theorem dX7_happen_1 : decode cX7_happen 1 = .ok (.getfield 28, 3) := by decide +kernel
theorem dX7_happen_4 : decode cX7_happen 4 = .ok (.bipush 20, 2) := by decide +kernel
theorem dX7_happen_6 : decode cX7_happen 6 = .ok (.if_icmp .ne 15, 3) := by decide +kernel
theorem dX7_happen_9 : decode cX7_happen 9 = .ok (.aload_n 0, 1) := by decide +kernel
theorem dX7_happen_10 : decode cX7_happen 10 = .ok (.getfield 12, 3) := by decide +kernel
theorem dX7_happen_13 : decode cX7_happen 13 = .ok (.getfield 39, 3) := by decide +kernel
theorem dX7_happen_16 : decode cX7_happen 16 = .ok (.bipush 78, 2) := by decide +kernel
theorem dX7_happen_18 : decode cX7_happen 18 = .ok (.if_icmp .lt 5, 3) := by decide +kernel
theorem dX7_happen_21 : decode cX7_happen 21 = .ok (.iconst 0, 1) := by decide +kernel
theorem dX7_happen_22 : decode cX7_happen 22 = .ok (.ireturn, 1) := by decide +kernel
theorem dX7_happen_23 : decode cX7_happen 23 = .ok (.aload_n 0, 1) := by decide +kernel
theorem dX7_happen_24 : decode cX7_happen 24 = .ok (.getfield 12, 3) := by decide +kernel
theorem dX7_happen_27 : decode cX7_happen 27 = .ok (.iload_n 1, 1) := by decide +kernel
theorem dX7_happen_28 : decode cX7_happen 28 = .ok (.iload_n 2, 1) := by decide +kernel
theorem dX7_happen_29 : decode cX7_happen 29 = .ok (.iload_n 3, 1) := by decide +kernel
theorem dX7_happen_30 : decode cX7_happen 30 = .ok (.invokevirtual 35, 3) := by decide +kernel
theorem dX7_happen_33 : decode cX7_happen 33 = .ok (.iconst 1, 1) := by decide +kernel
theorem dX7_happen_34 : decode cX7_happen 34 = .ok (.ireturn, 1) := by decide +kernel
theorem e_X7_happen_0 (d : Nat) {l0 l1 l2 l3 : Int} {m : Mem} {v : Int} {m' : Mem} (h : X7_happen_0 l0 l1 l2 l3 m = some (v, m')) : Ex (d + 1) fm_X7_happen 0 [(17, l0), (0, l1), (0, l2), (0, l3)] [] m (.inl (0, v)) m' := by
  unfold X7_happen_0 at h
  refine x_aload_n dX7_happen_0 rfl rfl (Or.inr (by decide)) (?_ : Ex _ _ 1 _ _ _ _ _)
  obtain ⟨c1, h⟩ := chk_some h
  refine gt_7_7 c1 fl_RX7_28 dX7_happen_1 (?_ : Ex _ _ 4 _ _ _ _ _)
  refine x_bipush dX7_happen_4 kb_20 (by decide) (?_ : Ex _ _ 6 _ _ _ _ _)
  rcases ite_some h with ⟨b2, h⟩ | ⟨b2, h⟩
  · refine x_icmp_neN dX7_happen_6 (by decide) (fun hh => hh b2) (?_ : Ex _ _ 9 _ _ _ _ _)
    refine x_aload_n dX7_happen_9 rfl rfl (Or.inr (by decide)) (?_ : Ex _ _ 10 _ _ _ _ _)
    refine gt_7_0 c1 fl_RX7_12 dX7_happen_10 (?_ : Ex _ _ 13 _ _ _ _ _)
    obtain ⟨c3, h⟩ := chk_some h
    refine gt_3_3 c3 fl_RX7_39 dX7_happen_13 (?_ : Ex _ _ 16 _ _ _ _ _)
    refine x_bipush dX7_happen_16 kb_78 (by decide) (?_ : Ex _ _ 18 _ _ _ _ _)
    rcases ite_some h with ⟨b4, h⟩ | ⟨b4, h⟩
    · refine x_icmp_lt (tgt := 23) dX7_happen_18 rfl b4 (?_ : Ex _ _ 23 _ _ _ _ _)
      refine x_aload_n dX7_happen_23 rfl rfl (Or.inr (by decide)) (?_ : Ex _ _ 24 _ _ _ _ _)
      refine gt_7_0 c1 fl_RX7_12 dX7_happen_24 (?_ : Ex _ _ 27 _ _ _ _ _)
      refine x_iload_n dX7_happen_27 rfl rfl (?_ : Ex _ _ 28 _ _ _ _ _)
      refine x_iload_n dX7_happen_28 rfl rfl (?_ : Ex _ _ 29 _ _ _ _ _)
      refine x_iload_n dX7_happen_29 rfl rfl (?_ : Ex _ _ 30 _ _ _ _ _)
      obtain ⟨v5, m6, g7, h⟩ := cal_some h
      refine cV3 (e_X3_put d g7) (contV (?_ : Ex _ _ 33 _ _ _ _ _)) og_X3_put rfl ml_RX7_35 3 rfl rfl c3 im_X3_put se_X3_put (Nat.le_of_ble_eq_true rfl) dX7_happen_30
      refine x_iconst dX7_happen_33 rfl (by decide) (?_ : Ex _ _ 34 _ _ _ _ _)
      cases h
      exact x_ret dX7_happen_34 (by decide : (0 : Int) ≠ 3)
    · refine x_icmp_ltN dX7_happen_18 (by decide) b4 (?_ : Ex _ _ 21 _ _ _ _ _)
      refine x_iconst dX7_happen_21 rfl (by decide) (?_ : Ex _ _ 22 _ _ _ _ _)
      cases h
      exact x_ret dX7_happen_22 (by decide : (0 : Int) ≠ 3)
  · refine x_icmp_ne (tgt := 21) dX7_happen_6 rfl b2 (?_ : Ex _ _ 21 _ _ _ _ _)
    refine x_iconst dX7_happen_21 rfl (by decide) (?_ : Ex _ _ 22 _ _ _ _ _)
    cases h
    exact x_ret dX7_happen_22 (by decide : (0 : Int) ≠ 3)
theorem e_X7_happen (d : Nat) {a0 a1 a2 a3 : Int} {m : Mem} {v : Int} {m' : Mem} (h : X7_happen a0 a1 a2 a3 m = some (v, m')) : ExM (d + 1) fm_X7_happen [(17, a0), (0, a1), (0, a2), (0, a3)] m (.inl (0, v)) m' := by
  obtain ⟨hb, h⟩ := boolR_some h
  exact ExM.of (by decide +kernel) (Nat.le_of_ble_eq_true rfl) (cat9 rfl) (retZ hb) (e_X7_happen_0 d h)
theorem dX7_askCancel_0 : decode cX7_askCancel 0 = .ok (.aload_n 0, 1) := by decide +kernel
theorem dX7_askCancel_1 : decode cX7_askCancel 1 = .ok (.getfield 42, 3) := by decide +kernel
theorem dX7_askCancel_4 : decode cX7_askCancel 4 = .ok (.ifCond .ne 14, 3) := by decide +kernel
theorem dX7_askCancel_7 : decode cX7_askCancel 7 = .ok (.aload_n 0, 1) := by decide +kernel
theorem dX7_askCancel_8 : decode cX7_askCancel 8 = .ok (.bipush 6, 2) := by decide +kernel
theorem dX7_askCancel_10 : decode cX7_askCancel 10 = .ok (.iconst 0, 1) := by decide +kernel
theorem dX7_askCancel_11 : decode cX7_askCancel 11 = .ok (.iconst 0, 1) := by decide +kernel
theorem dX7_askCancel_12 : decode cX7_askCancel 12 = .ok (.invokevirtual 46, 3) := by decide +kernel
theorem dX7_askCancel_15 : decode cX7_askCancel 15 = .ok (.ifCond .ne 5, 3) := by decide +kernel
theorem dX7_askCancel_18 : decode cX7_askCancel 18 = .ok (.iconst 0, 1) := by decide +kernel
theorem dX7_askCancel_19 : decode cX7_askCancel 19 = .ok (.ireturn, 1) := by decide +kernel
theorem dX7_askCancel_20 : decode cX7_askCancel 20 = .ok (.aload_n 0, 1) := by decide +kernel
theorem dX7_askCancel_21 : decode cX7_askCancel 21 = .ok (.iconst 1, 1) := by decide +kernel
theorem dX7_askCancel_22 : decode cX7_askCancel 22 = .ok (.putfield 42, 3) := by decide +kernel
theorem dX7_askCancel_25 : decode cX7_askCancel 25 = .ok (.iconst 1, 1) := by decide +kernel
theorem dX7_askCancel_26 : decode cX7_askCancel 26 = .ok (.ireturn, 1) := by decide +kernel
theorem e_X7_askCancel_0 (d : Nat) {l0 : Int} {m : Mem} {v : Int} {m' : Mem} (h : X7_askCancel_0 l0 m = some (v, m')) : Ex (d + 2) fm_X7_askCancel 0 [(17, l0)] [] m (.inl (0, v)) m' := by
  unfold X7_askCancel_0 at h
  refine x_aload_n dX7_askCancel_0 rfl rfl (Or.inr (by decide)) (?_ : Ex _ _ 1 _ _ _ _ _)
  obtain ⟨c1, h⟩ := chk_some h
  refine gt_7_10 c1 fl_RX7_42 dX7_askCancel_1 (?_ : Ex _ _ 4 _ _ _ _ _)
  rcases ite_some h with ⟨b2, h⟩ | ⟨b2, h⟩
  · refine x_if_neN dX7_askCancel_4 (by decide) (fun hh => hh b2) (?_ : Ex _ _ 7 _ _ _ _ _)
    refine x_aload_n dX7_askCancel_7 rfl rfl (Or.inr (by decide)) (?_ : Ex _ _ 8 _ _ _ _ _)
    refine x_bipush dX7_askCancel_8 kb_6 (by decide) (?_ : Ex _ _ 10 _ _ _ _ _)
    refine x_iconst dX7_askCancel_10 rfl (by decide) (?_ : Ex _ _ 11 _ _ _ _ _)
    refine x_iconst dX7_askCancel_11 rfl (by decide) (?_ : Ex _ _ 12 _ _ _ _ _)
    obtain ⟨v3, m4, g5, h⟩ := cal_some h
    refine cV3 (e_X7_happen d g5) (contN (by decide) (?_ : Ex _ _ 15 _ _ _ _ _)) og_X7_happen rfl ml_RX7_46 7 rfl rfl c1 im_X7_happen se_X7_happen (Nat.le_of_ble_eq_true rfl) dX7_askCancel_12
    rcases ite_some h with ⟨b6, h⟩ | ⟨b6, h⟩
    · refine x_if_neN dX7_askCancel_15 (by decide) (fun hh => hh b6) (?_ : Ex _ _ 18 _ _ _ _ _)
      refine x_iconst dX7_askCancel_18 rfl (by decide) (?_ : Ex _ _ 19 _ _ _ _ _)
      cases h
      exact x_ret dX7_askCancel_19 (by decide : (0 : Int) ≠ 3)
    · refine x_if_ne (tgt := 20) dX7_askCancel_15 rfl b6 (?_ : Ex _ _ 20 _ _ _ _ _)
      refine x_aload_n dX7_askCancel_20 rfl rfl (Or.inr (by decide)) (?_ : Ex _ _ 21 _ _ _ _ _)
      refine x_iconst dX7_askCancel_21 rfl (by decide) (?_ : Ex _ _ 22 _ _ _ _ _)
      obtain ⟨m7, hm7, h⟩ := st_some h
      refine pt_7_10  c1 (by decide) fl_RX7_42 dX7_askCancel_22 (?_ : Ex _ _ 25 _ _ _ _ _)
      rw [← hm7]
      refine x_iconst dX7_askCancel_25 rfl (by decide) (?_ : Ex _ _ 26 _ _ _ _ _)
      cases h
      exact x_ret dX7_askCancel_26 (by decide : (0 : Int) ≠ 3)
  · refine x_if_ne (tgt := 18) dX7_askCancel_4 rfl b2 (?_ : Ex _ _ 18 _ _ _ _ _)
    refine x_iconst dX7_askCancel_18 rfl (by decide) (?_ : Ex _ _ 19 _ _ _ _ _)
    cases h
    exact x_ret dX7_askCancel_19 (by decide : (0 : Int) ≠ 3)
theorem e_X7_askCancel (d : Nat) {a0 : Int} {m : Mem} {v : Int} {m' : Mem} (h : X7_askCancel a0 m = some (v, m')) : ExM (d + 2) fm_X7_askCancel [(17, a0)] m (.inl (0, v)) m' := by
  obtain ⟨hb, h⟩ := boolR_some h
  exact ExM.of (by decide +kernel) (Nat.le_of_ble_eq_true rfl) (cat9 rfl) (retZ hb) (e_X7_askCancel_0 d h)
theorem dX7_stop_0 : decode cX7_stop 0 = .ok (.aload_n 0, 1) := by decide +kernel
theorem dX7_stop_1 : decode cX7_stop 1 = .ok (.iload_n 1, 1) := by decide +kernel
theorem dX7_stop_2 : decode cX7_stop 2 = .ok (.putfield 28, 3) := by decide +kernel
theorem dX7_stop_5 : decode cX7_stop 5 = .ok (.aload_n 0, 1) := by decide +kernel
theorem dX7_stop_6 : decode cX7_stop 6 = .ok (.iconst (-1), 1) := by decide +kernel
theorem dX7_stop_7 : decode cX7_stop 7 = .ok (.putfield 32, 3) := by decide +kernel
theorem dX7_stop_10 : decode cX7_stop 10 = .ok (.return_, 1) := by decide +kernel
theorem e_X7_stop_0 (d : Nat) {l0 l1 : Int} {m : Mem} {v : Int} {m' : Mem} (h : X7_stop_0 l0 l1 m = some (v, m')) : Ex d fm_X7_stop 0 [(17, l0), (0, l1)] [] m (.inl (3, 0)) m' := by
  unfold X7_stop_0 at h
  refine x_aload_n dX7_stop_0 rfl rfl (Or.inr (by decide)) (?_ : Ex _ _ 1 _ _ _ _ _)
  refine x_iload_n dX7_stop_1 rfl rfl (?_ : Ex _ _ 2 _ _ _ _ _)
  obtain ⟨c1, h⟩ := chk_some h
  obtain ⟨m2, hm2, h⟩ := st_some h
  refine pt_7_7  c1 fl_RX7_28 dX7_stop_2 (?_ : Ex _ _ 5 _ _ _ _ _)
  rw [← hm2]
  refine x_aload_n dX7_stop_5 rfl rfl (Or.inr (by decide)) (?_ : Ex _ _ 6 _ _ _ _ _)
  refine x_iconst dX7_stop_6 rfl (by decide) (?_ : Ex _ _ 7 _ _ _ _ _)
  obtain ⟨m3, hm3, h⟩ := st_some h
  refine pt_7_9  c1 fl_RX7_32 dX7_stop_7 (?_ : Ex _ _ 10 _ _ _ _ _)
  rw [← hm3]
  cases h
  exact x_retv dX7_stop_10
theorem e_X7_stop (d : Nat) {a0 a1 : Int} {m : Mem} {v : Int} {m' : Mem} (h : X7_stop a0 a1 m = some (v, m')) : ExM d fm_X7_stop [(17, a0), (0, a1)] m (.inl (3, 0)) m' := by
  exact ExM.of (by decide +kernel) (Nat.le_of_ble_eq_true rfl) (cat9 rfl) retV (e_X7_stop_0 d h)
theorem dX11_leaveChild_0 : decode cX11_leaveChild 0 = .ok (.aload_n 1, 1) := by decide +kernel
theorem dX11_leaveChild_1 : decode cX11_leaveChild 1 = .ok (.getfield 399, 3) := by decide +kernel
theorem dX11_leaveChild_4 : decode cX11_leaveChild 4 = .ok (.iconst 1, 1) := by decide +kernel
theorem dX11_leaveChild_5 : decode cX11_leaveChild 5 = .ok (.if_icmp .ne 11, 3) := by decide +kernel
theorem dX11_leaveChild_8 : decode cX11_leaveChild 8 = .ok (.aload_n 1, 1) := by decide +kernel
theorem dX11_leaveChild_9 : decode cX11_leaveChild 9 = .ok (.getfield 120, 3) := by decide +kernel
theorem dX11_leaveChild_12 : decode cX11_leaveChild 12 = .ok (.invokevirtual 129, 3) := by decide +kernel
theorem dX11_leaveChild_15 : decode cX11_leaveChild 15 = .ok (.pop, 1) := by decide +kernel
theorem dX11_leaveChild_16 : decode cX11_leaveChild 16 = .ok (.aload_n 1, 1) := by decide +kernel
theorem dX11_leaveChild_17 : decode cX11_leaveChild 17 = .ok (.getfield 399, 3) := by decide +kernel
theorem dX11_leaveChild_20 : decode cX11_leaveChild 20 = .ok (.iconst 2, 1) := by decide +kernel
theorem dX11_leaveChild_21 : decode cX11_leaveChild 21 = .ok (.if_icmp .ne 26, 3) := by decide +kernel
theorem dX11_leaveChild_24 : decode cX11_leaveChild 24 = .ok (.iload_n 2, 1) := by decide +kernel
theorem dX11_leaveChild_25 : decode cX11_leaveChild 25 = .ok (.bipush 10, 2) := by decide +kernel
theorem dX11_leaveChild_27 : decode cX11_leaveChild 27 = .ok (.if_icmp .ge 20, 3) := by decide +kernel
theorem dX11_leaveChild_30 : decode cX11_leaveChild 30 = .ok (.aload_n 1, 1) := by decide +kernel
theorem dX11_leaveChild_31 : decode cX11_leaveChild 31 = .ok (.getfield 120, 3) := by decide +kernel
theorem dX11_leaveChild_34 : decode cX11_leaveChild 34 = .ok (.bipush 24, 2) := by decide +kernel
theorem dX11_leaveChild_36 : decode cX11_leaveChild 36 = .ok (.invokevirtual 405, 3) := by decide +kernel
theorem dX11_leaveChild_39 : decode cX11_leaveChild 39 = .ok (.aload_n 0, 1) := by decide +kernel
theorem dX11_leaveChild_40 : decode cX11_leaveChild 40 = .ok (.aload_n 1, 1) := by decide +kernel
theorem dX11_leaveChild_41 : decode cX11_leaveChild 41 = .ok (.iload_n 2, 1) := by decide +kernel
theorem dX11_leaveChild_42 : decode cX11_leaveChild 42 = .ok (.iconst 1, 1) := by decide +kernel
theorem dX11_leaveChild_43 : decode cX11_leaveChild 43 = .ok (.iadd, 1) := by decide +kernel
theorem dX11_leaveChild_44 : decode cX11_leaveChild 44 = .ok (.invokevirtual 408, 3) := by decide +kernel
theorem dX11_leaveChild_47 : decode cX11_leaveChild 47 = .ok (.return_, 1) := by decide +kernel
theorem e_X11_leaveChild_16 (d : Nat) {kr : Int → Int → Int → Mem → Option R2} (hkr : ∀ {a b c : Int} {m : Mem} {v : Int} {m' : Mem}, kr a b c m = some (v, m') → ExM (d + 3) fm_X11_letGo [(21, a), (20, b), (0, c)] m (.inl (3, 0)) m') {l0 l1 l2 : Int} {m : Mem} {v : Int} {m' : Mem} (h : X11_leaveChild_16 kr l0 l1 l2 m = some (v, m')) : Ex (d + 4) fm_X11_leaveChild 16 [(21, l0), (20, l1), (0, l2)] [] m (.inl (3, 0)) m' := by
  unfold X11_leaveChild_16 at h
  refine x_aload_n dX11_leaveChild_16 rfl rfl (Or.inr (by decide)) (?_ : Ex _ _ 17 _ _ _ _ _)
  obtain ⟨c1, h⟩ := chk_some h
  refine gt_10_10 c1 fl_RX11_399 dX11_leaveChild_17 (?_ : Ex _ _ 20 _ _ _ _ _)
  refine x_iconst dX11_leaveChild_20 rfl (by decide) (?_ : Ex _ _ 21 _ _ _ _ _)
  rcases ite_some h with ⟨b2, h⟩ | ⟨b2, h⟩
  · refine x_icmp_neN dX11_leaveChild_21 (by decide) (fun hh => hh b2) (?_ : Ex _ _ 24 _ _ _ _ _)
    refine x_iload_n dX11_leaveChild_24 rfl rfl (?_ : Ex _ _ 25 _ _ _ _ _)
    refine x_bipush dX11_leaveChild_25 kb_10 (by decide) (?_ : Ex _ _ 27 _ _ _ _ _)
    rcases ite_some h with ⟨b3, h⟩ | ⟨b3, h⟩
    · refine x_icmp_ge (tgt := 47) dX11_leaveChild_27 rfl b3 (?_ : Ex _ _ 47 _ _ _ _ _)
      cases h
      exact x_retv dX11_leaveChild_47
    · refine x_icmp_geN dX11_leaveChild_27 (by decide) b3 (?_ : Ex _ _ 30 _ _ _ _ _)
      refine x_aload_n dX11_leaveChild_30 rfl rfl (Or.inr (by decide)) (?_ : Ex _ _ 31 _ _ _ _ _)
      refine gt_10_6 c1 fl_RX11_120 dX11_leaveChild_31 (?_ : Ex _ _ 34 _ _ _ _ _)
      refine x_bipush dX11_leaveChild_34 kb_24 (by decide) (?_ : Ex _ _ 36 _ _ _ _ _)
      obtain ⟨c4, h⟩ := chk_some h
      obtain ⟨v5, m6, g7, h⟩ := cal_some h
      refine cV1 (e_X7_stop (d + 3) g7) (contV (?_ : Ex _ _ 39 _ _ _ _ _)) og_X7_stop rfl ml_RX11_405 7 rfl rfl c4 im_X7_stop se_X7_stop (Nat.le_of_ble_eq_true rfl) dX11_leaveChild_36
      refine x_aload_n dX11_leaveChild_39 rfl rfl (Or.inr (by decide)) (?_ : Ex _ _ 40 _ _ _ _ _)
      refine x_aload_n dX11_leaveChild_40 rfl rfl (Or.inr (by decide)) (?_ : Ex _ _ 41 _ _ _ _ _)
      refine x_iload_n dX11_leaveChild_41 rfl rfl (?_ : Ex _ _ 42 _ _ _ _ _)
      refine x_iconst dX11_leaveChild_42 rfl (by decide) (?_ : Ex _ _ 43 _ _ _ _ _)
      obtain ⟨c8, h⟩ := chk_some h
      refine x_iadd dX11_leaveChild_43 c8 (?_ : Ex _ _ 44 _ _ _ _ _)
      obtain ⟨c9, h⟩ := chk_some h
      obtain ⟨v10, m11, g12, h⟩ := cal_some h
      refine cV2 (hkr g12) (contV (?_ : Ex _ _ 47 _ _ _ _ _)) og_X11_letGo rfl ml_RX11_408 11 rfl rfl c9 im_X11_letGo se_X11_letGo (Nat.le_of_ble_eq_true rfl) dX11_leaveChild_44
      cases h
      exact x_retv dX11_leaveChild_47
  · refine x_icmp_ne (tgt := 47) dX11_leaveChild_21 rfl b2 (?_ : Ex _ _ 47 _ _ _ _ _)
    cases h
    exact x_retv dX11_leaveChild_47
theorem e_X11_leaveChild_0 (d : Nat) {kr : Int → Int → Int → Mem → Option R2} (hkr : ∀ {a b c : Int} {m : Mem} {v : Int} {m' : Mem}, kr a b c m = some (v, m') → ExM (d + 3) fm_X11_letGo [(21, a), (20, b), (0, c)] m (.inl (3, 0)) m') {l0 l1 l2 : Int} {m : Mem} {v : Int} {m' : Mem} (h : X11_leaveChild_0 kr l0 l1 l2 m = some (v, m')) : Ex (d + 4) fm_X11_leaveChild 0 [(21, l0), (20, l1), (0, l2)] [] m (.inl (3, 0)) m' := by
  unfold X11_leaveChild_0 at h
  refine x_aload_n dX11_leaveChild_0 rfl rfl (Or.inr (by decide)) (?_ : Ex _ _ 1 _ _ _ _ _)
  obtain ⟨c1, h⟩ := chk_some h
  refine gt_10_10 c1 fl_RX11_399 dX11_leaveChild_1 (?_ : Ex _ _ 4 _ _ _ _ _)
  refine x_iconst dX11_leaveChild_4 rfl (by decide) (?_ : Ex _ _ 5 _ _ _ _ _)
  rcases ite_some h with ⟨b2, h⟩ | ⟨b2, h⟩
  · refine x_icmp_neN dX11_leaveChild_5 (by decide) (fun hh => hh b2) (?_ : Ex _ _ 8 _ _ _ _ _)
    refine x_aload_n dX11_leaveChild_8 rfl rfl (Or.inr (by decide)) (?_ : Ex _ _ 9 _ _ _ _ _)
    refine gt_10_6 c1 fl_RX11_120 dX11_leaveChild_9 (?_ : Ex _ _ 12 _ _ _ _ _)
    obtain ⟨c3, h⟩ := chk_some h
    obtain ⟨v4, m5, g6, h⟩ := cal_some h
    refine cV0 (e_X7_askCancel (d + 1) g6) (contN (by decide) (?_ : Ex _ _ 15 _ _ _ _ _)) og_X7_askCancel rfl ml_RX11_129 7 rfl rfl c3 im_X7_askCancel se_X7_askCancel (Nat.le_of_ble_eq_true rfl) dX11_leaveChild_12
    refine x_pop (by decide : (0 : Int) ≠ 2) dX11_leaveChild_15 (?_ : Ex _ _ 16 _ _ _ _ _)
    exact e_X11_leaveChild_16 d hkr h
  · refine x_icmp_ne (tgt := 16) dX11_leaveChild_5 rfl b2 (?_ : Ex _ _ 16 _ _ _ _ _)
    exact e_X11_leaveChild_16 d hkr h
theorem e_X11_leaveChild (d : Nat) {kr : Int → Int → Int → Mem → Option R2} (hkr : ∀ {a b c : Int} {m : Mem} {v : Int} {m' : Mem}, kr a b c m = some (v, m') → ExM (d + 3) fm_X11_letGo [(21, a), (20, b), (0, c)] m (.inl (3, 0)) m') {a0 a1 a2 : Int} {m : Mem} {v : Int} {m' : Mem} (h : X11_leaveChild kr a0 a1 a2 m = some (v, m')) : ExM (d + 4) fm_X11_leaveChild [(21, a0), (20, a1), (0, a2)] m (.inl (3, 0)) m' := by
  exact ExM.of (by decide +kernel) (Nat.le_of_ble_eq_true rfl) (cat9 rfl) retV (e_X11_leaveChild_0 d hkr h)
theorem dX0_init_0 : decode cX0_init 0 = .ok (.aload_n 0, 1) := by decide +kernel
theorem dX0_init_1 : decode cX0_init 1 = .ok (.invokespecial 3, 3) := by decide +kernel
theorem dX0_init_4 : decode cX0_init 4 = .ok (.aload_n 0, 1) := by decide +kernel
theorem dX0_init_5 : decode cX0_init 5 = .ok (.iconst 0, 1) := by decide +kernel
theorem dX0_init_6 : decode cX0_init 6 = .ok (.putfield 9, 3) := by decide +kernel
theorem dX0_init_9 : decode cX0_init 9 = .ok (.aload_n 0, 1) := by decide +kernel
theorem dX0_init_10 : decode cX0_init 10 = .ok (.aload_n 1, 1) := by decide +kernel
theorem dX0_init_11 : decode cX0_init 11 = .ok (.getfield 15, 3) := by decide +kernel
theorem dX0_init_14 : decode cX0_init 14 = .ok (.putfield 21, 3) := by decide +kernel
theorem dX0_init_17 : decode cX0_init 17 = .ok (.aload_n 0, 1) := by decide +kernel
theorem dX0_init_18 : decode cX0_init 18 = .ok (.aload_n 0, 1) := by decide +kernel
theorem dX0_init_19 : decode cX0_init 19 = .ok (.getfield 21, 3) := by decide +kernel
theorem dX0_init_22 : decode cX0_init 22 = .ok (.getfield 24, 3) := by decide +kernel
theorem dX0_init_25 : decode cX0_init 25 = .ok (.putfield 29, 3) := by decide +kernel
theorem dX0_init_28 : decode cX0_init 28 = .ok (.aload_n 0, 1) := by decide +kernel
theorem dX0_init_29 : decode cX0_init 29 = .ok (.iload_n 2, 1) := by decide +kernel
theorem dX0_init_30 : decode cX0_init 30 = .ok (.putfield 32, 3) := by decide +kernel
theorem dX0_init_33 : decode cX0_init 33 = .ok (.aload_n 0, 1) := by decide +kernel
theorem dX0_init_34 : decode cX0_init 34 = .ok (.aload_n 1, 1) := by decide +kernel
theorem dX0_init_35 : decode cX0_init 35 = .ok (.getfield 35, 3) := by decide +kernel
theorem dX0_init_38 : decode cX0_init 38 = .ok (.putfield 38, 3) := by decide +kernel
theorem dX0_init_41 : decode cX0_init 41 = .ok (.aload_n 0, 1) := by decide +kernel
theorem dX0_init_42 : decode cX0_init 42 = .ok (.iload_n 3, 1) := by decide +kernel
theorem dX0_init_43 : decode cX0_init 43 = .ok (.putfield 39, 3) := by decide +kernel
theorem dX0_init_46 : decode cX0_init 46 = .ok (.aload_n 0, 1) := by decide +kernel
theorem dX0_init_47 : decode cX0_init 47 = .ok (.sipush 1000, 3) := by decide +kernel
theorem dX0_init_50 : decode cX0_init 50 = .ok (.aload_n 1, 1) := by decide +kernel
theorem dX0_init_51 : decode cX0_init 51 = .ok (.getfield 42, 3) := by decide +kernel
theorem dX0_init_54 : decode cX0_init 54 = .ok (.imul, 1) := by decide +kernel
theorem dX0_init_55 : decode cX0_init 55 = .ok (.bipush 100, 2) := by decide +kernel
theorem dX0_init_57 : decode cX0_init 57 = .ok (.aload_n 1, 1) := by decide +kernel
theorem dX0_init_58 : decode cX0_init 58 = .ok (.getfield 43, 3) := by decide +kernel
theorem dX0_init_61 : decode cX0_init 61 = .ok (.imul, 1) := by decide +kernel
theorem dX0_init_62 : decode cX0_init 62 = .ok (.iadd, 1) := by decide +kernel
theorem dX0_init_63 : decode cX0_init 63 = .ok (.aload_n 0, 1) := by decide +kernel
theorem dX0_init_64 : decode cX0_init 64 = .ok (.getfield 29, 3) := by decide +kernel
theorem dX0_init_67 : decode cX0_init 67 = .ok (.iadd, 1) := by decide +kernel
theorem dX0_init_68 : decode cX0_init 68 = .ok (.putfield 46, 3) := by decide +kernel
theorem dX0_init_71 : decode cX0_init 71 = .ok (.aload_n 0, 1) := by decide +kernel
theorem dX0_init_72 : decode cX0_init 72 = .ok (.iload 4, 2) := by decide +kernel
theorem dX0_init_74 : decode cX0_init 74 = .ok (.putfield 49, 3) := by decide +kernel
theorem dX0_init_77 : decode cX0_init 77 = .ok (.return_, 1) := by decide +kernel
theorem e_X0_init_0 (d : Nat) {l0 l1 l2 l3 l4 : Int} {m : Mem} {v : Int} {m' : Mem} (h : X0_init_0 l0 l1 l2 l3 l4 m = some (v, m')) : Ex d fm_X0_init 0 [(10, l0), (20, l1), (0, l2), (0, l3), (0, l4)] [] m (.inl (3, 0)) m' := by
  unfold X0_init_0 at h
  refine x_aload_n dX0_init_0 rfl rfl (Or.inr (by decide)) (?_ : Ex _ _ 1 _ _ _ _ _)
  obtain ⟨c1, h⟩ := chk_some h
  refine x_objInit (by decide) c1 oi_RX0_3 oi_a oi_b (Nat.le_of_ble_eq_true rfl) dX0_init_1 (?_ : Ex _ _ 4 _ _ _ _ _)
  refine x_aload_n dX0_init_4 rfl rfl (Or.inr (by decide)) (?_ : Ex _ _ 5 _ _ _ _ _)
  refine x_iconst dX0_init_5 rfl (by decide) (?_ : Ex _ _ 6 _ _ _ _ _)
  obtain ⟨m2, hm2, h⟩ := st_some h
  refine pt_0_6  c1 fl_RX0_9 dX0_init_6 (?_ : Ex _ _ 9 _ _ _ _ _)
  rw [← hm2]
  refine x_aload_n dX0_init_9 rfl rfl (Or.inr (by decide)) (?_ : Ex _ _ 10 _ _ _ _ _)
  refine x_aload_n dX0_init_10 rfl rfl (Or.inr (by decide)) (?_ : Ex _ _ 11 _ _ _ _ _)
  obtain ⟨c3, h⟩ := chk_some h
  refine gt_10_6 c3 fl_RX0_15 dX0_init_11 (?_ : Ex _ _ 14 _ _ _ _ _)
  obtain ⟨m4, hm4, h⟩ := st_some h
  refine pt_0_0 rfl rfl c1 fl_RX0_21 dX0_init_14 (?_ : Ex _ _ 17 _ _ _ _ _)
  rw [← hm4]
  refine x_aload_n dX0_init_17 rfl rfl (Or.inr (by decide)) (?_ : Ex _ _ 18 _ _ _ _ _)
  refine x_aload_n dX0_init_18 rfl rfl (Or.inr (by decide)) (?_ : Ex _ _ 19 _ _ _ _ _)
  refine gt_0_0 c1 fl_RX0_21 dX0_init_19 (?_ : Ex _ _ 22 _ _ _ _ _)
  obtain ⟨c5, h⟩ := chk_some h
  refine gt_7_3 c5 fl_RX0_24 dX0_init_22 (?_ : Ex _ _ 25 _ _ _ _ _)
  obtain ⟨m6, hm6, h⟩ := st_some h
  refine pt_0_1 rfl rfl c1 fl_RX0_29 dX0_init_25 (?_ : Ex _ _ 28 _ _ _ _ _)
  rw [← hm6]
  refine x_aload_n dX0_init_28 rfl rfl (Or.inr (by decide)) (?_ : Ex _ _ 29 _ _ _ _ _)
  refine x_iload_n dX0_init_29 rfl rfl (?_ : Ex _ _ 30 _ _ _ _ _)
  obtain ⟨m7, hm7, h⟩ := st_some h
  refine pt_0_2 rfl rfl c1 fl_RX0_32 dX0_init_30 (?_ : Ex _ _ 33 _ _ _ _ _)
  rw [← hm7]
  refine x_aload_n dX0_init_33 rfl rfl (Or.inr (by decide)) (?_ : Ex _ _ 34 _ _ _ _ _)
  refine x_aload_n dX0_init_34 rfl rfl (Or.inr (by decide)) (?_ : Ex _ _ 35 _ _ _ _ _)
  refine gt_10_2 c3 fl_RX0_35 dX0_init_35 (?_ : Ex _ _ 38 _ _ _ _ _)
  obtain ⟨m8, hm8, h⟩ := st_some h
  refine pt_0_3 rfl rfl c1 fl_RX0_38 dX0_init_38 (?_ : Ex _ _ 41 _ _ _ _ _)
  rw [← hm8]
  refine x_aload_n dX0_init_41 rfl rfl (Or.inr (by decide)) (?_ : Ex _ _ 42 _ _ _ _ _)
  refine x_iload_n dX0_init_42 rfl rfl (?_ : Ex _ _ 43 _ _ _ _ _)
  obtain ⟨m9, hm9, h⟩ := st_some h
  refine pt_0_4 rfl rfl c1 fl_RX0_39 dX0_init_43 (?_ : Ex _ _ 46 _ _ _ _ _)
  rw [← hm9]
  refine x_aload_n dX0_init_46 rfl rfl (Or.inr (by decide)) (?_ : Ex _ _ 47 _ _ _ _ _)
  refine x_sipush dX0_init_47 ks_1000 (by decide) (?_ : Ex _ _ 50 _ _ _ _ _)
  refine x_aload_n dX0_init_50 rfl rfl (Or.inr (by decide)) (?_ : Ex _ _ 51 _ _ _ _ _)
  refine gt_10_0 c3 fl_RX0_42 dX0_init_51 (?_ : Ex _ _ 54 _ _ _ _ _)
  obtain ⟨c10, h⟩ := chk_some h
  refine x_imul dX0_init_54 c10 (?_ : Ex _ _ 55 _ _ _ _ _)
  refine x_bipush dX0_init_55 kb_100 (by decide) (?_ : Ex _ _ 57 _ _ _ _ _)
  refine x_aload_n dX0_init_57 rfl rfl (Or.inr (by decide)) (?_ : Ex _ _ 58 _ _ _ _ _)
  refine gt_10_5 c3 fl_RX0_43 dX0_init_58 (?_ : Ex _ _ 61 _ _ _ _ _)
  obtain ⟨c11, h⟩ := chk_some h
  refine x_imul dX0_init_61 c11 (?_ : Ex _ _ 62 _ _ _ _ _)
  obtain ⟨c12, h⟩ := chk_some h
  refine x_iadd dX0_init_62 c12 (?_ : Ex _ _ 63 _ _ _ _ _)
  refine x_aload_n dX0_init_63 rfl rfl (Or.inr (by decide)) (?_ : Ex _ _ 64 _ _ _ _ _)
  refine gt_0_1 c1 fl_RX0_29 dX0_init_64 (?_ : Ex _ _ 67 _ _ _ _ _)
  obtain ⟨c13, h⟩ := chk_some h
  refine x_iadd dX0_init_67 c13 (?_ : Ex _ _ 68 _ _ _ _ _)
  obtain ⟨m14, hm14, h⟩ := st_some h
  refine pt_0_5 rfl rfl c1 fl_RX0_46 dX0_init_68 (?_ : Ex _ _ 71 _ _ _ _ _)
  rw [← hm14]
  refine x_aload_n dX0_init_71 rfl rfl (Or.inr (by decide)) (?_ : Ex _ _ 72 _ _ _ _ _)
  refine x_iload dX0_init_72 rfl (?_ : Ex _ _ 74 _ _ _ _ _)
  obtain ⟨m15, hm15, h⟩ := st_some h
  refine pt_0_7  c1 fl_RX0_49 dX0_init_74 (?_ : Ex _ _ 77 _ _ _ _ _)
  rw [← hm15]
  cases h
  exact x_retv dX0_init_77
theorem e_X0_init (d : Nat) {a0 a1 a2 a3 a4 : Int} {m : Mem} {v : Int} {m' : Mem} (h : X0_init a0 a1 a2 a3 a4 m = some (v, m')) : ExM d fm_X0_init [(10, a0), (20, a1), (0, a2), (0, a3), (0, a4)] m (.inl (3, 0)) m' := by
  exact ExM.of (by decide +kernel) (Nat.le_of_ble_eq_true rfl) (cat9 rfl) retV (e_X0_init_0 d h)
theorem dX0_isReadyOn_0 : decode cX0_isReadyOn 0 = .ok (.aload_n 0, 1) := by decide +kernel
theorem dX0_isReadyOn_1 : decode cX0_isReadyOn 1 = .ok (.getfield 9, 3) := by decide +kernel
theorem dX0_isReadyOn_4 : decode cX0_isReadyOn 4 = .ok (.ifCond .ne 15, 3) := by decide +kernel
theorem dX0_isReadyOn_7 : decode cX0_isReadyOn 7 = .ok (.aload_n 0, 1) := by decide +kernel
theorem dX0_isReadyOn_8 : decode cX0_isReadyOn 8 = .ok (.getfield 32, 3) := by decide +kernel
theorem dX0_isReadyOn_11 : decode cX0_isReadyOn 11 = .ok (.iload_n 1, 1) := by decide +kernel
theorem dX0_isReadyOn_12 : decode cX0_isReadyOn 12 = .ok (.if_icmp .ne 7, 3) := by decide +kernel
theorem dX0_isReadyOn_15 : decode cX0_isReadyOn 15 = .ok (.iconst 1, 1) := by decide +kernel
theorem dX0_isReadyOn_16 : decode cX0_isReadyOn 16 = .ok (.goto 4, 3) := by decide +kernel
theorem dX0_isReadyOn_19 : decode cX0_isReadyOn 19 = .ok (.iconst 0, 1) := by decide +kernel
theorem dX0_isReadyOn_20 : decode cX0_isReadyOn 20 = .ok (.ireturn, 1) := by decide +kernel
theorem e_X0_isReadyOn_0 (d : Nat) {l0 l1 : Int} {m : Mem} {v : Int} {m' : Mem} (h : X0_isReadyOn_0 l0 l1 m = some (v, m')) : Ex d fm_X0_isReadyOn 0 [(10, l0), (0, l1)] [] m (.inl (0, v)) m' := by
  unfold X0_isReadyOn_0 at h
  refine x_aload_n dX0_isReadyOn_0 rfl rfl (Or.inr (by decide)) (?_ : Ex _ _ 1 _ _ _ _ _)
  obtain ⟨c1, h⟩ := chk_some h
  refine gt_0_6 c1 fl_RX0_9 dX0_isReadyOn_1 (?_ : Ex _ _ 4 _ _ _ _ _)
  rcases ite_some h with ⟨b2, h⟩ | ⟨b2, h⟩
  · refine x_if_neN dX0_isReadyOn_4 (by decide) (fun hh => hh b2) (?_ : Ex _ _ 7 _ _ _ _ _)
    refine x_aload_n dX0_isReadyOn_7 rfl rfl (Or.inr (by decide)) (?_ : Ex _ _ 8 _ _ _ _ _)
    refine gt_0_2 c1 fl_RX0_32 dX0_isReadyOn_8 (?_ : Ex _ _ 11 _ _ _ _ _)
    refine x_iload_n dX0_isReadyOn_11 rfl rfl (?_ : Ex _ _ 12 _ _ _ _ _)
    rcases ite_some h with ⟨b3, h⟩ | ⟨b3, h⟩
    · refine x_icmp_neN dX0_isReadyOn_12 (by decide) (fun hh => hh b3) (?_ : Ex _ _ 15 _ _ _ _ _)
      refine x_iconst dX0_isReadyOn_15 rfl (by decide) (?_ : Ex _ _ 16 _ _ _ _ _)
      refine x_goto (tgt := 20) dX0_isReadyOn_16 rfl (?_ : Ex _ _ 20 _ _ _ _ _)
      cases h
      exact x_ret dX0_isReadyOn_20 (by decide : (0 : Int) ≠ 3)
    · refine x_icmp_ne (tgt := 19) dX0_isReadyOn_12 rfl b3 (?_ : Ex _ _ 19 _ _ _ _ _)
      refine x_iconst dX0_isReadyOn_19 rfl (by decide) (?_ : Ex _ _ 20 _ _ _ _ _)
      cases h
      exact x_ret dX0_isReadyOn_20 (by decide : (0 : Int) ≠ 3)
  · refine x_if_ne (tgt := 19) dX0_isReadyOn_4 rfl b2 (?_ : Ex _ _ 19 _ _ _ _ _)
    refine x_iconst dX0_isReadyOn_19 rfl (by decide) (?_ : Ex _ _ 20 _ _ _ _ _)
    cases h
    exact x_ret dX0_isReadyOn_20 (by decide : (0 : Int) ≠ 3)
theorem e_X0_isReadyOn (d : Nat) {a0 a1 : Int} {m : Mem} {v : Int} {m' : Mem} (h : X0_isReadyOn a0 a1 m = some (v, m')) : ExM d fm_X0_isReadyOn [(10, a0), (0, a1)] m (.inl (0, v)) m' := by
  obtain ⟨hb, h⟩ := boolR_some h
  exact ExM.of (by decide +kernel) (Nat.le_of_ble_eq_true rfl) (cat9 rfl) (retZ hb) (e_X0_isReadyOn_0 d h)
theorem dX0_lease_0 : decode cX0_lease 0 = .ok (.aload_n 0, 1) := by decide +kernel
theorem dX0_lease_1 : decode cX0_lease 1 = .ok (.iconst 1, 1) := by decide +kernel
theorem dX0_lease_2 : decode cX0_lease 2 = .ok (.putfield 9, 3) := by decide +kernel
theorem dX0_lease_5 : decode cX0_lease 5 = .ok (.aload_n 0, 1) := by decide +kernel
theorem dX0_lease_6 : decode cX0_lease 6 = .ok (.iload_n 1, 1) := by decide +kernel
theorem dX0_lease_7 : decode cX0_lease 7 = .ok (.putfield 52, 3) := by decide +kernel
theorem dX0_lease_10 : decode cX0_lease 10 = .ok (.aload_n 0, 1) := by decide +kernel
theorem dX0_lease_11 : decode cX0_lease 11 = .ok (.dup, 1) := by decide +kernel
theorem dX0_lease_12 : decode cX0_lease 12 = .ok (.getfield 55, 3) := by decide +kernel
theorem dX0_lease_15 : decode cX0_lease 15 = .ok (.iconst 1, 1) := by decide +kernel
theorem dX0_lease_16 : decode cX0_lease 16 = .ok (.iadd, 1) := by decide +kernel
theorem dX0_lease_17 : decode cX0_lease 17 = .ok (.putfield 55, 3) := by decide +kernel
theorem dX0_lease_20 : decode cX0_lease 20 = .ok (.return_, 1) := by decide +kernel
theorem e_X0_lease_0 (d : Nat) {l0 l1 : Int} {m : Mem} {v : Int} {m' : Mem} (h : X0_lease_0 l0 l1 m = some (v, m')) : Ex d fm_X0_lease 0 [(10, l0), (0, l1)] [] m (.inl (3, 0)) m' := by
  unfold X0_lease_0 at h
  refine x_aload_n dX0_lease_0 rfl rfl (Or.inr (by decide)) (?_ : Ex _ _ 1 _ _ _ _ _)
  refine x_iconst dX0_lease_1 rfl (by decide) (?_ : Ex _ _ 2 _ _ _ _ _)
  obtain ⟨c1, h⟩ := chk_some h
  obtain ⟨m2, hm2, h⟩ := st_some h
  refine pt_0_6  c1 fl_RX0_9 dX0_lease_2 (?_ : Ex _ _ 5 _ _ _ _ _)
  rw [← hm2]
  refine x_aload_n dX0_lease_5 rfl rfl (Or.inr (by decide)) (?_ : Ex _ _ 6 _ _ _ _ _)
  refine x_iload_n dX0_lease_6 rfl rfl (?_ : Ex _ _ 7 _ _ _ _ _)
  obtain ⟨m3, hm3, h⟩ := st_some h
  refine pt_0_8  c1 fl_RX0_52 dX0_lease_7 (?_ : Ex _ _ 10 _ _ _ _ _)
  rw [← hm3]
  refine x_aload_n dX0_lease_10 rfl rfl (Or.inr (by decide)) (?_ : Ex _ _ 11 _ _ _ _ _)
  refine x_dup (by decide : (10 : Int) ≠ 2) dX0_lease_11 (?_ : Ex _ _ 12 _ _ _ _ _)
  refine gt_0_9 c1 fl_RX0_55 dX0_lease_12 (?_ : Ex _ _ 15 _ _ _ _ _)
  refine x_iconst dX0_lease_15 rfl (by decide) (?_ : Ex _ _ 16 _ _ _ _ _)
  obtain ⟨c4, h⟩ := chk_some h
  refine x_iadd dX0_lease_16 c4 (?_ : Ex _ _ 17 _ _ _ _ _)
  obtain ⟨m5, hm5, h⟩ := st_some h
  refine pt_0_9  c1 fl_RX0_55 dX0_lease_17 (?_ : Ex _ _ 20 _ _ _ _ _)
  rw [← hm5]
  cases h
  exact x_retv dX0_lease_20
theorem e_X0_lease (d : Nat) {a0 a1 : Int} {m : Mem} {v : Int} {m' : Mem} (h : X0_lease a0 a1 m = some (v, m')) : ExM d fm_X0_lease [(10, a0), (0, a1)] m (.inl (3, 0)) m' := by
  exact ExM.of (by decide +kernel) (Nat.le_of_ble_eq_true rfl) (cat9 rfl) retV (e_X0_lease_0 d h)
theorem dX0_wake_0 : decode cX0_wake 0 = .ok (.aload_n 0, 1) := by decide +kernel
theorem dX0_wake_1 : decode cX0_wake 1 = .ok (.getfield 9, 3) := by decide +kernel
theorem dX0_wake_4 : decode cX0_wake 4 = .ok (.iconst 2, 1) := by decide +kernel
theorem dX0_wake_5 : decode cX0_wake 5 = .ok (.if_icmp .ne 21, 3) := by decide +kernel
theorem dX0_wake_8 : decode cX0_wake 8 = .ok (.aload_n 0, 1) := by decide +kernel
theorem dX0_wake_9 : decode cX0_wake 9 = .ok (.getfield 52, 3) := by decide +kernel
theorem dX0_wake_12 : decode cX0_wake 12 = .ok (.iload_n 1, 1) := by decide +kernel
theorem dX0_wake_13 : decode cX0_wake 13 = .ok (.if_icmp .gt 13, 3) := by decide +kernel
theorem dX0_wake_16 : decode cX0_wake 16 = .ok (.aload_n 0, 1) := by decide +kernel
theorem dX0_wake_17 : decode cX0_wake 17 = .ok (.iconst 0, 1) := by decide +kernel
theorem dX0_wake_18 : decode cX0_wake 18 = .ok (.putfield 9, 3) := by decide +kernel
theorem dX0_wake_21 : decode cX0_wake 21 = .ok (.aload_n 0, 1) := by decide +kernel
theorem dX0_wake_22 : decode cX0_wake 22 = .ok (.iload_n 1, 1) := by decide +kernel
theorem dX0_wake_23 : decode cX0_wake 23 = .ok (.putfield 49, 3) := by decide +kernel
theorem dX0_wake_26 : decode cX0_wake 26 = .ok (.return_, 1) := by decide +kernel
theorem e_X0_wake_0 (d : Nat) {l0 l1 : Int} {m : Mem} {v : Int} {m' : Mem} (h : X0_wake_0 l0 l1 m = some (v, m')) : Ex d fm_X0_wake 0 [(10, l0), (0, l1)] [] m (.inl (3, 0)) m' := by
  unfold X0_wake_0 at h
  refine x_aload_n dX0_wake_0 rfl rfl (Or.inr (by decide)) (?_ : Ex _ _ 1 _ _ _ _ _)
  obtain ⟨c1, h⟩ := chk_some h
  refine gt_0_6 c1 fl_RX0_9 dX0_wake_1 (?_ : Ex _ _ 4 _ _ _ _ _)
  refine x_iconst dX0_wake_4 rfl (by decide) (?_ : Ex _ _ 5 _ _ _ _ _)
  rcases ite_some h with ⟨b2, h⟩ | ⟨b2, h⟩
  · refine x_icmp_neN dX0_wake_5 (by decide) (fun hh => hh b2) (?_ : Ex _ _ 8 _ _ _ _ _)
    refine x_aload_n dX0_wake_8 rfl rfl (Or.inr (by decide)) (?_ : Ex _ _ 9 _ _ _ _ _)
    refine gt_0_8 c1 fl_RX0_52 dX0_wake_9 (?_ : Ex _ _ 12 _ _ _ _ _)
    refine x_iload_n dX0_wake_12 rfl rfl (?_ : Ex _ _ 13 _ _ _ _ _)
    rcases ite_some h with ⟨b3, h⟩ | ⟨b3, h⟩
    · refine x_icmp_gt (tgt := 26) dX0_wake_13 rfl b3 (?_ : Ex _ _ 26 _ _ _ _ _)
      cases h
      exact x_retv dX0_wake_26
    · refine x_icmp_gtN dX0_wake_13 (by decide) b3 (?_ : Ex _ _ 16 _ _ _ _ _)
      refine x_aload_n dX0_wake_16 rfl rfl (Or.inr (by decide)) (?_ : Ex _ _ 17 _ _ _ _ _)
      refine x_iconst dX0_wake_17 rfl (by decide) (?_ : Ex _ _ 18 _ _ _ _ _)
      obtain ⟨m4, hm4, h⟩ := st_some h
      refine pt_0_6  c1 fl_RX0_9 dX0_wake_18 (?_ : Ex _ _ 21 _ _ _ _ _)
      rw [← hm4]
      refine x_aload_n dX0_wake_21 rfl rfl (Or.inr (by decide)) (?_ : Ex _ _ 22 _ _ _ _ _)
      refine x_iload_n dX0_wake_22 rfl rfl (?_ : Ex _ _ 23 _ _ _ _ _)
      obtain ⟨m5, hm5, h⟩ := st_some h
      refine pt_0_7  c1 fl_RX0_49 dX0_wake_23 (?_ : Ex _ _ 26 _ _ _ _ _)
      rw [← hm5]
      cases h
      exact x_retv dX0_wake_26
  · refine x_icmp_ne (tgt := 26) dX0_wake_5 rfl b2 (?_ : Ex _ _ 26 _ _ _ _ _)
    cases h
    exact x_retv dX0_wake_26
theorem e_X0_wake (d : Nat) {a0 a1 : Int} {m : Mem} {v : Int} {m' : Mem} (h : X0_wake a0 a1 m = some (v, m')) : ExM d fm_X0_wake [(10, a0), (0, a1)] m (.inl (3, 0)) m' := by
  exact ExM.of (by decide +kernel) (Nat.le_of_ble_eq_true rfl) (cat9 rfl) retV (e_X0_wake_0 d h)
theorem dX3_init_0 : decode cX3_init 0 = .ok (.aload_n 0, 1) := by decide +kernel
theorem dX3_init_1 : decode cX3_init 1 = .ok (.invokespecial 3, 3) := by decide +kernel
theorem dX3_init_4 : decode cX3_init 4 = .ok (.aload_n 0, 1) := by decide +kernel
theorem dX3_init_5 : decode cX3_init 5 = .ok (.bipush 80, 2) := by decide +kernel
theorem dX3_init_7 : decode cX3_init 7 = .ok (.newarray .int, 2) := by decide +kernel
theorem dX3_init_9 : decode cX3_init 9 = .ok (.putfield 9, 3) := by decide +kernel
theorem dX3_init_12 : decode cX3_init 12 = .ok (.aload_n 0, 1) := by decide +kernel
theorem dX3_init_13 : decode cX3_init 13 = .ok (.bipush 80, 2) := by decide +kernel
theorem dX3_init_15 : decode cX3_init 15 = .ok (.newarray .int, 2) := by decide +kernel
theorem dX3_init_17 : decode cX3_init 17 = .ok (.putfield 15, 3) := by decide +kernel
theorem dX3_init_20 : decode cX3_init 20 = .ok (.aload_n 0, 1) := by decide +kernel
theorem dX3_init_21 : decode cX3_init 21 = .ok (.bipush 80, 2) := by decide +kernel
theorem dX3_init_23 : decode cX3_init 23 = .ok (.newarray .int, 2) := by decide +kernel
theorem dX3_init_25 : decode cX3_init 25 = .ok (.putfield 18, 3) := by decide +kernel
theorem dX3_init_28 : decode cX3_init 28 = .ok (.return_, 1) := by decide +kernel
theorem e_X3_init_0 (d : Nat) {l0 : Int} {m : Mem} {v : Int} {m' : Mem} (h : X3_init_0 l0 m = some (v, m')) : Ex d fm_X3_init 0 [(13, l0)] [] m (.inl (3, 0)) m' := by
  unfold X3_init_0 at h
  refine x_aload_n dX3_init_0 rfl rfl (Or.inr (by decide)) (?_ : Ex _ _ 1 _ _ _ _ _)
  obtain ⟨c1, h⟩ := chk_some h
  refine x_objInit (by decide) c1 oi_RX3_3 oi_a oi_b (Nat.le_of_ble_eq_true rfl) dX3_init_1 (?_ : Ex _ _ 4 _ _ _ _ _)
  refine x_aload_n dX3_init_4 rfl rfl (Or.inr (by decide)) (?_ : Ex _ _ 5 _ _ _ _ _)
  refine x_bipush dX3_init_5 kb_80 (by decide) (?_ : Ex _ _ 7 _ _ _ _ _)
  obtain ⟨i2, hi2, h⟩ := vl_some h
  obtain ⟨⟨c3, c4⟩, h⟩ := chk_some h
  obtain ⟨m5, hm5, h⟩ := st_some h
  refine na_i_80 c3 c4 dX3_init_7 (?_ : Ex _ _ 9 _ _ _ _ _)
  rw [← hm5]
  obtain ⟨m6, hm6, h⟩ := st_some h
  refine pt_3_0 rfl rfl c1 fl_RX3_9 dX3_init_9 (?_ : Ex _ _ 12 _ _ _ _ _)
  rw [← hm6]
  refine x_aload_n dX3_init_12 rfl rfl (Or.inr (by decide)) (?_ : Ex _ _ 13 _ _ _ _ _)
  refine x_bipush dX3_init_13 kb_80 (by decide) (?_ : Ex _ _ 15 _ _ _ _ _)
  obtain ⟨i7, hi7, h⟩ := vl_some h
  obtain ⟨⟨c8, c9⟩, h⟩ := chk_some h
  obtain ⟨m10, hm10, h⟩ := st_some h
  refine na_i_80 c8 c9 dX3_init_15 (?_ : Ex _ _ 17 _ _ _ _ _)
  rw [← hm10]
  obtain ⟨m11, hm11, h⟩ := st_some h
  refine pt_3_1 rfl rfl c1 fl_RX3_15 dX3_init_17 (?_ : Ex _ _ 20 _ _ _ _ _)
  rw [← hm11]
  refine x_aload_n dX3_init_20 rfl rfl (Or.inr (by decide)) (?_ : Ex _ _ 21 _ _ _ _ _)
  refine x_bipush dX3_init_21 kb_80 (by decide) (?_ : Ex _ _ 23 _ _ _ _ _)
  obtain ⟨i12, hi12, h⟩ := vl_some h
  obtain ⟨⟨c13, c14⟩, h⟩ := chk_some h
  obtain ⟨m15, hm15, h⟩ := st_some h
  refine na_i_80 c13 c14 dX3_init_23 (?_ : Ex _ _ 25 _ _ _ _ _)
  rw [← hm15]
  obtain ⟨m16, hm16, h⟩ := st_some h
  refine pt_3_2 rfl rfl c1 fl_RX3_18 dX3_init_25 (?_ : Ex _ _ 28 _ _ _ _ _)
  rw [← hm16]
  cases h
  exact x_retv dX3_init_28
theorem e_X3_init (d : Nat) {a0 : Int} {m : Mem} {v : Int} {m' : Mem} (h : X3_init a0 m = some (v, m')) : ExM d fm_X3_init [(13, a0)] m (.inl (3, 0)) m' := by
  exact ExM.of (by decide +kernel) (Nat.le_of_ble_eq_true rfl) (cat9 rfl) retV (e_X3_init_0 d h)
theorem dX1_init_0 : decode cX1_init 0 = .ok (.aload_n 0, 1) := by decide +kernel
theorem dX1_init_1 : decode cX1_init 1 = .ok (.invokespecial 3, 3) := by decide +kernel
theorem dX1_init_4 : decode cX1_init 4 = .ok (.aload_n 0, 1) := by decide +kernel
theorem dX1_init_5 : decode cX1_init 5 = .ok (.bipush 80, 2) := by decide +kernel
theorem dX1_init_7 : decode cX1_init 7 = .ok (.newarray .int, 2) := by decide +kernel
theorem dX1_init_9 : decode cX1_init 9 = .ok (.putfield 9, 3) := by decide +kernel
theorem dX1_init_12 : decode cX1_init 12 = .ok (.aload_n 0, 1) := by decide +kernel
theorem dX1_init_13 : decode cX1_init 13 = .ok (.bipush 80, 2) := by decide +kernel
theorem dX1_init_15 : decode cX1_init 15 = .ok (.newarray .int, 2) := by decide +kernel
theorem dX1_init_17 : decode cX1_init 17 = .ok (.putfield 15, 3) := by decide +kernel
theorem dX1_init_20 : decode cX1_init 20 = .ok (.aload_n 0, 1) := by decide +kernel
theorem dX1_init_21 : decode cX1_init 21 = .ok (.bipush 80, 2) := by decide +kernel
theorem dX1_init_23 : decode cX1_init 23 = .ok (.newarray .int, 2) := by decide +kernel
theorem dX1_init_25 : decode cX1_init 25 = .ok (.putfield 18, 3) := by decide +kernel
theorem dX1_init_28 : decode cX1_init 28 = .ok (.aload_n 0, 1) := by decide +kernel
theorem dX1_init_29 : decode cX1_init 29 = .ok (.new 21, 3) := by decide +kernel
theorem dX1_init_32 : decode cX1_init 32 = .ok (.dup, 1) := by decide +kernel
theorem dX1_init_33 : decode cX1_init 33 = .ok (.invokespecial 23, 3) := by decide +kernel
theorem dX1_init_36 : decode cX1_init 36 = .ok (.putfield 24, 3) := by decide +kernel
theorem dX1_init_39 : decode cX1_init 39 = .ok (.return_, 1) := by decide +kernel
theorem e_X1_init_0 (d : Nat) {l0 : Int} {m : Mem} {v : Int} {m' : Mem} (h : X1_init_0 l0 m = some (v, m')) : Ex (d + 1) fm_X1_init 0 [(11, l0)] [] m (.inl (3, 0)) m' := by
  unfold X1_init_0 at h
  refine x_aload_n dX1_init_0 rfl rfl (Or.inr (by decide)) (?_ : Ex _ _ 1 _ _ _ _ _)
  obtain ⟨c1, h⟩ := chk_some h
  refine x_objInit (by decide) c1 oi_RX1_3 oi_a oi_b (Nat.le_of_ble_eq_true rfl) dX1_init_1 (?_ : Ex _ _ 4 _ _ _ _ _)
  refine x_aload_n dX1_init_4 rfl rfl (Or.inr (by decide)) (?_ : Ex _ _ 5 _ _ _ _ _)
  refine x_bipush dX1_init_5 kb_80 (by decide) (?_ : Ex _ _ 7 _ _ _ _ _)
  obtain ⟨i2, hi2, h⟩ := vl_some h
  obtain ⟨⟨c3, c4⟩, h⟩ := chk_some h
  obtain ⟨m5, hm5, h⟩ := st_some h
  refine na_i_80 c3 c4 dX1_init_7 (?_ : Ex _ _ 9 _ _ _ _ _)
  rw [← hm5]
  obtain ⟨m6, hm6, h⟩ := st_some h
  refine pt_1_0 rfl rfl c1 fl_RX1_9 dX1_init_9 (?_ : Ex _ _ 12 _ _ _ _ _)
  rw [← hm6]
  refine x_aload_n dX1_init_12 rfl rfl (Or.inr (by decide)) (?_ : Ex _ _ 13 _ _ _ _ _)
  refine x_bipush dX1_init_13 kb_80 (by decide) (?_ : Ex _ _ 15 _ _ _ _ _)
  obtain ⟨i7, hi7, h⟩ := vl_some h
  obtain ⟨⟨c8, c9⟩, h⟩ := chk_some h
  obtain ⟨m10, hm10, h⟩ := st_some h
  refine na_i_80 c8 c9 dX1_init_15 (?_ : Ex _ _ 17 _ _ _ _ _)
  rw [← hm10]
  obtain ⟨m11, hm11, h⟩ := st_some h
  refine pt_1_1 rfl rfl c1 fl_RX1_15 dX1_init_17 (?_ : Ex _ _ 20 _ _ _ _ _)
  rw [← hm11]
  refine x_aload_n dX1_init_20 rfl rfl (Or.inr (by decide)) (?_ : Ex _ _ 21 _ _ _ _ _)
  refine x_bipush dX1_init_21 kb_80 (by decide) (?_ : Ex _ _ 23 _ _ _ _ _)
  obtain ⟨i12, hi12, h⟩ := vl_some h
  obtain ⟨⟨c13, c14⟩, h⟩ := chk_some h
  obtain ⟨m15, hm15, h⟩ := st_some h
  refine na_i_80 c13 c14 dX1_init_23 (?_ : Ex _ _ 25 _ _ _ _ _)
  rw [← hm15]
  obtain ⟨m16, hm16, h⟩ := st_some h
  refine pt_1_2 rfl rfl c1 fl_RX1_18 dX1_init_25 (?_ : Ex _ _ 28 _ _ _ _ _)
  rw [← hm16]
  refine x_aload_n dX1_init_28 rfl rfl (Or.inr (by decide)) (?_ : Ex _ _ 29 _ _ _ _ _)
  obtain ⟨i17, hi17, h⟩ := vl_some h
  obtain ⟨⟨c18, c19⟩, h⟩ := chk_some h
  obtain ⟨m20, hm20, h⟩ := st_some h
  refine nw_3 c18 c19 cl_RX1_21 dX1_init_29 (?_ : Ex _ _ 32 _ _ _ _ _)
  rw [← hm20]
  refine x_dup (by decide : (13 : Int) ≠ 2) dX1_init_32 (?_ : Ex _ _ 33 _ _ _ _ _)
  obtain ⟨v21, m22, g23, h⟩ := cal_some h
  refine cN0 (e_X3_init d g23) (contV (?_ : Ex _ _ 36 _ _ _ _ _)) og_X3_init rfl nl_RX1_23 rfl rfl (by decide) c18 im_X3_init (Nat.le_of_ble_eq_true rfl) dX1_init_33
  obtain ⟨m24, hm24, h⟩ := st_some h
  refine pt_1_9  c1 fl_RX1_24 dX1_init_36 (?_ : Ex _ _ 39 _ _ _ _ _)
  rw [← hm24]
  cases h
  exact x_retv dX1_init_39
theorem e_X1_init (d : Nat) {a0 : Int} {m : Mem} {v : Int} {m' : Mem} (h : X1_init a0 m = some (v, m')) : ExM (d + 1) fm_X1_init [(11, a0)] m (.inl (3, 0)) m' := by
  exact ExM.of (by decide +kernel) (Nat.le_of_ble_eq_true rfl) (cat9 rfl) retV (e_X1_init_0 d h)
theorem dX1_lookAhead_0 : decode cX1_lookAhead 0 = .ok (.iload_n 1, 1) := by decide +kernel
theorem dX1_lookAhead_1 : decode cX1_lookAhead 1 = .ok (.istore_n 2, 1) := by decide +kernel
theorem dX1_lookAhead_2 : decode cX1_lookAhead 2 = .ok (.iload_n 2, 1) := by decide +kernel
theorem dX1_lookAhead_3 : decode cX1_lookAhead 3 = .ok (.aload_n 0, 1) := by decide +kernel
theorem dX1_lookAhead_4 : decode cX1_lookAhead 4 = .ok (.getfield 24, 3) := by decide +kernel
theorem dX1_lookAhead_7 : decode cX1_lookAhead 7 = .ok (.getfield 55, 3) := by decide +kernel
theorem dX1_lookAhead_10 : decode cX1_lookAhead 10 = .ok (.if_icmp .ge 29, 3) := by decide +kernel
theorem dX1_lookAhead_13 : decode cX1_lookAhead 13 = .ok (.iload_n 2, 1) := by decide +kernel
theorem dX1_lookAhead_14 : decode cX1_lookAhead 14 = .ok (.bipush 80, 2) := by decide +kernel
theorem dX1_lookAhead_16 : decode cX1_lookAhead 16 = .ok (.if_icmp .ge 23, 3) := by decide +kernel
theorem dX1_lookAhead_19 : decode cX1_lookAhead 19 = .ok (.aload_n 0, 1) := by decide +kernel
theorem dX1_lookAhead_20 : decode cX1_lookAhead 20 = .ok (.getfield 24, 3) := by decide +kernel
theorem dX1_lookAhead_23 : decode cX1_lookAhead 23 = .ok (.getfield 58, 3) := by decide +kernel
theorem dX1_lookAhead_26 : decode cX1_lookAhead 26 = .ok (.iload_n 2, 1) := by decide +kernel
theorem dX1_lookAhead_27 : decode cX1_lookAhead 27 = .ok (.iaload, 1) := by decide +kernel
theorem dX1_lookAhead_28 : decode cX1_lookAhead 28 = .ok (.bipush 7, 2) := by decide +kernel
theorem dX1_lookAhead_30 : decode cX1_lookAhead 30 = .ok (.if_icmp .eq 9, 3) := by decide +kernel
theorem dX1_lookAhead_33 : decode cX1_lookAhead 33 = .ok (.iinc 2 1, 3) := by decide +kernel
theorem dX1_lookAhead_36 : decode cX1_lookAhead 36 = .ok (.goto (-34), 3) := by decide +kernel
theorem dX1_lookAhead_39 : decode cX1_lookAhead 39 = .ok (.aload_n 0, 1) := by decide +kernel
theorem dX1_lookAhead_40 : decode cX1_lookAhead 40 = .ok (.iload_n 2, 1) := by decide +kernel
theorem dX1_lookAhead_41 : decode cX1_lookAhead 41 = .ok (.aload_n 0, 1) := by decide +kernel
theorem dX1_lookAhead_42 : decode cX1_lookAhead 42 = .ok (.getfield 24, 3) := by decide +kernel
theorem dX1_lookAhead_45 : decode cX1_lookAhead 45 = .ok (.getfield 55, 3) := by decide +kernel
theorem dX1_lookAhead_48 : decode cX1_lookAhead 48 = .ok (.if_icmp .ge 7, 3) := by decide +kernel
theorem dX1_lookAhead_51 : decode cX1_lookAhead 51 = .ok (.iconst 1, 1) := by decide +kernel
theorem dX1_lookAhead_52 : decode cX1_lookAhead 52 = .ok (.goto 4, 3) := by decide +kernel
theorem dX1_lookAhead_55 : decode cX1_lookAhead 55 = .ok (.iconst 0, 1) := by decide +kernel
theorem dX1_lookAhead_56 : decode cX1_lookAhead 56 = .ok (.putfield 59, 3) := by decide +kernel
theorem dX1_lookAhead_59 : decode cX1_lookAhead 59 = .ok (.aload_n 0, 1) := by decide +kernel
theorem dX1_lookAhead_60 : decode cX1_lookAhead 60 = .ok (.iload_n 2, 1) := by decide +kernel
theorem dX1_lookAhead_61 : decode cX1_lookAhead 61 = .ok (.iconst 1, 1) := by decide +kernel
theorem dX1_lookAhead_62 : decode cX1_lookAhead 62 = .ok (.iadd, 1) := by decide +kernel
theorem dX1_lookAhead_63 : decode cX1_lookAhead 63 = .ok (.putfield 49, 3) := by decide +kernel
theorem dX1_lookAhead_66 : decode cX1_lookAhead 66 = .ok (.aload_n 0, 1) := by decide +kernel
theorem dX1_lookAhead_67 : decode cX1_lookAhead 67 = .ok (.aload_n 0, 1) := by decide +kernel
theorem dX1_lookAhead_68 : decode cX1_lookAhead 68 = .ok (.getfield 49, 3) := by decide +kernel
theorem dX1_lookAhead_71 : decode cX1_lookAhead 71 = .ok (.putfield 52, 3) := by decide +kernel
theorem dX1_lookAhead_74 : decode cX1_lookAhead 74 = .ok (.aload_n 0, 1) := by decide +kernel
theorem dX1_lookAhead_75 : decode cX1_lookAhead 75 = .ok (.getfield 52, 3) := by decide +kernel
theorem dX1_lookAhead_78 : decode cX1_lookAhead 78 = .ok (.aload_n 0, 1) := by decide +kernel
theorem dX1_lookAhead_79 : decode cX1_lookAhead 79 = .ok (.getfield 24, 3) := by decide +kernel
theorem dX1_lookAhead_82 : decode cX1_lookAhead 82 = .ok (.getfield 55, 3) := by decide +kernel
theorem dX1_lookAhead_85 : decode cX1_lookAhead 85 = .ok (.if_icmp .ge 42, 3) := by decide +kernel
theorem dX1_lookAhead_88 : decode cX1_lookAhead 88 = .ok (.aload_n 0, 1) := by decide +kernel
theorem dX1_lookAhead_89 : decode cX1_lookAhead 89 = .ok (.getfield 52, 3) := by decide +kernel
theorem dX1_lookAhead_92 : decode cX1_lookAhead 92 = .ok (.bipush 80, 2) := by decide +kernel
theorem dX1_lookAhead_94 : decode cX1_lookAhead 94 = .ok (.if_icmp .ge 33, 3) := by decide +kernel
theorem dX1_lookAhead_97 : decode cX1_lookAhead 97 = .ok (.aload_n 0, 1) := by decide +kernel
theorem dX1_lookAhead_98 : decode cX1_lookAhead 98 = .ok (.getfield 24, 3) := by decide +kernel
theorem dX1_lookAhead_101 : decode cX1_lookAhead 101 = .ok (.getfield 58, 3) := by decide +kernel
theorem dX1_lookAhead_104 : decode cX1_lookAhead 104 = .ok (.aload_n 0, 1) := by decide +kernel
theorem dX1_lookAhead_105 : decode cX1_lookAhead 105 = .ok (.getfield 52, 3) := by decide +kernel
theorem dX1_lookAhead_108 : decode cX1_lookAhead 108 = .ok (.iaload, 1) := by decide +kernel
theorem dX1_lookAhead_109 : decode cX1_lookAhead 109 = .ok (.bipush 7, 2) := by decide +kernel
theorem dX1_lookAhead_111 : decode cX1_lookAhead 111 = .ok (.if_icmp .le 16, 3) := by decide +kernel
theorem dX1_lookAhead_114 : decode cX1_lookAhead 114 = .ok (.aload_n 0, 1) := by decide +kernel
theorem dX1_lookAhead_115 : decode cX1_lookAhead 115 = .ok (.dup, 1) := by decide +kernel
theorem dX1_lookAhead_116 : decode cX1_lookAhead 116 = .ok (.getfield 52, 3) := by decide +kernel
theorem dX1_lookAhead_119 : decode cX1_lookAhead 119 = .ok (.iconst 1, 1) := by decide +kernel
theorem dX1_lookAhead_120 : decode cX1_lookAhead 120 = .ok (.iadd, 1) := by decide +kernel
theorem dX1_lookAhead_121 : decode cX1_lookAhead 121 = .ok (.putfield 52, 3) := by decide +kernel
theorem dX1_lookAhead_124 : decode cX1_lookAhead 124 = .ok (.goto (-50), 3) := by decide +kernel
theorem dX1_lookAhead_127 : decode cX1_lookAhead 127 = .ok (.return_, 1) := by decide +kernel
theorem e_X1_lookAhead_74 (d : Nat) : ∀ (n : Nat) {l0 : Int} {m : Mem} {v : Int} {m' : Mem}, X1_lookAhead_74 n l0 m = some (v, m') → Ex d fm_X1_lookAhead 74 [(11, l0), (3, 0), (3, 0)] [] m (.inl (3, 0)) m' := by
  intro n
  induction n with
  | zero =>
    intro l0 m v m' h
    have h : (none : Option R2) = some _ := h
    cases h
  | succ n ih =>
    intro l0 m v m' h
    rw [X1_lookAhead_74] at h
    refine x_aload_n dX1_lookAhead_74 rfl rfl (Or.inr (by decide)) (?_ : Ex _ _ 75 _ _ _ _ _)
    obtain ⟨c1, h⟩ := chk_some h
    refine gt_1_11 c1 fl_RX1_52 dX1_lookAhead_75 (?_ : Ex _ _ 78 _ _ _ _ _)
    refine x_aload_n dX1_lookAhead_78 rfl rfl (Or.inr (by decide)) (?_ : Ex _ _ 79 _ _ _ _ _)
    refine gt_1_9 c1 fl_RX1_24 dX1_lookAhead_79 (?_ : Ex _ _ 82 _ _ _ _ _)
    obtain ⟨c2, h⟩ := chk_some h
    refine gt_3_3 c2 fl_RX1_55 dX1_lookAhead_82 (?_ : Ex _ _ 85 _ _ _ _ _)
    rcases ite_some h with ⟨b3, h⟩ | ⟨b3, h⟩
    · refine x_icmp_ge (tgt := 127) dX1_lookAhead_85 rfl b3 (?_ : Ex _ _ 127 _ _ _ _ _)
      cases h
      exact x_retv dX1_lookAhead_127
    · refine x_icmp_geN dX1_lookAhead_85 (by decide) b3 (?_ : Ex _ _ 88 _ _ _ _ _)
      refine x_aload_n dX1_lookAhead_88 rfl rfl (Or.inr (by decide)) (?_ : Ex _ _ 89 _ _ _ _ _)
      refine gt_1_11 c1 fl_RX1_52 dX1_lookAhead_89 (?_ : Ex _ _ 92 _ _ _ _ _)
      refine x_bipush dX1_lookAhead_92 kb_80 (by decide) (?_ : Ex _ _ 94 _ _ _ _ _)
      rcases ite_some h with ⟨b4, h⟩ | ⟨b4, h⟩
      · refine x_icmp_ge (tgt := 127) dX1_lookAhead_94 rfl b4 (?_ : Ex _ _ 127 _ _ _ _ _)
        cases h
        exact x_retv dX1_lookAhead_127
      · refine x_icmp_geN dX1_lookAhead_94 (by decide) b4 (?_ : Ex _ _ 97 _ _ _ _ _)
        refine x_aload_n dX1_lookAhead_97 rfl rfl (Or.inr (by decide)) (?_ : Ex _ _ 98 _ _ _ _ _)
        refine gt_1_9 c1 fl_RX1_24 dX1_lookAhead_98 (?_ : Ex _ _ 101 _ _ _ _ _)
        refine gt_3_0 c2 fl_RX1_58 dX1_lookAhead_101 (?_ : Ex _ _ 104 _ _ _ _ _)
        refine x_aload_n dX1_lookAhead_104 rfl rfl (Or.inr (by decide)) (?_ : Ex _ _ 105 _ _ _ _ _)
        refine gt_1_11 c1 fl_RX1_52 dX1_lookAhead_105 (?_ : Ex _ _ 108 _ _ _ _ _)
        obtain ⟨⟨c5, c6, c7⟩, h⟩ := chk_some h
        refine ld_i_80 c5 c6 c7 dX1_lookAhead_108 (?_ : Ex _ _ 109 _ _ _ _ _)
        refine x_bipush dX1_lookAhead_109 kb_7 (by decide) (?_ : Ex _ _ 111 _ _ _ _ _)
        rcases ite_some h with ⟨b8, h⟩ | ⟨b8, h⟩
        · refine x_icmp_le (tgt := 127) dX1_lookAhead_111 rfl b8 (?_ : Ex _ _ 127 _ _ _ _ _)
          cases h
          exact x_retv dX1_lookAhead_127
        · refine x_icmp_leN dX1_lookAhead_111 (by decide) b8 (?_ : Ex _ _ 114 _ _ _ _ _)
          refine x_aload_n dX1_lookAhead_114 rfl rfl (Or.inr (by decide)) (?_ : Ex _ _ 115 _ _ _ _ _)
          refine x_dup (by decide : (11 : Int) ≠ 2) dX1_lookAhead_115 (?_ : Ex _ _ 116 _ _ _ _ _)
          refine gt_1_11 c1 fl_RX1_52 dX1_lookAhead_116 (?_ : Ex _ _ 119 _ _ _ _ _)
          refine x_iconst dX1_lookAhead_119 rfl (by decide) (?_ : Ex _ _ 120 _ _ _ _ _)
          obtain ⟨c9, h⟩ := chk_some h
          refine x_iadd dX1_lookAhead_120 c9 (?_ : Ex _ _ 121 _ _ _ _ _)
          obtain ⟨m10, hm10, h⟩ := st_some h
          refine pt_1_11  c1 fl_RX1_52 dX1_lookAhead_121 (?_ : Ex _ _ 124 _ _ _ _ _)
          rw [← hm10]
          refine x_goto (tgt := 74) dX1_lookAhead_124 rfl (?_ : Ex _ _ 74 _ _ _ _ _)
          exact ih h
theorem e_X1_lookAhead_56 (d : Nat) {l0 l2 s0 s1 : Int} {m : Mem} {v : Int} {m' : Mem} (h : X1_lookAhead_56 l0 l2 s0 s1 m = some (v, m')) : Ex d fm_X1_lookAhead 56 [(11, l0), (3, 0), (0, l2)] [(0, s0), (11, s1)] m (.inl (3, 0)) m' := by
  unfold X1_lookAhead_56 at h
  obtain ⟨⟨c1, c2⟩, h⟩ := chk_some h
  obtain ⟨m3, hm3, h⟩ := st_some h
  refine pt_1_7  c1 c2 fl_RX1_59 dX1_lookAhead_56 (?_ : Ex _ _ 59 _ _ _ _ _)
  rw [← hm3]
  refine x_aload_n dX1_lookAhead_59 rfl rfl (Or.inr (by decide)) (?_ : Ex _ _ 60 _ _ _ _ _)
  refine x_iload_n dX1_lookAhead_60 rfl rfl (?_ : Ex _ _ 61 _ _ _ _ _)
  refine x_iconst dX1_lookAhead_61 rfl (by decide) (?_ : Ex _ _ 62 _ _ _ _ _)
  obtain ⟨c4, h⟩ := chk_some h
  refine x_iadd dX1_lookAhead_62 c4 (?_ : Ex _ _ 63 _ _ _ _ _)
  obtain ⟨c5, h⟩ := chk_some h
  obtain ⟨m6, hm6, h⟩ := st_some h
  refine pt_1_10  c5 fl_RX1_49 dX1_lookAhead_63 (?_ : Ex _ _ 66 _ _ _ _ _)
  rw [← hm6]
  refine x_aload_n dX1_lookAhead_66 rfl rfl (Or.inr (by decide)) (?_ : Ex _ _ 67 _ _ _ _ _)
  refine x_aload_n dX1_lookAhead_67 rfl rfl (Or.inr (by decide)) (?_ : Ex _ _ 68 _ _ _ _ _)
  refine gt_1_10 c5 fl_RX1_49 dX1_lookAhead_68 (?_ : Ex _ _ 71 _ _ _ _ _)
  obtain ⟨m7, hm7, h⟩ := st_some h
  refine pt_1_11  c5 fl_RX1_52 dX1_lookAhead_71 (?_ : Ex _ _ 74 _ _ _ _ _)
  rw [← hm7]
  refine Ex.wk (ls2 := [(11, l0), (3, 0), (3, 0)]) ⟨Or.inr rfl, Or.inl rfl, Or.inl rfl, trivial⟩ ?_
  exact e_X1_lookAhead_74 d fuel9 h
theorem e_X1_lookAhead_39 (d : Nat) {l0 l2 : Int} {m : Mem} {v : Int} {m' : Mem} (h : X1_lookAhead_39 l0 l2 m = some (v, m')) : Ex d fm_X1_lookAhead 39 [(11, l0), (3, 0), (0, l2)] [] m (.inl (3, 0)) m' := by
  unfold X1_lookAhead_39 at h
  refine x_aload_n dX1_lookAhead_39 rfl rfl (Or.inr (by decide)) (?_ : Ex _ _ 40 _ _ _ _ _)
  refine x_iload_n dX1_lookAhead_40 rfl rfl (?_ : Ex _ _ 41 _ _ _ _ _)
  refine x_aload_n dX1_lookAhead_41 rfl rfl (Or.inr (by decide)) (?_ : Ex _ _ 42 _ _ _ _ _)
  obtain ⟨c1, h⟩ := chk_some h
  refine gt_1_9 c1 fl_RX1_24 dX1_lookAhead_42 (?_ : Ex _ _ 45 _ _ _ _ _)
  obtain ⟨c2, h⟩ := chk_some h
  refine gt_3_3 c2 fl_RX1_55 dX1_lookAhead_45 (?_ : Ex _ _ 48 _ _ _ _ _)
  rcases ite_some h with ⟨b3, h⟩ | ⟨b3, h⟩
  · refine x_icmp_ge (tgt := 55) dX1_lookAhead_48 rfl b3 (?_ : Ex _ _ 55 _ _ _ _ _)
    refine x_iconst dX1_lookAhead_55 rfl (by decide) (?_ : Ex _ _ 56 _ _ _ _ _)
    exact e_X1_lookAhead_56 d h
  · refine x_icmp_geN dX1_lookAhead_48 (by decide) b3 (?_ : Ex _ _ 51 _ _ _ _ _)
    refine x_iconst dX1_lookAhead_51 rfl (by decide) (?_ : Ex _ _ 52 _ _ _ _ _)
    refine x_goto (tgt := 56) dX1_lookAhead_52 rfl (?_ : Ex _ _ 56 _ _ _ _ _)
    exact e_X1_lookAhead_56 d h
theorem e_X1_lookAhead_2 (d : Nat) {k39 : Int → Int → Mem → Option R2} (hk39 : ∀ {l0 l2 : Int} {m : Mem} {v : Int} {m' : Mem}, k39 l0 l2 m = some (v, m') → Ex d fm_X1_lookAhead 39 [(11, l0), (3, 0), (0, l2)] [] m (.inl (3, 0)) m') : ∀ (n : Nat) {l0 l2 : Int} {m : Mem} {v : Int} {m' : Mem}, X1_lookAhead_2 k39 n l0 l2 m = some (v, m') → Ex d fm_X1_lookAhead 2 [(11, l0), (3, 0), (0, l2)] [] m (.inl (3, 0)) m' := by
  intro n
  induction n with
  | zero =>
    intro l0 l2 m v m' h
    have h : (none : Option R2) = some _ := h
    cases h
  | succ n ih =>
    intro l0 l2 m v m' h
    rw [X1_lookAhead_2] at h
    refine x_iload_n dX1_lookAhead_2 rfl rfl (?_ : Ex _ _ 3 _ _ _ _ _)
    refine x_aload_n dX1_lookAhead_3 rfl rfl (Or.inr (by decide)) (?_ : Ex _ _ 4 _ _ _ _ _)
    obtain ⟨c1, h⟩ := chk_some h
    refine gt_1_9 c1 fl_RX1_24 dX1_lookAhead_4 (?_ : Ex _ _ 7 _ _ _ _ _)
    obtain ⟨c2, h⟩ := chk_some h
    refine gt_3_3 c2 fl_RX1_55 dX1_lookAhead_7 (?_ : Ex _ _ 10 _ _ _ _ _)
    rcases ite_some h with ⟨b3, h⟩ | ⟨b3, h⟩
    · refine x_icmp_ge (tgt := 39) dX1_lookAhead_10 rfl b3 (?_ : Ex _ _ 39 _ _ _ _ _)
      exact hk39 h
    · refine x_icmp_geN dX1_lookAhead_10 (by decide) b3 (?_ : Ex _ _ 13 _ _ _ _ _)
      refine x_iload_n dX1_lookAhead_13 rfl rfl (?_ : Ex _ _ 14 _ _ _ _ _)
      refine x_bipush dX1_lookAhead_14 kb_80 (by decide) (?_ : Ex _ _ 16 _ _ _ _ _)
      rcases ite_some h with ⟨b4, h⟩ | ⟨b4, h⟩
      · refine x_icmp_ge (tgt := 39) dX1_lookAhead_16 rfl b4 (?_ : Ex _ _ 39 _ _ _ _ _)
        exact hk39 h
      · refine x_icmp_geN dX1_lookAhead_16 (by decide) b4 (?_ : Ex _ _ 19 _ _ _ _ _)
        refine x_aload_n dX1_lookAhead_19 rfl rfl (Or.inr (by decide)) (?_ : Ex _ _ 20 _ _ _ _ _)
        refine gt_1_9 c1 fl_RX1_24 dX1_lookAhead_20 (?_ : Ex _ _ 23 _ _ _ _ _)
        refine gt_3_0 c2 fl_RX1_58 dX1_lookAhead_23 (?_ : Ex _ _ 26 _ _ _ _ _)
        refine x_iload_n dX1_lookAhead_26 rfl rfl (?_ : Ex _ _ 27 _ _ _ _ _)
        obtain ⟨⟨c5, c6, c7⟩, h⟩ := chk_some h
        refine ld_i_80 c5 c6 c7 dX1_lookAhead_27 (?_ : Ex _ _ 28 _ _ _ _ _)
        refine x_bipush dX1_lookAhead_28 kb_7 (by decide) (?_ : Ex _ _ 30 _ _ _ _ _)
        rcases ite_some h with ⟨b8, h⟩ | ⟨b8, h⟩
        · refine x_icmp_eq (tgt := 39) dX1_lookAhead_30 rfl b8 (?_ : Ex _ _ 39 _ _ _ _ _)
          exact hk39 h
        · refine x_icmp_eqN dX1_lookAhead_30 (by decide) b8 (?_ : Ex _ _ 33 _ _ _ _ _)
          obtain ⟨c9, h⟩ := chk_some h
          refine x_iinc (ls2 := [(11, l0), (3, 0), (0, (l2 + 1))]) dX1_lookAhead_33 rfl c9 rfl (?_ : Ex _ _ 36 _ _ _ _ _)
          refine x_goto (tgt := 2) dX1_lookAhead_36 rfl (?_ : Ex _ _ 2 _ _ _ _ _)
          exact ih h
theorem e_X1_lookAhead_0 (d : Nat) {l0 l1 : Int} {m : Mem} {v : Int} {m' : Mem} (h : X1_lookAhead_0 l0 l1 m = some (v, m')) : Ex d fm_X1_lookAhead 0 [(11, l0), (0, l1), (3, 0)] [] m (.inl (3, 0)) m' := by
  unfold X1_lookAhead_0 at h
  refine x_iload_n dX1_lookAhead_0 rfl rfl (?_ : Ex _ _ 1 _ _ _ _ _)
  refine x_istore_n (ls2 := [(11, l0), (0, l1), (0, l1)]) dX1_lookAhead_1 rfl (Nat.le_of_ble_eq_true rfl) rfl (?_ : Ex _ _ 2 _ _ _ _ _)
  refine Ex.wk (ls2 := [(11, l0), (3, 0), (0, l1)]) ⟨Or.inr rfl, Or.inl rfl, Or.inr rfl, trivial⟩ ?_
  exact e_X1_lookAhead_2 d (fun h => e_X1_lookAhead_39 d h) fuel9 h
theorem e_X1_lookAhead (d : Nat) {a0 a1 : Int} {m : Mem} {v : Int} {m' : Mem} (h : X1_lookAhead a0 a1 m = some (v, m')) : ExM d fm_X1_lookAhead [(11, a0), (0, a1)] m (.inl (3, 0)) m' := by
  exact ExM.of (by decide +kernel) (Nat.le_of_ble_eq_true rfl) (cat9 rfl) retV (e_X1_lookAhead_0 d h)
theorem dX1_begin_0 : decode cX1_begin 0 = .ok (.aload_n 0, 1) := by decide +kernel
theorem dX1_begin_1 : decode cX1_begin 1 = .ok (.aload_n 1, 1) := by decide +kernel
theorem dX1_begin_2 : decode cX1_begin 2 = .ok (.putfield 24, 3) := by decide +kernel
theorem dX1_begin_5 : decode cX1_begin 5 = .ok (.aload_n 0, 1) := by decide +kernel
theorem dX1_begin_6 : decode cX1_begin 6 = .ok (.iconst 0, 1) := by decide +kernel
theorem dX1_begin_7 : decode cX1_begin 7 = .ok (.putfield 28, 3) := by decide +kernel
theorem dX1_begin_10 : decode cX1_begin 10 = .ok (.aload_n 0, 1) := by decide +kernel
theorem dX1_begin_11 : decode cX1_begin 11 = .ok (.iconst 0, 1) := by decide +kernel
theorem dX1_begin_12 : decode cX1_begin 12 = .ok (.putfield 32, 3) := by decide +kernel
theorem dX1_begin_15 : decode cX1_begin 15 = .ok (.aload_n 0, 1) := by decide +kernel
theorem dX1_begin_16 : decode cX1_begin 16 = .ok (.iconst 0, 1) := by decide +kernel
theorem dX1_begin_17 : decode cX1_begin 17 = .ok (.putfield 35, 3) := by decide +kernel
theorem dX1_begin_20 : decode cX1_begin 20 = .ok (.aload_n 0, 1) := by decide +kernel
theorem dX1_begin_21 : decode cX1_begin 21 = .ok (.iconst 0, 1) := by decide +kernel
theorem dX1_begin_22 : decode cX1_begin 22 = .ok (.putfield 38, 3) := by decide +kernel
theorem dX1_begin_25 : decode cX1_begin 25 = .ok (.aload_n 0, 1) := by decide +kernel
theorem dX1_begin_26 : decode cX1_begin 26 = .ok (.iconst 0, 1) := by decide +kernel
theorem dX1_begin_27 : decode cX1_begin 27 = .ok (.putfield 41, 3) := by decide +kernel
theorem dX1_begin_30 : decode cX1_begin 30 = .ok (.aload_n 0, 1) := by decide +kernel
theorem dX1_begin_31 : decode cX1_begin 31 = .ok (.iconst 0, 1) := by decide +kernel
theorem dX1_begin_32 : decode cX1_begin 32 = .ok (.invokevirtual 45, 3) := by decide +kernel
theorem dX1_begin_35 : decode cX1_begin 35 = .ok (.return_, 1) := by decide +kernel
theorem e_X1_begin_0 (d : Nat) {l0 l1 : Int} {m : Mem} {v : Int} {m' : Mem} (h : X1_begin_0 l0 l1 m = some (v, m')) : Ex (d + 1) fm_X1_begin 0 [(11, l0), (13, l1)] [] m (.inl (3, 0)) m' := by
  unfold X1_begin_0 at h
  refine x_aload_n dX1_begin_0 rfl rfl (Or.inr (by decide)) (?_ : Ex _ _ 1 _ _ _ _ _)
  refine x_aload_n dX1_begin_1 rfl rfl (Or.inr (by decide)) (?_ : Ex _ _ 2 _ _ _ _ _)
  obtain ⟨c1, h⟩ := chk_some h
  obtain ⟨m2, hm2, h⟩ := st_some h
  refine pt_1_9  c1 fl_RX1_24 dX1_begin_2 (?_ : Ex _ _ 5 _ _ _ _ _)
  rw [← hm2]
  refine x_aload_n dX1_begin_5 rfl rfl (Or.inr (by decide)) (?_ : Ex _ _ 6 _ _ _ _ _)
  refine x_iconst dX1_begin_6 rfl (by decide) (?_ : Ex _ _ 7 _ _ _ _ _)
  obtain ⟨m3, hm3, h⟩ := st_some h
  refine pt_1_3  c1 fl_RX1_28 dX1_begin_7 (?_ : Ex _ _ 10 _ _ _ _ _)
  rw [← hm3]
  refine x_aload_n dX1_begin_10 rfl rfl (Or.inr (by decide)) (?_ : Ex _ _ 11 _ _ _ _ _)
  refine x_iconst dX1_begin_11 rfl (by decide) (?_ : Ex _ _ 12 _ _ _ _ _)
  obtain ⟨m4, hm4, h⟩ := st_some h
  refine pt_1_4  c1 fl_RX1_32 dX1_begin_12 (?_ : Ex _ _ 15 _ _ _ _ _)
  rw [← hm4]
  refine x_aload_n dX1_begin_15 rfl rfl (Or.inr (by decide)) (?_ : Ex _ _ 16 _ _ _ _ _)
  refine x_iconst dX1_begin_16 rfl (by decide) (?_ : Ex _ _ 17 _ _ _ _ _)
  obtain ⟨m5, hm5, h⟩ := st_some h
  refine pt_1_5  c1 fl_RX1_35 dX1_begin_17 (?_ : Ex _ _ 20 _ _ _ _ _)
  rw [← hm5]
  refine x_aload_n dX1_begin_20 rfl rfl (Or.inr (by decide)) (?_ : Ex _ _ 21 _ _ _ _ _)
  refine x_iconst dX1_begin_21 rfl (by decide) (?_ : Ex _ _ 22 _ _ _ _ _)
  obtain ⟨m6, hm6, h⟩ := st_some h
  refine pt_1_6  c1 fl_RX1_38 dX1_begin_22 (?_ : Ex _ _ 25 _ _ _ _ _)
  rw [← hm6]
  refine x_aload_n dX1_begin_25 rfl rfl (Or.inr (by decide)) (?_ : Ex _ _ 26 _ _ _ _ _)
  refine x_iconst dX1_begin_26 rfl (by decide) (?_ : Ex _ _ 27 _ _ _ _ _)
  obtain ⟨m7, hm7, h⟩ := st_some h
  refine pt_1_8  c1 (by decide) fl_RX1_41 dX1_begin_27 (?_ : Ex _ _ 30 _ _ _ _ _)
  rw [← hm7]
  refine x_aload_n dX1_begin_30 rfl rfl (Or.inr (by decide)) (?_ : Ex _ _ 31 _ _ _ _ _)
  refine x_iconst dX1_begin_31 rfl (by decide) (?_ : Ex _ _ 32 _ _ _ _ _)
  obtain ⟨v8, m9, g10, h⟩ := cal_some h
  refine cV1 (e_X1_lookAhead d g10) (contV (?_ : Ex _ _ 35 _ _ _ _ _)) og_X1_lookAhead rfl ml_RX1_45 1 rfl rfl c1 im_X1_lookAhead se_X1_lookAhead (Nat.le_of_ble_eq_true rfl) dX1_begin_32
  cases h
  exact x_retv dX1_begin_35
theorem e_X1_begin (d : Nat) {a0 a1 : Int} {m : Mem} {v : Int} {m' : Mem} (h : X1_begin a0 a1 m = some (v, m')) : ExM (d + 1) fm_X1_begin [(11, a0), (13, a1)] m (.inl (3, 0)) m' := by
  exact ExM.of (by decide +kernel) (Nat.le_of_ble_eq_true rfl) (cat9 rfl) retV (e_X1_begin_0 d h)
theorem dX1_closePart_0 : decode cX1_closePart 0 = .ok (.aload_n 0, 1) := by decide +kernel
theorem dX1_closePart_1 : decode cX1_closePart 1 = .ok (.getfield 49, 3) := by decide +kernel
theorem dX1_closePart_4 : decode cX1_closePart 4 = .ok (.aload_n 0, 1) := by decide +kernel
theorem dX1_closePart_5 : decode cX1_closePart 5 = .ok (.getfield 52, 3) := by decide +kernel
theorem dX1_closePart_8 : decode cX1_closePart 8 = .ok (.if_icmp .eq 8, 3) := by decide +kernel
theorem dX1_closePart_11 : decode cX1_closePart 11 = .ok (.aload_n 0, 1) := by decide +kernel
theorem dX1_closePart_12 : decode cX1_closePart 12 = .ok (.iconst 1, 1) := by decide +kernel
theorem dX1_closePart_13 : decode cX1_closePart 13 = .ok (.putfield 41, 3) := by decide +kernel
theorem dX1_closePart_16 : decode cX1_closePart 16 = .ok (.aload_n 0, 1) := by decide +kernel
theorem dX1_closePart_17 : decode cX1_closePart 17 = .ok (.aload_n 0, 1) := by decide +kernel
theorem dX1_closePart_18 : decode cX1_closePart 18 = .ok (.getfield 52, 3) := by decide +kernel
theorem dX1_closePart_21 : decode cX1_closePart 21 = .ok (.invokevirtual 45, 3) := by decide +kernel
theorem dX1_closePart_24 : decode cX1_closePart 24 = .ok (.return_, 1) := by decide +kernel
theorem e_X1_closePart_16 (d : Nat) {l0 : Int} {m : Mem} {v : Int} {m' : Mem} (h : X1_closePart_16 l0 m = some (v, m')) : Ex (d + 1) fm_X1_closePart 16 [(11, l0)] [] m (.inl (3, 0)) m' := by
  unfold X1_closePart_16 at h
  refine x_aload_n dX1_closePart_16 rfl rfl (Or.inr (by decide)) (?_ : Ex _ _ 17 _ _ _ _ _)
  refine x_aload_n dX1_closePart_17 rfl rfl (Or.inr (by decide)) (?_ : Ex _ _ 18 _ _ _ _ _)
  obtain ⟨c1, h⟩ := chk_some h
  refine gt_1_11 c1 fl_RX1_52 dX1_closePart_18 (?_ : Ex _ _ 21 _ _ _ _ _)
  obtain ⟨v2, m3, g4, h⟩ := cal_some h
  refine cV1 (e_X1_lookAhead d g4) (contV (?_ : Ex _ _ 24 _ _ _ _ _)) og_X1_lookAhead rfl ml_RX1_45 1 rfl rfl c1 im_X1_lookAhead se_X1_lookAhead (Nat.le_of_ble_eq_true rfl) dX1_closePart_21
  cases h
  exact x_retv dX1_closePart_24
theorem e_X1_closePart_0 (d : Nat) {l0 : Int} {m : Mem} {v : Int} {m' : Mem} (h : X1_closePart_0 l0 m = some (v, m')) : Ex (d + 1) fm_X1_closePart 0 [(11, l0)] [] m (.inl (3, 0)) m' := by
  unfold X1_closePart_0 at h
  refine x_aload_n dX1_closePart_0 rfl rfl (Or.inr (by decide)) (?_ : Ex _ _ 1 _ _ _ _ _)
  obtain ⟨c1, h⟩ := chk_some h
  refine gt_1_10 c1 fl_RX1_49 dX1_closePart_1 (?_ : Ex _ _ 4 _ _ _ _ _)
  refine x_aload_n dX1_closePart_4 rfl rfl (Or.inr (by decide)) (?_ : Ex _ _ 5 _ _ _ _ _)
  refine gt_1_11 c1 fl_RX1_52 dX1_closePart_5 (?_ : Ex _ _ 8 _ _ _ _ _)
  rcases ite_some h with ⟨b2, h⟩ | ⟨b2, h⟩
  · refine x_icmp_eq (tgt := 16) dX1_closePart_8 rfl b2 (?_ : Ex _ _ 16 _ _ _ _ _)
    exact e_X1_closePart_16 d h
  · refine x_icmp_eqN dX1_closePart_8 (by decide) b2 (?_ : Ex _ _ 11 _ _ _ _ _)
    refine x_aload_n dX1_closePart_11 rfl rfl (Or.inr (by decide)) (?_ : Ex _ _ 12 _ _ _ _ _)
    refine x_iconst dX1_closePart_12 rfl (by decide) (?_ : Ex _ _ 13 _ _ _ _ _)
    obtain ⟨m3, hm3, h⟩ := st_some h
    refine pt_1_8  c1 (by decide) fl_RX1_41 dX1_closePart_13 (?_ : Ex _ _ 16 _ _ _ _ _)
    rw [← hm3]
    exact e_X1_closePart_16 d h
theorem e_X1_closePart (d : Nat) {a0 : Int} {m : Mem} {v : Int} {m' : Mem} (h : X1_closePart a0 m = some (v, m')) : ExM (d + 1) fm_X1_closePart [(11, a0)] m (.inl (3, 0)) m' := by
  exact ExM.of (by decide +kernel) (Nat.le_of_ble_eq_true rfl) (cat9 rfl) retV (e_X1_closePart_0 d h)
theorem dX1_isNextAgain_0 : decode cX1_isNextAgain 0 = .ok (.aload_n 0, 1) := by decide +kernel
theorem dX1_isNextAgain_1 : decode cX1_isNextAgain 1 = .ok (.getfield 59, 3) := by decide +kernel
theorem dX1_isNextAgain_4 : decode cX1_isNextAgain 4 = .ok (.ifCond .eq 59, 3) := by decide +kernel
theorem dX1_isNextAgain_7 : decode cX1_isNextAgain 7 = .ok (.aload_n 0, 1) := by decide +kernel
theorem dX1_isNextAgain_8 : decode cX1_isNextAgain 8 = .ok (.getfield 49, 3) := by decide +kernel
theorem dX1_isNextAgain_11 : decode cX1_isNextAgain 11 = .ok (.aload_n 0, 1) := by decide +kernel
theorem dX1_isNextAgain_12 : decode cX1_isNextAgain 12 = .ok (.getfield 52, 3) := by decide +kernel
theorem dX1_isNextAgain_15 : decode cX1_isNextAgain 15 = .ok (.if_icmp .ge 48, 3) := by decide +kernel
theorem dX1_isNextAgain_18 : decode cX1_isNextAgain 18 = .ok (.aload_n 0, 1) := by decide +kernel
theorem dX1_isNextAgain_19 : decode cX1_isNextAgain 19 = .ok (.getfield 49, 3) := by decide +kernel
theorem dX1_isNextAgain_22 : decode cX1_isNextAgain 22 = .ok (.bipush 80, 2) := by decide +kernel
theorem dX1_isNextAgain_24 : decode cX1_isNextAgain 24 = .ok (.if_icmp .ge 39, 3) := by decide +kernel
theorem dX1_isNextAgain_27 : decode cX1_isNextAgain 27 = .ok (.aload_n 0, 1) := by decide +kernel
theorem dX1_isNextAgain_28 : decode cX1_isNextAgain 28 = .ok (.getfield 24, 3) := by decide +kernel
theorem dX1_isNextAgain_31 : decode cX1_isNextAgain 31 = .ok (.getfield 58, 3) := by decide +kernel
theorem dX1_isNextAgain_34 : decode cX1_isNextAgain 34 = .ok (.aload_n 0, 1) := by decide +kernel
theorem dX1_isNextAgain_35 : decode cX1_isNextAgain 35 = .ok (.getfield 49, 3) := by decide +kernel
theorem dX1_isNextAgain_38 : decode cX1_isNextAgain 38 = .ok (.iaload, 1) := by decide +kernel
theorem dX1_isNextAgain_39 : decode cX1_isNextAgain 39 = .ok (.iload_n 1, 1) := by decide +kernel
theorem dX1_isNextAgain_40 : decode cX1_isNextAgain 40 = .ok (.if_icmp .ne 23, 3) := by decide +kernel
theorem dX1_isNextAgain_43 : decode cX1_isNextAgain 43 = .ok (.aload_n 0, 1) := by decide +kernel
theorem dX1_isNextAgain_44 : decode cX1_isNextAgain 44 = .ok (.getfield 24, 3) := by decide +kernel
theorem dX1_isNextAgain_47 : decode cX1_isNextAgain 47 = .ok (.getfield 62, 3) := by decide +kernel
theorem dX1_isNextAgain_50 : decode cX1_isNextAgain 50 = .ok (.aload_n 0, 1) := by decide +kernel
theorem dX1_isNextAgain_51 : decode cX1_isNextAgain 51 = .ok (.getfield 49, 3) := by decide +kernel
theorem dX1_isNextAgain_54 : decode cX1_isNextAgain 54 = .ok (.iaload, 1) := by decide +kernel
theorem dX1_isNextAgain_55 : decode cX1_isNextAgain 55 = .ok (.iload_n 2, 1) := by decide +kernel
theorem dX1_isNextAgain_56 : decode cX1_isNextAgain 56 = .ok (.if_icmp .ne 7, 3) := by decide +kernel
theorem dX1_isNextAgain_59 : decode cX1_isNextAgain 59 = .ok (.iconst 1, 1) := by decide +kernel
theorem dX1_isNextAgain_60 : decode cX1_isNextAgain 60 = .ok (.goto 4, 3) := by decide +kernel
theorem dX1_isNextAgain_63 : decode cX1_isNextAgain 63 = .ok (.iconst 0, 1) := by decide +kernel
theorem dX1_isNextAgain_64 : decode cX1_isNextAgain 64 = .ok (.ireturn, 1) := by decide +kernel
theorem e_X1_isNextAgain_0 (d : Nat) {l0 l1 l2 : Int} {m : Mem} {v : Int} {m' : Mem} (h : X1_isNextAgain_0 l0 l1 l2 m = some (v, m')) : Ex d fm_X1_isNextAgain 0 [(11, l0), (0, l1), (0, l2)] [] m (.inl (0, v)) m' := by
  unfold X1_isNextAgain_0 at h
  refine x_aload_n dX1_isNextAgain_0 rfl rfl (Or.inr (by decide)) (?_ : Ex _ _ 1 _ _ _ _ _)
  obtain ⟨c1, h⟩ := chk_some h
  refine gt_1_7 c1 fl_RX1_59 dX1_isNextAgain_1 (?_ : Ex _ _ 4 _ _ _ _ _)
  rcases ite_some h with ⟨b2, h⟩ | ⟨b2, h⟩
  · refine x_if_eq (tgt := 63) dX1_isNextAgain_4 rfl b2 (?_ : Ex _ _ 63 _ _ _ _ _)
    refine x_iconst dX1_isNextAgain_63 rfl (by decide) (?_ : Ex _ _ 64 _ _ _ _ _)
    cases h
    exact x_ret dX1_isNextAgain_64 (by decide : (0 : Int) ≠ 3)
  · refine x_if_eqN dX1_isNextAgain_4 (by decide) b2 (?_ : Ex _ _ 7 _ _ _ _ _)
    refine x_aload_n dX1_isNextAgain_7 rfl rfl (Or.inr (by decide)) (?_ : Ex _ _ 8 _ _ _ _ _)
    refine gt_1_10 c1 fl_RX1_49 dX1_isNextAgain_8 (?_ : Ex _ _ 11 _ _ _ _ _)
    refine x_aload_n dX1_isNextAgain_11 rfl rfl (Or.inr (by decide)) (?_ : Ex _ _ 12 _ _ _ _ _)
    refine gt_1_11 c1 fl_RX1_52 dX1_isNextAgain_12 (?_ : Ex _ _ 15 _ _ _ _ _)
    rcases ite_some h with ⟨b3, h⟩ | ⟨b3, h⟩
    · refine x_icmp_ge (tgt := 63) dX1_isNextAgain_15 rfl b3 (?_ : Ex _ _ 63 _ _ _ _ _)
      refine x_iconst dX1_isNextAgain_63 rfl (by decide) (?_ : Ex _ _ 64 _ _ _ _ _)
      cases h
      exact x_ret dX1_isNextAgain_64 (by decide : (0 : Int) ≠ 3)
    · refine x_icmp_geN dX1_isNextAgain_15 (by decide) b3 (?_ : Ex _ _ 18 _ _ _ _ _)
      refine x_aload_n dX1_isNextAgain_18 rfl rfl (Or.inr (by decide)) (?_ : Ex _ _ 19 _ _ _ _ _)
      refine gt_1_10 c1 fl_RX1_49 dX1_isNextAgain_19 (?_ : Ex _ _ 22 _ _ _ _ _)
      refine x_bipush dX1_isNextAgain_22 kb_80 (by decide) (?_ : Ex _ _ 24 _ _ _ _ _)
      rcases ite_some h with ⟨b4, h⟩ | ⟨b4, h⟩
      · refine x_icmp_ge (tgt := 63) dX1_isNextAgain_24 rfl b4 (?_ : Ex _ _ 63 _ _ _ _ _)
        refine x_iconst dX1_isNextAgain_63 rfl (by decide) (?_ : Ex _ _ 64 _ _ _ _ _)
        cases h
        exact x_ret dX1_isNextAgain_64 (by decide : (0 : Int) ≠ 3)
      · refine x_icmp_geN dX1_isNextAgain_24 (by decide) b4 (?_ : Ex _ _ 27 _ _ _ _ _)
        refine x_aload_n dX1_isNextAgain_27 rfl rfl (Or.inr (by decide)) (?_ : Ex _ _ 28 _ _ _ _ _)
        refine gt_1_9 c1 fl_RX1_24 dX1_isNextAgain_28 (?_ : Ex _ _ 31 _ _ _ _ _)
        obtain ⟨c5, h⟩ := chk_some h
        refine gt_3_0 c5 fl_RX1_58 dX1_isNextAgain_31 (?_ : Ex _ _ 34 _ _ _ _ _)
        refine x_aload_n dX1_isNextAgain_34 rfl rfl (Or.inr (by decide)) (?_ : Ex _ _ 35 _ _ _ _ _)
        refine gt_1_10 c1 fl_RX1_49 dX1_isNextAgain_35 (?_ : Ex _ _ 38 _ _ _ _ _)
        obtain ⟨⟨c6, c7, c8⟩, h⟩ := chk_some h
        refine ld_i_80 c6 c7 c8 dX1_isNextAgain_38 (?_ : Ex _ _ 39 _ _ _ _ _)
        refine x_iload_n dX1_isNextAgain_39 rfl rfl (?_ : Ex _ _ 40 _ _ _ _ _)
        rcases ite_some h with ⟨b9, h⟩ | ⟨b9, h⟩
        · refine x_icmp_neN dX1_isNextAgain_40 (by decide) (fun hh => hh b9) (?_ : Ex _ _ 43 _ _ _ _ _)
          refine x_aload_n dX1_isNextAgain_43 rfl rfl (Or.inr (by decide)) (?_ : Ex _ _ 44 _ _ _ _ _)
          refine gt_1_9 c1 fl_RX1_24 dX1_isNextAgain_44 (?_ : Ex _ _ 47 _ _ _ _ _)
          refine gt_3_1 c5 fl_RX1_62 dX1_isNextAgain_47 (?_ : Ex _ _ 50 _ _ _ _ _)
          refine x_aload_n dX1_isNextAgain_50 rfl rfl (Or.inr (by decide)) (?_ : Ex _ _ 51 _ _ _ _ _)
          refine gt_1_10 c1 fl_RX1_49 dX1_isNextAgain_51 (?_ : Ex _ _ 54 _ _ _ _ _)
          obtain ⟨⟨c10, c11, c12⟩, h⟩ := chk_some h
          refine ld_i_80 c10 c11 c12 dX1_isNextAgain_54 (?_ : Ex _ _ 55 _ _ _ _ _)
          refine x_iload_n dX1_isNextAgain_55 rfl rfl (?_ : Ex _ _ 56 _ _ _ _ _)
          rcases ite_some h with ⟨b13, h⟩ | ⟨b13, h⟩
          · refine x_icmp_neN dX1_isNextAgain_56 (by decide) (fun hh => hh b13) (?_ : Ex _ _ 59 _ _ _ _ _)
            refine x_iconst dX1_isNextAgain_59 rfl (by decide) (?_ : Ex _ _ 60 _ _ _ _ _)
            refine x_goto (tgt := 64) dX1_isNextAgain_60 rfl (?_ : Ex _ _ 64 _ _ _ _ _)
            cases h
            exact x_ret dX1_isNextAgain_64 (by decide : (0 : Int) ≠ 3)
          · refine x_icmp_ne (tgt := 63) dX1_isNextAgain_56 rfl b13 (?_ : Ex _ _ 63 _ _ _ _ _)
            refine x_iconst dX1_isNextAgain_63 rfl (by decide) (?_ : Ex _ _ 64 _ _ _ _ _)
            cases h
            exact x_ret dX1_isNextAgain_64 (by decide : (0 : Int) ≠ 3)
        · refine x_icmp_ne (tgt := 63) dX1_isNextAgain_40 rfl b9 (?_ : Ex _ _ 63 _ _ _ _ _)
          refine x_iconst dX1_isNextAgain_63 rfl (by decide) (?_ : Ex _ _ 64 _ _ _ _ _)
          cases h
          exact x_ret dX1_isNextAgain_64 (by decide : (0 : Int) ≠ 3)
theorem e_X1_isNextAgain (d : Nat) {a0 a1 a2 : Int} {m : Mem} {v : Int} {m' : Mem} (h : X1_isNextAgain a0 a1 a2 m = some (v, m')) : ExM d fm_X1_isNextAgain [(11, a0), (0, a1), (0, a2)] m (.inl (0, v)) m' := by
  obtain ⟨hb, h⟩ := boolR_some h
  exact ExM.of (by decide +kernel) (Nat.le_of_ble_eq_true rfl) (cat9 rfl) (retZ hb) (e_X1_isNextAgain_0 d h)
theorem dX1_put_0 : decode cX1_put 0 = .ok (.aload_n 0, 1) := by decide +kernel
theorem dX1_put_1 : decode cX1_put 1 = .ok (.dup, 1) := by decide +kernel
theorem dX1_put_2 : decode cX1_put 2 = .ok (.getfield 32, 3) := by decide +kernel
theorem dX1_put_5 : decode cX1_put 5 = .ok (.iload_n 1, 1) := by decide +kernel
theorem dX1_put_6 : decode cX1_put 6 = .ok (.bipush 8, 2) := by decide +kernel
theorem dX1_put_8 : decode cX1_put 8 = .ok (.if_icmp .eq 9, 3) := by decide +kernel
theorem dX1_put_11 : decode cX1_put 11 = .ok (.iload_n 1, 1) := by decide +kernel
theorem dX1_put_12 : decode cX1_put 12 = .ok (.bipush 15, 2) := by decide +kernel
theorem dX1_put_14 : decode cX1_put 14 = .ok (.if_icmp .ne 7, 3) := by decide +kernel
theorem dX1_put_17 : decode cX1_put 17 = .ok (.iconst 1, 1) := by decide +kernel
theorem dX1_put_18 : decode cX1_put 18 = .ok (.goto 4, 3) := by decide +kernel
theorem dX1_put_21 : decode cX1_put 21 = .ok (.iconst 0, 1) := by decide +kernel
theorem dX1_put_22 : decode cX1_put 22 = .ok (.iadd, 1) := by decide +kernel
theorem dX1_put_23 : decode cX1_put 23 = .ok (.putfield 32, 3) := by decide +kernel
theorem dX1_put_26 : decode cX1_put 26 = .ok (.aload_n 0, 1) := by decide +kernel
theorem dX1_put_27 : decode cX1_put 27 = .ok (.dup, 1) := by decide +kernel
theorem dX1_put_28 : decode cX1_put 28 = .ok (.getfield 35, 3) := by decide +kernel
theorem dX1_put_31 : decode cX1_put 31 = .ok (.iload_n 1, 1) := by decide +kernel
theorem dX1_put_32 : decode cX1_put 32 = .ok (.bipush 10, 2) := by decide +kernel
theorem dX1_put_34 : decode cX1_put 34 = .ok (.if_icmp .ne 7, 3) := by decide +kernel
theorem dX1_put_37 : decode cX1_put 37 = .ok (.iconst 1, 1) := by decide +kernel
theorem dX1_put_38 : decode cX1_put 38 = .ok (.goto 4, 3) := by decide +kernel
theorem dX1_put_41 : decode cX1_put 41 = .ok (.iconst 0, 1) := by decide +kernel
theorem dX1_put_42 : decode cX1_put 42 = .ok (.iadd, 1) := by decide +kernel
theorem dX1_put_43 : decode cX1_put 43 = .ok (.putfield 35, 3) := by decide +kernel
theorem dX1_put_46 : decode cX1_put 46 = .ok (.aload_n 0, 1) := by decide +kernel
theorem dX1_put_47 : decode cX1_put 47 = .ok (.dup, 1) := by decide +kernel
theorem dX1_put_48 : decode cX1_put 48 = .ok (.getfield 38, 3) := by decide +kernel
theorem dX1_put_51 : decode cX1_put 51 = .ok (.iload_n 1, 1) := by decide +kernel
theorem dX1_put_52 : decode cX1_put 52 = .ok (.bipush 12, 2) := by decide +kernel
theorem dX1_put_54 : decode cX1_put 54 = .ok (.if_icmp .ne 7, 3) := by decide +kernel
theorem dX1_put_57 : decode cX1_put 57 = .ok (.iconst 1, 1) := by decide +kernel
theorem dX1_put_58 : decode cX1_put 58 = .ok (.goto 4, 3) := by decide +kernel
theorem dX1_put_61 : decode cX1_put 61 = .ok (.iconst 0, 1) := by decide +kernel
theorem dX1_put_62 : decode cX1_put 62 = .ok (.iadd, 1) := by decide +kernel
theorem dX1_put_63 : decode cX1_put 63 = .ok (.putfield 38, 3) := by decide +kernel
theorem dX1_put_66 : decode cX1_put 66 = .ok (.aload_n 0, 1) := by decide +kernel
theorem dX1_put_67 : decode cX1_put 67 = .ok (.getfield 59, 3) := by decide +kernel
theorem dX1_put_70 : decode cX1_put 70 = .ok (.ifCond .ne 55, 3) := by decide +kernel
theorem dX1_put_73 : decode cX1_put 73 = .ok (.aload_n 0, 1) := by decide +kernel
theorem dX1_put_74 : decode cX1_put 74 = .ok (.getfield 28, 3) := by decide +kernel
theorem dX1_put_77 : decode cX1_put 77 = .ok (.bipush 80, 2) := by decide +kernel
theorem dX1_put_79 : decode cX1_put 79 = .ok (.if_icmp .ge 33, 3) := by decide +kernel
theorem dX1_put_82 : decode cX1_put 82 = .ok (.aload_n 0, 1) := by decide +kernel
theorem dX1_put_83 : decode cX1_put 83 = .ok (.getfield 9, 3) := by decide +kernel
theorem dX1_put_86 : decode cX1_put 86 = .ok (.aload_n 0, 1) := by decide +kernel
theorem dX1_put_87 : decode cX1_put 87 = .ok (.getfield 28, 3) := by decide +kernel
theorem dX1_put_90 : decode cX1_put 90 = .ok (.iload_n 1, 1) := by decide +kernel
theorem dX1_put_91 : decode cX1_put 91 = .ok (.iastore, 1) := by decide +kernel
theorem dX1_put_92 : decode cX1_put 92 = .ok (.aload_n 0, 1) := by decide +kernel
theorem dX1_put_93 : decode cX1_put 93 = .ok (.getfield 15, 3) := by decide +kernel
theorem dX1_put_96 : decode cX1_put 96 = .ok (.aload_n 0, 1) := by decide +kernel
theorem dX1_put_97 : decode cX1_put 97 = .ok (.getfield 28, 3) := by decide +kernel
theorem dX1_put_100 : decode cX1_put 100 = .ok (.iload_n 2, 1) := by decide +kernel
theorem dX1_put_101 : decode cX1_put 101 = .ok (.iastore, 1) := by decide +kernel
theorem dX1_put_102 : decode cX1_put 102 = .ok (.aload_n 0, 1) := by decide +kernel
theorem dX1_put_103 : decode cX1_put 103 = .ok (.getfield 18, 3) := by decide +kernel
theorem dX1_put_106 : decode cX1_put 106 = .ok (.aload_n 0, 1) := by decide +kernel
theorem dX1_put_107 : decode cX1_put 107 = .ok (.getfield 28, 3) := by decide +kernel
theorem dX1_put_110 : decode cX1_put 110 = .ok (.iload_n 3, 1) := by decide +kernel
theorem dX1_put_111 : decode cX1_put 111 = .ok (.iastore, 1) := by decide +kernel
theorem dX1_put_112 : decode cX1_put 112 = .ok (.aload_n 0, 1) := by decide +kernel
theorem dX1_put_113 : decode cX1_put 113 = .ok (.dup, 1) := by decide +kernel
theorem dX1_put_114 : decode cX1_put 114 = .ok (.getfield 28, 3) := by decide +kernel
theorem dX1_put_117 : decode cX1_put 117 = .ok (.iconst 1, 1) := by decide +kernel
theorem dX1_put_118 : decode cX1_put 118 = .ok (.iadd, 1) := by decide +kernel
theorem dX1_put_119 : decode cX1_put 119 = .ok (.putfield 28, 3) := by decide +kernel
theorem dX1_put_122 : decode cX1_put 122 = .ok (.goto 89, 3) := by decide +kernel
theorem dX1_put_125 : decode cX1_put 125 = .ok (.aload_n 0, 1) := by decide +kernel
theorem dX1_put_126 : decode cX1_put 126 = .ok (.getfield 49, 3) := by decide +kernel
theorem dX1_put_129 : decode cX1_put 129 = .ok (.aload_n 0, 1) := by decide +kernel
theorem dX1_put_130 : decode cX1_put 130 = .ok (.getfield 52, 3) := by decide +kernel
theorem dX1_put_133 : decode cX1_put 133 = .ok (.if_icmp .ge 73, 3) := by decide +kernel
theorem dX1_put_136 : decode cX1_put 136 = .ok (.aload_n 0, 1) := by decide +kernel
theorem dX1_put_137 : decode cX1_put 137 = .ok (.getfield 49, 3) := by decide +kernel
theorem dX1_put_140 : decode cX1_put 140 = .ok (.bipush 80, 2) := by decide +kernel
theorem dX1_put_142 : decode cX1_put 142 = .ok (.if_icmp .ge 64, 3) := by decide +kernel
theorem dX1_put_145 : decode cX1_put 145 = .ok (.aload_n 0, 1) := by decide +kernel
theorem dX1_put_146 : decode cX1_put 146 = .ok (.getfield 24, 3) := by decide +kernel
theorem dX1_put_149 : decode cX1_put 149 = .ok (.getfield 58, 3) := by decide +kernel
theorem dX1_put_152 : decode cX1_put 152 = .ok (.aload_n 0, 1) := by decide +kernel
theorem dX1_put_153 : decode cX1_put 153 = .ok (.getfield 49, 3) := by decide +kernel
theorem dX1_put_156 : decode cX1_put 156 = .ok (.iaload, 1) := by decide +kernel
theorem dX1_put_157 : decode cX1_put 157 = .ok (.iload_n 1, 1) := by decide +kernel
theorem dX1_put_158 : decode cX1_put 158 = .ok (.if_icmp .ne 48, 3) := by decide +kernel
theorem dX1_put_161 : decode cX1_put 161 = .ok (.aload_n 0, 1) := by decide +kernel
theorem dX1_put_162 : decode cX1_put 162 = .ok (.getfield 24, 3) := by decide +kernel
theorem dX1_put_165 : decode cX1_put 165 = .ok (.getfield 62, 3) := by decide +kernel
theorem dX1_put_168 : decode cX1_put 168 = .ok (.aload_n 0, 1) := by decide +kernel
theorem dX1_put_169 : decode cX1_put 169 = .ok (.getfield 49, 3) := by decide +kernel
theorem dX1_put_172 : decode cX1_put 172 = .ok (.iaload, 1) := by decide +kernel
theorem dX1_put_173 : decode cX1_put 173 = .ok (.iload_n 2, 1) := by decide +kernel
theorem dX1_put_174 : decode cX1_put 174 = .ok (.if_icmp .ne 32, 3) := by decide +kernel
theorem dX1_put_177 : decode cX1_put 177 = .ok (.aload_n 0, 1) := by decide +kernel
theorem dX1_put_178 : decode cX1_put 178 = .ok (.getfield 24, 3) := by decide +kernel
theorem dX1_put_181 : decode cX1_put 181 = .ok (.getfield 63, 3) := by decide +kernel
theorem dX1_put_184 : decode cX1_put 184 = .ok (.aload_n 0, 1) := by decide +kernel
theorem dX1_put_185 : decode cX1_put 185 = .ok (.getfield 49, 3) := by decide +kernel
theorem dX1_put_188 : decode cX1_put 188 = .ok (.iaload, 1) := by decide +kernel
theorem dX1_put_189 : decode cX1_put 189 = .ok (.iload_n 3, 1) := by decide +kernel
theorem dX1_put_190 : decode cX1_put 190 = .ok (.if_icmp .ne 16, 3) := by decide +kernel
theorem dX1_put_193 : decode cX1_put 193 = .ok (.aload_n 0, 1) := by decide +kernel
theorem dX1_put_194 : decode cX1_put 194 = .ok (.dup, 1) := by decide +kernel
theorem dX1_put_195 : decode cX1_put 195 = .ok (.getfield 49, 3) := by decide +kernel
theorem dX1_put_198 : decode cX1_put 198 = .ok (.iconst 1, 1) := by decide +kernel
theorem dX1_put_199 : decode cX1_put 199 = .ok (.iadd, 1) := by decide +kernel
theorem dX1_put_200 : decode cX1_put 200 = .ok (.putfield 49, 3) := by decide +kernel
theorem dX1_put_203 : decode cX1_put 203 = .ok (.goto 8, 3) := by decide +kernel
theorem dX1_put_206 : decode cX1_put 206 = .ok (.aload_n 0, 1) := by decide +kernel
theorem dX1_put_207 : decode cX1_put 207 = .ok (.iconst 1, 1) := by decide +kernel
theorem dX1_put_208 : decode cX1_put 208 = .ok (.putfield 41, 3) := by decide +kernel
theorem dX1_put_211 : decode cX1_put 211 = .ok (.return_, 1) := by decide +kernel
theorem e_X1_put_112 (d : Nat) {l0 : Int} {m : Mem} {v : Int} {m' : Mem} (h : X1_put_112 l0 m = some (v, m')) : Ex d fm_X1_put 112 [(11, l0), (3, 0), (3, 0), (3, 0)] [] m (.inl (3, 0)) m' := by
  unfold X1_put_112 at h
  refine x_aload_n dX1_put_112 rfl rfl (Or.inr (by decide)) (?_ : Ex _ _ 113 _ _ _ _ _)
  refine x_dup (by decide : (11 : Int) ≠ 2) dX1_put_113 (?_ : Ex _ _ 114 _ _ _ _ _)
  obtain ⟨c1, h⟩ := chk_some h
  refine gt_1_3 c1 fl_RX1_28 dX1_put_114 (?_ : Ex _ _ 117 _ _ _ _ _)
  refine x_iconst dX1_put_117 rfl (by decide) (?_ : Ex _ _ 118 _ _ _ _ _)
  obtain ⟨c2, h⟩ := chk_some h
  refine x_iadd dX1_put_118 c2 (?_ : Ex _ _ 119 _ _ _ _ _)
  obtain ⟨m3, hm3, h⟩ := st_some h
  refine pt_1_3  c1 fl_RX1_28 dX1_put_119 (?_ : Ex _ _ 122 _ _ _ _ _)
  rw [← hm3]
  refine x_goto (tgt := 211) dX1_put_122 rfl (?_ : Ex _ _ 211 _ _ _ _ _)
  cases h
  exact x_retv dX1_put_211
theorem e_X1_put_62 (d : Nat) {l0 l1 l2 l3 s0 s1 s2 : Int} {m : Mem} {v : Int} {m' : Mem} (h : X1_put_62 l0 l1 l2 l3 s0 s1 s2 m = some (v, m')) : Ex d fm_X1_put 62 [(11, l0), (0, l1), (0, l2), (0, l3)] [(0, s0), (0, s1), (11, s2)] m (.inl (3, 0)) m' := by
  unfold X1_put_62 at h
  obtain ⟨c1, h⟩ := chk_some h
  refine x_iadd dX1_put_62 c1 (?_ : Ex _ _ 63 _ _ _ _ _)
  obtain ⟨c2, h⟩ := chk_some h
  obtain ⟨m3, hm3, h⟩ := st_some h
  refine pt_1_6  c2 fl_RX1_38 dX1_put_63 (?_ : Ex _ _ 66 _ _ _ _ _)
  rw [← hm3]
  refine x_aload_n dX1_put_66 rfl rfl (Or.inr (by decide)) (?_ : Ex _ _ 67 _ _ _ _ _)
  obtain ⟨c4, h⟩ := chk_some h
  refine gt_1_7 c4 fl_RX1_59 dX1_put_67 (?_ : Ex _ _ 70 _ _ _ _ _)
  rcases ite_some h with ⟨b5, h⟩ | ⟨b5, h⟩
  · refine x_if_neN dX1_put_70 (by decide) (fun hh => hh b5) (?_ : Ex _ _ 73 _ _ _ _ _)
    refine x_aload_n dX1_put_73 rfl rfl (Or.inr (by decide)) (?_ : Ex _ _ 74 _ _ _ _ _)
    refine gt_1_3 c4 fl_RX1_28 dX1_put_74 (?_ : Ex _ _ 77 _ _ _ _ _)
    refine x_bipush dX1_put_77 kb_80 (by decide) (?_ : Ex _ _ 79 _ _ _ _ _)
    rcases ite_some h with ⟨b28, h⟩ | ⟨b28, h⟩
    · refine x_icmp_ge (tgt := 112) dX1_put_79 rfl b28 (?_ : Ex _ _ 112 _ _ _ _ _)
      refine Ex.wk (ls2 := [(11, l0), (3, 0), (3, 0), (3, 0)]) ⟨Or.inr rfl, Or.inl rfl, Or.inl rfl, Or.inl rfl, trivial⟩ ?_
      exact e_X1_put_112 d h
    · refine x_icmp_geN dX1_put_79 (by decide) b28 (?_ : Ex _ _ 82 _ _ _ _ _)
      refine x_aload_n dX1_put_82 rfl rfl (Or.inr (by decide)) (?_ : Ex _ _ 83 _ _ _ _ _)
      refine gt_1_0 c4 fl_RX1_9 dX1_put_83 (?_ : Ex _ _ 86 _ _ _ _ _)
      refine x_aload_n dX1_put_86 rfl rfl (Or.inr (by decide)) (?_ : Ex _ _ 87 _ _ _ _ _)
      refine gt_1_3 c4 fl_RX1_28 dX1_put_87 (?_ : Ex _ _ 90 _ _ _ _ _)
      refine x_iload_n dX1_put_90 rfl rfl (?_ : Ex _ _ 91 _ _ _ _ _)
      obtain ⟨⟨c29, c30, c31⟩, h⟩ := chk_some h
      obtain ⟨m32, hm32, h⟩ := st_some h
      refine sd_i_80 c29 c30 c31 dX1_put_91 (?_ : Ex _ _ 92 _ _ _ _ _)
      rw [← hm32]
      refine x_aload_n dX1_put_92 rfl rfl (Or.inr (by decide)) (?_ : Ex _ _ 93 _ _ _ _ _)
      refine gt_1_1 c4 fl_RX1_15 dX1_put_93 (?_ : Ex _ _ 96 _ _ _ _ _)
      refine x_aload_n dX1_put_96 rfl rfl (Or.inr (by decide)) (?_ : Ex _ _ 97 _ _ _ _ _)
      refine gt_1_3 c4 fl_RX1_28 dX1_put_97 (?_ : Ex _ _ 100 _ _ _ _ _)
      refine x_iload_n dX1_put_100 rfl rfl (?_ : Ex _ _ 101 _ _ _ _ _)
      obtain ⟨⟨c33, c34, c35⟩, h⟩ := chk_some h
      obtain ⟨m36, hm36, h⟩ := st_some h
      refine sd_i_80 c33 c34 c35 dX1_put_101 (?_ : Ex _ _ 102 _ _ _ _ _)
      rw [← hm36]
      refine x_aload_n dX1_put_102 rfl rfl (Or.inr (by decide)) (?_ : Ex _ _ 103 _ _ _ _ _)
      refine gt_1_2 c4 fl_RX1_18 dX1_put_103 (?_ : Ex _ _ 106 _ _ _ _ _)
      refine x_aload_n dX1_put_106 rfl rfl (Or.inr (by decide)) (?_ : Ex _ _ 107 _ _ _ _ _)
      refine gt_1_3 c4 fl_RX1_28 dX1_put_107 (?_ : Ex _ _ 110 _ _ _ _ _)
      refine x_iload_n dX1_put_110 rfl rfl (?_ : Ex _ _ 111 _ _ _ _ _)
      obtain ⟨⟨c37, c38, c39⟩, h⟩ := chk_some h
      obtain ⟨m40, hm40, h⟩ := st_some h
      refine sd_i_80 c37 c38 c39 dX1_put_111 (?_ : Ex _ _ 112 _ _ _ _ _)
      rw [← hm40]
      refine Ex.wk (ls2 := [(11, l0), (3, 0), (3, 0), (3, 0)]) ⟨Or.inr rfl, Or.inl rfl, Or.inl rfl, Or.inl rfl, trivial⟩ ?_
      exact e_X1_put_112 d h
  · refine x_if_ne (tgt := 125) dX1_put_70 rfl b5 (?_ : Ex _ _ 125 _ _ _ _ _)
    refine x_aload_n dX1_put_125 rfl rfl (Or.inr (by decide)) (?_ : Ex _ _ 126 _ _ _ _ _)
    refine gt_1_10 c4 fl_RX1_49 dX1_put_126 (?_ : Ex _ _ 129 _ _ _ _ _)
    refine x_aload_n dX1_put_129 rfl rfl (Or.inr (by decide)) (?_ : Ex _ _ 130 _ _ _ _ _)
    refine gt_1_11 c4 fl_RX1_52 dX1_put_130 (?_ : Ex _ _ 133 _ _ _ _ _)
    rcases ite_some h with ⟨b6, h⟩ | ⟨b6, h⟩
    · refine x_icmp_ge (tgt := 206) dX1_put_133 rfl b6 (?_ : Ex _ _ 206 _ _ _ _ _)
      refine x_aload_n dX1_put_206 rfl rfl (Or.inr (by decide)) (?_ : Ex _ _ 207 _ _ _ _ _)
      refine x_iconst dX1_put_207 rfl (by decide) (?_ : Ex _ _ 208 _ _ _ _ _)
      obtain ⟨m7, hm7, h⟩ := st_some h
      refine pt_1_8  c4 (by decide) fl_RX1_41 dX1_put_208 (?_ : Ex _ _ 211 _ _ _ _ _)
      rw [← hm7]
      cases h
      exact x_retv dX1_put_211
    · refine x_icmp_geN dX1_put_133 (by decide) b6 (?_ : Ex _ _ 136 _ _ _ _ _)
      refine x_aload_n dX1_put_136 rfl rfl (Or.inr (by decide)) (?_ : Ex _ _ 137 _ _ _ _ _)
      refine gt_1_10 c4 fl_RX1_49 dX1_put_137 (?_ : Ex _ _ 140 _ _ _ _ _)
      refine x_bipush dX1_put_140 kb_80 (by decide) (?_ : Ex _ _ 142 _ _ _ _ _)
      rcases ite_some h with ⟨b8, h⟩ | ⟨b8, h⟩
      · refine x_icmp_ge (tgt := 206) dX1_put_142 rfl b8 (?_ : Ex _ _ 206 _ _ _ _ _)
        refine x_aload_n dX1_put_206 rfl rfl (Or.inr (by decide)) (?_ : Ex _ _ 207 _ _ _ _ _)
        refine x_iconst dX1_put_207 rfl (by decide) (?_ : Ex _ _ 208 _ _ _ _ _)
        obtain ⟨m9, hm9, h⟩ := st_some h
        refine pt_1_8  c4 (by decide) fl_RX1_41 dX1_put_208 (?_ : Ex _ _ 211 _ _ _ _ _)
        rw [← hm9]
        cases h
        exact x_retv dX1_put_211
      · refine x_icmp_geN dX1_put_142 (by decide) b8 (?_ : Ex _ _ 145 _ _ _ _ _)
        refine x_aload_n dX1_put_145 rfl rfl (Or.inr (by decide)) (?_ : Ex _ _ 146 _ _ _ _ _)
        refine gt_1_9 c4 fl_RX1_24 dX1_put_146 (?_ : Ex _ _ 149 _ _ _ _ _)
        obtain ⟨c10, h⟩ := chk_some h
        refine gt_3_0 c10 fl_RX1_58 dX1_put_149 (?_ : Ex _ _ 152 _ _ _ _ _)
        refine x_aload_n dX1_put_152 rfl rfl (Or.inr (by decide)) (?_ : Ex _ _ 153 _ _ _ _ _)
        refine gt_1_10 c4 fl_RX1_49 dX1_put_153 (?_ : Ex _ _ 156 _ _ _ _ _)
        obtain ⟨⟨c11, c12, c13⟩, h⟩ := chk_some h
        refine ld_i_80 c11 c12 c13 dX1_put_156 (?_ : Ex _ _ 157 _ _ _ _ _)
        refine x_iload_n dX1_put_157 rfl rfl (?_ : Ex _ _ 158 _ _ _ _ _)
        rcases ite_some h with ⟨b14, h⟩ | ⟨b14, h⟩
        · refine x_icmp_neN dX1_put_158 (by decide) (fun hh => hh b14) (?_ : Ex _ _ 161 _ _ _ _ _)
          refine x_aload_n dX1_put_161 rfl rfl (Or.inr (by decide)) (?_ : Ex _ _ 162 _ _ _ _ _)
          refine gt_1_9 c4 fl_RX1_24 dX1_put_162 (?_ : Ex _ _ 165 _ _ _ _ _)
          refine gt_3_1 c10 fl_RX1_62 dX1_put_165 (?_ : Ex _ _ 168 _ _ _ _ _)
          refine x_aload_n dX1_put_168 rfl rfl (Or.inr (by decide)) (?_ : Ex _ _ 169 _ _ _ _ _)
          refine gt_1_10 c4 fl_RX1_49 dX1_put_169 (?_ : Ex _ _ 172 _ _ _ _ _)
          obtain ⟨⟨c16, c17, c18⟩, h⟩ := chk_some h
          refine ld_i_80 c16 c17 c18 dX1_put_172 (?_ : Ex _ _ 173 _ _ _ _ _)
          refine x_iload_n dX1_put_173 rfl rfl (?_ : Ex _ _ 174 _ _ _ _ _)
          rcases ite_some h with ⟨b19, h⟩ | ⟨b19, h⟩
          · refine x_icmp_neN dX1_put_174 (by decide) (fun hh => hh b19) (?_ : Ex _ _ 177 _ _ _ _ _)
            refine x_aload_n dX1_put_177 rfl rfl (Or.inr (by decide)) (?_ : Ex _ _ 178 _ _ _ _ _)
            refine gt_1_9 c4 fl_RX1_24 dX1_put_178 (?_ : Ex _ _ 181 _ _ _ _ _)
            refine gt_3_2 c10 fl_RX1_63 dX1_put_181 (?_ : Ex _ _ 184 _ _ _ _ _)
            refine x_aload_n dX1_put_184 rfl rfl (Or.inr (by decide)) (?_ : Ex _ _ 185 _ _ _ _ _)
            refine gt_1_10 c4 fl_RX1_49 dX1_put_185 (?_ : Ex _ _ 188 _ _ _ _ _)
            obtain ⟨⟨c21, c22, c23⟩, h⟩ := chk_some h
            refine ld_i_80 c21 c22 c23 dX1_put_188 (?_ : Ex _ _ 189 _ _ _ _ _)
            refine x_iload_n dX1_put_189 rfl rfl (?_ : Ex _ _ 190 _ _ _ _ _)
            rcases ite_some h with ⟨b24, h⟩ | ⟨b24, h⟩
            · refine x_icmp_neN dX1_put_190 (by decide) (fun hh => hh b24) (?_ : Ex _ _ 193 _ _ _ _ _)
              refine x_aload_n dX1_put_193 rfl rfl (Or.inr (by decide)) (?_ : Ex _ _ 194 _ _ _ _ _)
              refine x_dup (by decide : (11 : Int) ≠ 2) dX1_put_194 (?_ : Ex _ _ 195 _ _ _ _ _)
              refine gt_1_10 c4 fl_RX1_49 dX1_put_195 (?_ : Ex _ _ 198 _ _ _ _ _)
              refine x_iconst dX1_put_198 rfl (by decide) (?_ : Ex _ _ 199 _ _ _ _ _)
              obtain ⟨c26, h⟩ := chk_some h
              refine x_iadd dX1_put_199 c26 (?_ : Ex _ _ 200 _ _ _ _ _)
              obtain ⟨m27, hm27, h⟩ := st_some h
              refine pt_1_10  c4 fl_RX1_49 dX1_put_200 (?_ : Ex _ _ 203 _ _ _ _ _)
              rw [← hm27]
              refine x_goto (tgt := 211) dX1_put_203 rfl (?_ : Ex _ _ 211 _ _ _ _ _)
              cases h
              exact x_retv dX1_put_211
            · refine x_icmp_ne (tgt := 206) dX1_put_190 rfl b24 (?_ : Ex _ _ 206 _ _ _ _ _)
              refine x_aload_n dX1_put_206 rfl rfl (Or.inr (by decide)) (?_ : Ex _ _ 207 _ _ _ _ _)
              refine x_iconst dX1_put_207 rfl (by decide) (?_ : Ex _ _ 208 _ _ _ _ _)
              obtain ⟨m25, hm25, h⟩ := st_some h
              refine pt_1_8  c4 (by decide) fl_RX1_41 dX1_put_208 (?_ : Ex _ _ 211 _ _ _ _ _)
              rw [← hm25]
              cases h
              exact x_retv dX1_put_211
          · refine x_icmp_ne (tgt := 206) dX1_put_174 rfl b19 (?_ : Ex _ _ 206 _ _ _ _ _)
            refine x_aload_n dX1_put_206 rfl rfl (Or.inr (by decide)) (?_ : Ex _ _ 207 _ _ _ _ _)
            refine x_iconst dX1_put_207 rfl (by decide) (?_ : Ex _ _ 208 _ _ _ _ _)
            obtain ⟨m20, hm20, h⟩ := st_some h
            refine pt_1_8  c4 (by decide) fl_RX1_41 dX1_put_208 (?_ : Ex _ _ 211 _ _ _ _ _)
            rw [← hm20]
            cases h
            exact x_retv dX1_put_211
        · refine x_icmp_ne (tgt := 206) dX1_put_158 rfl b14 (?_ : Ex _ _ 206 _ _ _ _ _)
          refine x_aload_n dX1_put_206 rfl rfl (Or.inr (by decide)) (?_ : Ex _ _ 207 _ _ _ _ _)
          refine x_iconst dX1_put_207 rfl (by decide) (?_ : Ex _ _ 208 _ _ _ _ _)
          obtain ⟨m15, hm15, h⟩ := st_some h
          refine pt_1_8  c4 (by decide) fl_RX1_41 dX1_put_208 (?_ : Ex _ _ 211 _ _ _ _ _)
          rw [← hm15]
          cases h
          exact x_retv dX1_put_211
theorem e_X1_put_42 (d : Nat) {l0 l1 l2 l3 s0 s1 s2 : Int} {m : Mem} {v : Int} {m' : Mem} (h : X1_put_42 l0 l1 l2 l3 s0 s1 s2 m = some (v, m')) : Ex d fm_X1_put 42 [(11, l0), (0, l1), (0, l2), (0, l3)] [(0, s0), (0, s1), (11, s2)] m (.inl (3, 0)) m' := by
  unfold X1_put_42 at h
  obtain ⟨c1, h⟩ := chk_some h
  refine x_iadd dX1_put_42 c1 (?_ : Ex _ _ 43 _ _ _ _ _)
  obtain ⟨c2, h⟩ := chk_some h
  obtain ⟨m3, hm3, h⟩ := st_some h
  refine pt_1_5  c2 fl_RX1_35 dX1_put_43 (?_ : Ex _ _ 46 _ _ _ _ _)
  rw [← hm3]
  refine x_aload_n dX1_put_46 rfl rfl (Or.inr (by decide)) (?_ : Ex _ _ 47 _ _ _ _ _)
  refine x_dup (by decide : (11 : Int) ≠ 2) dX1_put_47 (?_ : Ex _ _ 48 _ _ _ _ _)
  obtain ⟨c4, h⟩ := chk_some h
  refine gt_1_6 c4 fl_RX1_38 dX1_put_48 (?_ : Ex _ _ 51 _ _ _ _ _)
  refine x_iload_n dX1_put_51 rfl rfl (?_ : Ex _ _ 52 _ _ _ _ _)
  refine x_bipush dX1_put_52 kb_12 (by decide) (?_ : Ex _ _ 54 _ _ _ _ _)
  rcases ite_some h with ⟨b5, h⟩ | ⟨b5, h⟩
  · refine x_icmp_neN dX1_put_54 (by decide) (fun hh => hh b5) (?_ : Ex _ _ 57 _ _ _ _ _)
    refine x_iconst dX1_put_57 rfl (by decide) (?_ : Ex _ _ 58 _ _ _ _ _)
    refine x_goto (tgt := 62) dX1_put_58 rfl (?_ : Ex _ _ 62 _ _ _ _ _)
    exact e_X1_put_62 d h
  · refine x_icmp_ne (tgt := 61) dX1_put_54 rfl b5 (?_ : Ex _ _ 61 _ _ _ _ _)
    refine x_iconst dX1_put_61 rfl (by decide) (?_ : Ex _ _ 62 _ _ _ _ _)
    exact e_X1_put_62 d h
theorem e_X1_put_22 (d : Nat) {l0 l1 l2 l3 s0 s1 s2 : Int} {m : Mem} {v : Int} {m' : Mem} (h : X1_put_22 l0 l1 l2 l3 s0 s1 s2 m = some (v, m')) : Ex d fm_X1_put 22 [(11, l0), (0, l1), (0, l2), (0, l3)] [(0, s0), (0, s1), (11, s2)] m (.inl (3, 0)) m' := by
  unfold X1_put_22 at h
  obtain ⟨c1, h⟩ := chk_some h
  refine x_iadd dX1_put_22 c1 (?_ : Ex _ _ 23 _ _ _ _ _)
  obtain ⟨c2, h⟩ := chk_some h
  obtain ⟨m3, hm3, h⟩ := st_some h
  refine pt_1_4  c2 fl_RX1_32 dX1_put_23 (?_ : Ex _ _ 26 _ _ _ _ _)
  rw [← hm3]
  refine x_aload_n dX1_put_26 rfl rfl (Or.inr (by decide)) (?_ : Ex _ _ 27 _ _ _ _ _)
  refine x_dup (by decide : (11 : Int) ≠ 2) dX1_put_27 (?_ : Ex _ _ 28 _ _ _ _ _)
  obtain ⟨c4, h⟩ := chk_some h
  refine gt_1_5 c4 fl_RX1_35 dX1_put_28 (?_ : Ex _ _ 31 _ _ _ _ _)
  refine x_iload_n dX1_put_31 rfl rfl (?_ : Ex _ _ 32 _ _ _ _ _)
  refine x_bipush dX1_put_32 kb_10 (by decide) (?_ : Ex _ _ 34 _ _ _ _ _)
  rcases ite_some h with ⟨b5, h⟩ | ⟨b5, h⟩
  · refine x_icmp_neN dX1_put_34 (by decide) (fun hh => hh b5) (?_ : Ex _ _ 37 _ _ _ _ _)
    refine x_iconst dX1_put_37 rfl (by decide) (?_ : Ex _ _ 38 _ _ _ _ _)
    refine x_goto (tgt := 42) dX1_put_38 rfl (?_ : Ex _ _ 42 _ _ _ _ _)
    exact e_X1_put_42 d h
  · refine x_icmp_ne (tgt := 41) dX1_put_34 rfl b5 (?_ : Ex _ _ 41 _ _ _ _ _)
    refine x_iconst dX1_put_41 rfl (by decide) (?_ : Ex _ _ 42 _ _ _ _ _)
    exact e_X1_put_42 d h
theorem e_X1_put_0 (d : Nat) {l0 l1 l2 l3 : Int} {m : Mem} {v : Int} {m' : Mem} (h : X1_put_0 l0 l1 l2 l3 m = some (v, m')) : Ex d fm_X1_put 0 [(11, l0), (0, l1), (0, l2), (0, l3)] [] m (.inl (3, 0)) m' := by
  unfold X1_put_0 at h
  refine x_aload_n dX1_put_0 rfl rfl (Or.inr (by decide)) (?_ : Ex _ _ 1 _ _ _ _ _)
  refine x_dup (by decide : (11 : Int) ≠ 2) dX1_put_1 (?_ : Ex _ _ 2 _ _ _ _ _)
  obtain ⟨c1, h⟩ := chk_some h
  refine gt_1_4 c1 fl_RX1_32 dX1_put_2 (?_ : Ex _ _ 5 _ _ _ _ _)
  refine x_iload_n dX1_put_5 rfl rfl (?_ : Ex _ _ 6 _ _ _ _ _)
  refine x_bipush dX1_put_6 kb_8 (by decide) (?_ : Ex _ _ 8 _ _ _ _ _)
  rcases ite_some h with ⟨b2, h⟩ | ⟨b2, h⟩
  · refine x_icmp_eq (tgt := 17) dX1_put_8 rfl b2 (?_ : Ex _ _ 17 _ _ _ _ _)
    refine x_iconst dX1_put_17 rfl (by decide) (?_ : Ex _ _ 18 _ _ _ _ _)
    refine x_goto (tgt := 22) dX1_put_18 rfl (?_ : Ex _ _ 22 _ _ _ _ _)
    exact e_X1_put_22 d h
  · refine x_icmp_eqN dX1_put_8 (by decide) b2 (?_ : Ex _ _ 11 _ _ _ _ _)
    refine x_iload_n dX1_put_11 rfl rfl (?_ : Ex _ _ 12 _ _ _ _ _)
    refine x_bipush dX1_put_12 kb_15 (by decide) (?_ : Ex _ _ 14 _ _ _ _ _)
    rcases ite_some h with ⟨b3, h⟩ | ⟨b3, h⟩
    · refine x_icmp_neN dX1_put_14 (by decide) (fun hh => hh b3) (?_ : Ex _ _ 17 _ _ _ _ _)
      refine x_iconst dX1_put_17 rfl (by decide) (?_ : Ex _ _ 18 _ _ _ _ _)
      refine x_goto (tgt := 22) dX1_put_18 rfl (?_ : Ex _ _ 22 _ _ _ _ _)
      exact e_X1_put_22 d h
    · refine x_icmp_ne (tgt := 21) dX1_put_14 rfl b3 (?_ : Ex _ _ 21 _ _ _ _ _)
      refine x_iconst dX1_put_21 rfl (by decide) (?_ : Ex _ _ 22 _ _ _ _ _)
      exact e_X1_put_22 d h
theorem e_X1_put (d : Nat) {a0 a1 a2 a3 : Int} {m : Mem} {v : Int} {m' : Mem} (h : X1_put a0 a1 a2 a3 m = some (v, m')) : ExM d fm_X1_put [(11, a0), (0, a1), (0, a2), (0, a3)] m (.inl (3, 0)) m' := by
  exact ExM.of (by decide +kernel) (Nat.le_of_ble_eq_true rfl) (cat9 rfl) retV (e_X1_put_0 d h)
theorem dX1_failTooLong_0 : decode cX1_failTooLong 0 = .ok (.aload_n 0, 1) := by decide +kernel
theorem dX1_failTooLong_1 : decode cX1_failTooLong 1 = .ok (.iconst 0, 1) := by decide +kernel
theorem dX1_failTooLong_2 : decode cX1_failTooLong 2 = .ok (.putfield 28, 3) := by decide +kernel
theorem dX1_failTooLong_5 : decode cX1_failTooLong 5 = .ok (.aload_n 0, 1) := by decide +kernel
theorem dX1_failTooLong_6 : decode cX1_failTooLong 6 = .ok (.bipush 16, 2) := by decide +kernel
theorem dX1_failTooLong_8 : decode cX1_failTooLong 8 = .ok (.bipush 22, 2) := by decide +kernel
theorem dX1_failTooLong_10 : decode cX1_failTooLong 10 = .ok (.bipush 8, 2) := by decide +kernel
theorem dX1_failTooLong_12 : decode cX1_failTooLong 12 = .ok (.invokevirtual 64, 3) := by decide +kernel
theorem dX1_failTooLong_15 : decode cX1_failTooLong 15 = .ok (.return_, 1) := by decide +kernel
theorem e_X1_failTooLong_0 (d : Nat) {l0 : Int} {m : Mem} {v : Int} {m' : Mem} (h : X1_failTooLong_0 l0 m = some (v, m')) : Ex (d + 1) fm_X1_failTooLong 0 [(11, l0)] [] m (.inl (3, 0)) m' := by
  unfold X1_failTooLong_0 at h
  refine x_aload_n dX1_failTooLong_0 rfl rfl (Or.inr (by decide)) (?_ : Ex _ _ 1 _ _ _ _ _)
  refine x_iconst dX1_failTooLong_1 rfl (by decide) (?_ : Ex _ _ 2 _ _ _ _ _)
  obtain ⟨c1, h⟩ := chk_some h
  obtain ⟨m2, hm2, h⟩ := st_some h
  refine pt_1_3  c1 fl_RX1_28 dX1_failTooLong_2 (?_ : Ex _ _ 5 _ _ _ _ _)
  rw [← hm2]
  refine x_aload_n dX1_failTooLong_5 rfl rfl (Or.inr (by decide)) (?_ : Ex _ _ 6 _ _ _ _ _)
  refine x_bipush dX1_failTooLong_6 kb_16 (by decide) (?_ : Ex _ _ 8 _ _ _ _ _)
  refine x_bipush dX1_failTooLong_8 kb_22 (by decide) (?_ : Ex _ _ 10 _ _ _ _ _)
  refine x_bipush dX1_failTooLong_10 kb_8 (by decide) (?_ : Ex _ _ 12 _ _ _ _ _)
  obtain ⟨v3, m4, g5, h⟩ := cal_some h
  refine cV3 (e_X1_put d g5) (contV (?_ : Ex _ _ 15 _ _ _ _ _)) og_X1_put rfl ml_RX1_64 1 rfl rfl c1 im_X1_put se_X1_put (Nat.le_of_ble_eq_true rfl) dX1_failTooLong_12
  cases h
  exact x_retv dX1_failTooLong_15
theorem e_X1_failTooLong (d : Nat) {a0 : Int} {m : Mem} {v : Int} {m' : Mem} (h : X1_failTooLong a0 m = some (v, m')) : ExM (d + 1) fm_X1_failTooLong [(11, a0)] m (.inl (3, 0)) m' := by
  exact ExM.of (by decide +kernel) (Nat.le_of_ble_eq_true rfl) (cat9 rfl) retV (e_X1_failTooLong_0 d h)
theorem dX5_init_0 : decode cX5_init 0 = .ok (.aload_n 0, 1) := by decide +kernel
theorem dX5_init_1 : decode cX5_init 1 = .ok (.invokespecial 3, 3) := by decide +kernel
theorem dX5_init_4 : decode cX5_init 4 = .ok (.aload_n 0, 1) := by decide +kernel
theorem dX5_init_5 : decode cX5_init 5 = .ok (.bipush 12, 2) := by decide +kernel
theorem dX5_init_7 : decode cX5_init 7 = .ok (.newarray .int, 2) := by decide +kernel
theorem dX5_init_9 : decode cX5_init 9 = .ok (.putfield 9, 3) := by decide +kernel
theorem dX5_init_12 : decode cX5_init 12 = .ok (.aload_n 0, 1) := by decide +kernel
theorem dX5_init_13 : decode cX5_init 13 = .ok (.bipush 12, 2) := by decide +kernel
theorem dX5_init_15 : decode cX5_init 15 = .ok (.newarray .int, 2) := by decide +kernel
theorem dX5_init_17 : decode cX5_init 17 = .ok (.putfield 15, 3) := by decide +kernel
theorem dX5_init_20 : decode cX5_init 20 = .ok (.aload_n 0, 1) := by decide +kernel
theorem dX5_init_21 : decode cX5_init 21 = .ok (.bipush 12, 2) := by decide +kernel
theorem dX5_init_23 : decode cX5_init 23 = .ok (.newarray .int, 2) := by decide +kernel
theorem dX5_init_25 : decode cX5_init 25 = .ok (.putfield 18, 3) := by decide +kernel
theorem dX5_init_28 : decode cX5_init 28 = .ok (.return_, 1) := by decide +kernel
theorem e_X5_init_0 (d : Nat) {l0 : Int} {m : Mem} {v : Int} {m' : Mem} (h : X5_init_0 l0 m = some (v, m')) : Ex d fm_X5_init 0 [(15, l0)] [] m (.inl (3, 0)) m' := by
  unfold X5_init_0 at h
  refine x_aload_n dX5_init_0 rfl rfl (Or.inr (by decide)) (?_ : Ex _ _ 1 _ _ _ _ _)
  obtain ⟨c1, h⟩ := chk_some h
  refine x_objInit (by decide) c1 oi_RX5_3 oi_a oi_b (Nat.le_of_ble_eq_true rfl) dX5_init_1 (?_ : Ex _ _ 4 _ _ _ _ _)
  refine x_aload_n dX5_init_4 rfl rfl (Or.inr (by decide)) (?_ : Ex _ _ 5 _ _ _ _ _)
  refine x_bipush dX5_init_5 kb_12 (by decide) (?_ : Ex _ _ 7 _ _ _ _ _)
  obtain ⟨i2, hi2, h⟩ := vl_some h
  obtain ⟨⟨c3, c4⟩, h⟩ := chk_some h
  obtain ⟨m5, hm5, h⟩ := st_some h
  refine na_i_12 c3 c4 dX5_init_7 (?_ : Ex _ _ 9 _ _ _ _ _)
  rw [← hm5]
  obtain ⟨m6, hm6, h⟩ := st_some h
  refine pt_5_0 rfl rfl c1 fl_RX5_9 dX5_init_9 (?_ : Ex _ _ 12 _ _ _ _ _)
  rw [← hm6]
  refine x_aload_n dX5_init_12 rfl rfl (Or.inr (by decide)) (?_ : Ex _ _ 13 _ _ _ _ _)
  refine x_bipush dX5_init_13 kb_12 (by decide) (?_ : Ex _ _ 15 _ _ _ _ _)
  obtain ⟨i7, hi7, h⟩ := vl_some h
  obtain ⟨⟨c8, c9⟩, h⟩ := chk_some h
  obtain ⟨m10, hm10, h⟩ := st_some h
  refine na_i_12 c8 c9 dX5_init_15 (?_ : Ex _ _ 17 _ _ _ _ _)
  rw [← hm10]
  obtain ⟨m11, hm11, h⟩ := st_some h
  refine pt_5_1 rfl rfl c1 fl_RX5_15 dX5_init_17 (?_ : Ex _ _ 20 _ _ _ _ _)
  rw [← hm11]
  refine x_aload_n dX5_init_20 rfl rfl (Or.inr (by decide)) (?_ : Ex _ _ 21 _ _ _ _ _)
  refine x_bipush dX5_init_21 kb_12 (by decide) (?_ : Ex _ _ 23 _ _ _ _ _)
  obtain ⟨i12, hi12, h⟩ := vl_some h
  obtain ⟨⟨c13, c14⟩, h⟩ := chk_some h
  obtain ⟨m15, hm15, h⟩ := st_some h
  refine na_i_12 c13 c14 dX5_init_23 (?_ : Ex _ _ 25 _ _ _ _ _)
  rw [← hm15]
  obtain ⟨m16, hm16, h⟩ := st_some h
  refine pt_5_2 rfl rfl c1 fl_RX5_18 dX5_init_25 (?_ : Ex _ _ 28 _ _ _ _ _)
  rw [← hm16]
  cases h
  exact x_retv dX5_init_28
theorem e_X5_init (d : Nat) {a0 : Int} {m : Mem} {v : Int} {m' : Mem} (h : X5_init a0 m = some (v, m')) : ExM d fm_X5_init [(15, a0)] m (.inl (3, 0)) m' := by
  exact ExM.of (by decide +kernel) (Nat.le_of_ble_eq_true rfl) (cat9 rfl) retV (e_X5_init_0 d h)
theorem dX2_init_0 : decode cX2_init 0 = .ok (.aload_n 0, 1) := by decide +kernel
theorem dX2_init_1 : decode cX2_init 1 = .ok (.invokespecial 3, 3) := by decide +kernel
theorem dX2_init_4 : decode cX2_init 4 = .ok (.aload_n 0, 1) := by decide +kernel
theorem dX2_init_5 : decode cX2_init 5 = .ok (.iconst 4, 1) := by decide +kernel
theorem dX2_init_6 : decode cX2_init 6 = .ok (.anewarray 9, 3) := by decide +kernel
theorem dX2_init_9 : decode cX2_init 9 = .ok (.putfield 11, 3) := by decide +kernel
theorem dX2_init_12 : decode cX2_init 12 = .ok (.aload_n 0, 1) := by decide +kernel
theorem dX2_init_13 : decode cX2_init 13 = .ok (.new 9, 3) := by decide +kernel
theorem dX2_init_16 : decode cX2_init 16 = .ok (.dup, 1) := by decide +kernel
theorem dX2_init_17 : decode cX2_init 17 = .ok (.invokespecial 17, 3) := by decide +kernel
theorem dX2_init_20 : decode cX2_init 20 = .ok (.putfield 18, 3) := by decide +kernel
theorem dX2_init_23 : decode cX2_init 23 = .ok (.return_, 1) := by decide +kernel
theorem e_X2_init_0 (d : Nat) {l0 : Int} {m : Mem} {v : Int} {m' : Mem} (h : X2_init_0 l0 m = some (v, m')) : Ex (d + 1) fm_X2_init 0 [(12, l0)] [] m (.inl (3, 0)) m' := by
  unfold X2_init_0 at h
  refine x_aload_n dX2_init_0 rfl rfl (Or.inr (by decide)) (?_ : Ex _ _ 1 _ _ _ _ _)
  obtain ⟨c1, h⟩ := chk_some h
  refine x_objInit (by decide) c1 oi_RX2_3 oi_a oi_b (Nat.le_of_ble_eq_true rfl) dX2_init_1 (?_ : Ex _ _ 4 _ _ _ _ _)
  refine x_aload_n dX2_init_4 rfl rfl (Or.inr (by decide)) (?_ : Ex _ _ 5 _ _ _ _ _)
  refine x_iconst dX2_init_5 rfl (by decide) (?_ : Ex _ _ 6 _ _ _ _ _)
  obtain ⟨i2, hi2, h⟩ := vl_some h
  obtain ⟨⟨c3, c4⟩, h⟩ := chk_some h
  obtain ⟨m5, hm5, h⟩ := st_some h
  refine nq_5_4 c3 c4 cl_RX2_9 dX2_init_6 (?_ : Ex _ _ 9 _ _ _ _ _)
  rw [← hm5]
  obtain ⟨m6, hm6, h⟩ := st_some h
  refine pt_2_0 rfl rfl c1 fl_RX2_11 dX2_init_9 (?_ : Ex _ _ 12 _ _ _ _ _)
  rw [← hm6]
  refine x_aload_n dX2_init_12 rfl rfl (Or.inr (by decide)) (?_ : Ex _ _ 13 _ _ _ _ _)
  obtain ⟨i7, hi7, h⟩ := vl_some h
  obtain ⟨⟨c8, c9⟩, h⟩ := chk_some h
  obtain ⟨m10, hm10, h⟩ := st_some h
  refine nw_5 c8 c9 cl_RX2_9 dX2_init_13 (?_ : Ex _ _ 16 _ _ _ _ _)
  rw [← hm10]
  refine x_dup (by decide : (15 : Int) ≠ 2) dX2_init_16 (?_ : Ex _ _ 17 _ _ _ _ _)
  obtain ⟨v11, m12, g13, h⟩ := cal_some h
  refine cN0 (e_X5_init d g13) (contV (?_ : Ex _ _ 20 _ _ _ _ _)) og_X5_init rfl nl_RX2_17 rfl rfl (by decide) c8 im_X5_init (Nat.le_of_ble_eq_true rfl) dX2_init_17
  obtain ⟨m14, hm14, h⟩ := st_some h
  refine pt_2_2  c1 fl_RX2_18 dX2_init_20 (?_ : Ex _ _ 23 _ _ _ _ _)
  rw [← hm14]
  cases h
  exact x_retv dX2_init_23
theorem e_X2_init (d : Nat) {a0 : Int} {m : Mem} {v : Int} {m' : Mem} (h : X2_init a0 m = some (v, m')) : ExM (d + 1) fm_X2_init [(12, a0)] m (.inl (3, 0)) m' := by
  exact ExM.of (by decide +kernel) (Nat.le_of_ble_eq_true rfl) (cat9 rfl) retV (e_X2_init_0 d h)
theorem dX2_releaseTold_0 : decode cX2_releaseTold 0 = .ok (.aload_n 0, 1) := by decide +kernel
theorem dX2_releaseTold_1 : decode cX2_releaseTold 1 = .ok (.getfield 22, 3) := by decide +kernel
theorem dX2_releaseTold_4 : decode cX2_releaseTold 4 = .ok (.iconst 4, 1) := by decide +kernel
theorem dX2_releaseTold_5 : decode cX2_releaseTold 5 = .ok (.if_icmp .ge 37, 3) := by decide +kernel
theorem dX2_releaseTold_8 : decode cX2_releaseTold 8 = .ok (.aload_n 0, 1) := by decide +kernel
theorem dX2_releaseTold_9 : decode cX2_releaseTold 9 = .ok (.getfield 11, 3) := by decide +kernel
theorem dX2_releaseTold_12 : decode cX2_releaseTold 12 = .ok (.aload_n 0, 1) := by decide +kernel
theorem dX2_releaseTold_13 : decode cX2_releaseTold 13 = .ok (.getfield 22, 3) := by decide +kernel
theorem dX2_releaseTold_16 : decode cX2_releaseTold 16 = .ok (.aload_n 0, 1) := by decide +kernel
theorem dX2_releaseTold_17 : decode cX2_releaseTold 17 = .ok (.getfield 18, 3) := by decide +kernel
theorem dX2_releaseTold_20 : decode cX2_releaseTold 20 = .ok (.aastore, 1) := by decide +kernel
theorem dX2_releaseTold_21 : decode cX2_releaseTold 21 = .ok (.aload_n 0, 1) := by decide +kernel
theorem dX2_releaseTold_22 : decode cX2_releaseTold 22 = .ok (.dup, 1) := by decide +kernel
theorem dX2_releaseTold_23 : decode cX2_releaseTold 23 = .ok (.getfield 22, 3) := by decide +kernel
theorem dX2_releaseTold_26 : decode cX2_releaseTold 26 = .ok (.iconst 1, 1) := by decide +kernel
theorem dX2_releaseTold_27 : decode cX2_releaseTold 27 = .ok (.iadd, 1) := by decide +kernel
theorem dX2_releaseTold_28 : decode cX2_releaseTold 28 = .ok (.putfield 22, 3) := by decide +kernel
theorem dX2_releaseTold_31 : decode cX2_releaseTold 31 = .ok (.aload_n 0, 1) := by decide +kernel
theorem dX2_releaseTold_32 : decode cX2_releaseTold 32 = .ok (.new 9, 3) := by decide +kernel
theorem dX2_releaseTold_35 : decode cX2_releaseTold 35 = .ok (.dup, 1) := by decide +kernel
theorem dX2_releaseTold_36 : decode cX2_releaseTold 36 = .ok (.invokespecial 17, 3) := by decide +kernel
theorem dX2_releaseTold_39 : decode cX2_releaseTold 39 = .ok (.putfield 18, 3) := by decide +kernel
theorem dX2_releaseTold_42 : decode cX2_releaseTold 42 = .ok (.return_, 1) := by decide +kernel
theorem e_X2_releaseTold_0 (d : Nat) {l0 : Int} {m : Mem} {v : Int} {m' : Mem} (h : X2_releaseTold_0 l0 m = some (v, m')) : Ex (d + 1) fm_X2_releaseTold 0 [(12, l0)] [] m (.inl (3, 0)) m' := by
  unfold X2_releaseTold_0 at h
  refine x_aload_n dX2_releaseTold_0 rfl rfl (Or.inr (by decide)) (?_ : Ex _ _ 1 _ _ _ _ _)
  obtain ⟨c1, h⟩ := chk_some h
  refine gt_2_1 c1 fl_RX2_22 dX2_releaseTold_1 (?_ : Ex _ _ 4 _ _ _ _ _)
  refine x_iconst dX2_releaseTold_4 rfl (by decide) (?_ : Ex _ _ 5 _ _ _ _ _)
  rcases ite_some h with ⟨b2, h⟩ | ⟨b2, h⟩
  · refine x_icmp_ge (tgt := 42) dX2_releaseTold_5 rfl b2 (?_ : Ex _ _ 42 _ _ _ _ _)
    cases h
    exact x_retv dX2_releaseTold_42
  · refine x_icmp_geN dX2_releaseTold_5 (by decide) b2 (?_ : Ex _ _ 8 _ _ _ _ _)
    refine x_aload_n dX2_releaseTold_8 rfl rfl (Or.inr (by decide)) (?_ : Ex _ _ 9 _ _ _ _ _)
    refine gt_2_0 c1 fl_RX2_11 dX2_releaseTold_9 (?_ : Ex _ _ 12 _ _ _ _ _)
    refine x_aload_n dX2_releaseTold_12 rfl rfl (Or.inr (by decide)) (?_ : Ex _ _ 13 _ _ _ _ _)
    refine gt_2_1 c1 fl_RX2_22 dX2_releaseTold_13 (?_ : Ex _ _ 16 _ _ _ _ _)
    refine x_aload_n dX2_releaseTold_16 rfl rfl (Or.inr (by decide)) (?_ : Ex _ _ 17 _ _ _ _ _)
    refine gt_2_2 c1 fl_RX2_18 dX2_releaseTold_17 (?_ : Ex _ _ 20 _ _ _ _ _)
    obtain ⟨⟨c3, c4, c5, c6⟩, h⟩ := chk_some h
    obtain ⟨m7, hm7, h⟩ := st_some h
    refine as_5_4 c3 c6 c4 c5 dX2_releaseTold_20 (?_ : Ex _ _ 21 _ _ _ _ _)
    rw [← hm7]
    refine x_aload_n dX2_releaseTold_21 rfl rfl (Or.inr (by decide)) (?_ : Ex _ _ 22 _ _ _ _ _)
    refine x_dup (by decide : (12 : Int) ≠ 2) dX2_releaseTold_22 (?_ : Ex _ _ 23 _ _ _ _ _)
    refine gt_2_1 c1 fl_RX2_22 dX2_releaseTold_23 (?_ : Ex _ _ 26 _ _ _ _ _)
    refine x_iconst dX2_releaseTold_26 rfl (by decide) (?_ : Ex _ _ 27 _ _ _ _ _)
    obtain ⟨c8, h⟩ := chk_some h
    refine x_iadd dX2_releaseTold_27 c8 (?_ : Ex _ _ 28 _ _ _ _ _)
    obtain ⟨m9, hm9, h⟩ := st_some h
    refine pt_2_1  c1 fl_RX2_22 dX2_releaseTold_28 (?_ : Ex _ _ 31 _ _ _ _ _)
    rw [← hm9]
    refine x_aload_n dX2_releaseTold_31 rfl rfl (Or.inr (by decide)) (?_ : Ex _ _ 32 _ _ _ _ _)
    obtain ⟨i10, hi10, h⟩ := vl_some h
    obtain ⟨⟨c11, c12⟩, h⟩ := chk_some h
    obtain ⟨m13, hm13, h⟩ := st_some h
    refine nw_5 c11 c12 cl_RX2_9 dX2_releaseTold_32 (?_ : Ex _ _ 35 _ _ _ _ _)
    rw [← hm13]
    refine x_dup (by decide : (15 : Int) ≠ 2) dX2_releaseTold_35 (?_ : Ex _ _ 36 _ _ _ _ _)
    obtain ⟨v14, m15, g16, h⟩ := cal_some h
    refine cN0 (e_X5_init d g16) (contV (?_ : Ex _ _ 39 _ _ _ _ _)) og_X5_init rfl nl_RX2_17 rfl rfl (by decide) c11 im_X5_init (Nat.le_of_ble_eq_true rfl) dX2_releaseTold_36
    obtain ⟨m17, hm17, h⟩ := st_some h
    refine pt_2_2  c1 fl_RX2_18 dX2_releaseTold_39 (?_ : Ex _ _ 42 _ _ _ _ _)
    rw [← hm17]
    cases h
    exact x_retv dX2_releaseTold_42
theorem e_X2_releaseTold (d : Nat) {a0 : Int} {m : Mem} {v : Int} {m' : Mem} (h : X2_releaseTold a0 m = some (v, m')) : ExM (d + 1) fm_X2_releaseTold [(12, a0)] m (.inl (3, 0)) m' := by
  exact ExM.of (by decide +kernel) (Nat.le_of_ble_eq_true rfl) (cat9 rfl) retV (e_X2_releaseTold_0 d h)
theorem dX8_init_0 : decode cX8_init 0 = .ok (.aload_n 0, 1) := by decide +kernel
theorem dX8_init_1 : decode cX8_init 1 = .ok (.invokespecial 3, 3) := by decide +kernel
theorem dX8_init_4 : decode cX8_init 4 = .ok (.return_, 1) := by decide +kernel
theorem e_X8_init_0 (d : Nat) {l0 : Int} {m : Mem} {v : Int} {m' : Mem} (h : X8_init_0 l0 m = some (v, m')) : Ex d fm_X8_init 0 [(18, l0)] [] m (.inl (3, 0)) m' := by
  unfold X8_init_0 at h
  refine x_aload_n dX8_init_0 rfl rfl (Or.inr (by decide)) (?_ : Ex _ _ 1 _ _ _ _ _)
  obtain ⟨c1, h⟩ := chk_some h
  refine x_objInit (by decide) c1 oi_RX8_3 oi_a oi_b (Nat.le_of_ble_eq_true rfl) dX8_init_1 (?_ : Ex _ _ 4 _ _ _ _ _)
  cases h
  exact x_retv dX8_init_4
theorem e_X8_init (d : Nat) {a0 : Int} {m : Mem} {v : Int} {m' : Mem} (h : X8_init a0 m = some (v, m')) : ExM d fm_X8_init [(18, a0)] m (.inl (3, 0)) m' := by
  exact ExM.of (by decide +kernel) (Nat.le_of_ble_eq_true rfl) (cat9 rfl) retV (e_X8_init_0 d h)
theorem dX4_init_0 : decode cX4_init 0 = .ok (.aload_n 0, 1) := by decide +kernel
theorem dX4_init_1 : decode cX4_init 1 = .ok (.invokespecial 3, 3) := by decide +kernel
theorem dX4_init_4 : decode cX4_init 4 = .ok (.aload_n 0, 1) := by decide +kernel
theorem dX4_init_5 : decode cX4_init 5 = .ok (.new 9, 3) := by decide +kernel
theorem dX4_init_8 : decode cX4_init 8 = .ok (.dup, 1) := by decide +kernel
theorem dX4_init_9 : decode cX4_init 9 = .ok (.invokespecial 11, 3) := by decide +kernel
theorem dX4_init_12 : decode cX4_init 12 = .ok (.putfield 12, 3) := by decide +kernel
theorem dX4_init_15 : decode cX4_init 15 = .ok (.aload_n 0, 1) := by decide +kernel
theorem dX4_init_16 : decode cX4_init 16 = .ok (.bipush 80, 2) := by decide +kernel
theorem dX4_init_18 : decode cX4_init 18 = .ok (.newarray .boolean, 2) := by decide +kernel
theorem dX4_init_20 : decode cX4_init 20 = .ok (.putfield 18, 3) := by decide +kernel
theorem dX4_init_23 : decode cX4_init 23 = .ok (.aload_n 0, 1) := by decide +kernel
theorem dX4_init_24 : decode cX4_init 24 = .ok (.iconst 3, 1) := by decide +kernel
theorem dX4_init_25 : decode cX4_init 25 = .ok (.anewarray 22, 3) := by decide +kernel
theorem dX4_init_28 : decode cX4_init 28 = .ok (.putfield 24, 3) := by decide +kernel
theorem dX4_init_31 : decode cX4_init 31 = .ok (.aload_n 0, 1) := by decide +kernel
theorem dX4_init_32 : decode cX4_init 32 = .ok (.bipush 80, 2) := by decide +kernel
theorem dX4_init_34 : decode cX4_init 34 = .ok (.newarray .int, 2) := by decide +kernel
theorem dX4_init_36 : decode cX4_init 36 = .ok (.putfield 28, 3) := by decide +kernel
theorem dX4_init_39 : decode cX4_init 39 = .ok (.aload_n 0, 1) := by decide +kernel
theorem dX4_init_40 : decode cX4_init 40 = .ok (.bipush 80, 2) := by decide +kernel
theorem dX4_init_42 : decode cX4_init 42 = .ok (.newarray .int, 2) := by decide +kernel
theorem dX4_init_44 : decode cX4_init 44 = .ok (.putfield 32, 3) := by decide +kernel
theorem dX4_init_47 : decode cX4_init 47 = .ok (.aload_n 0, 1) := by decide +kernel
theorem dX4_init_48 : decode cX4_init 48 = .ok (.new 35, 3) := by decide +kernel
theorem dX4_init_51 : decode cX4_init 51 = .ok (.dup, 1) := by decide +kernel
theorem dX4_init_52 : decode cX4_init 52 = .ok (.invokespecial 37, 3) := by decide +kernel
theorem dX4_init_55 : decode cX4_init 55 = .ok (.putfield 38, 3) := by decide +kernel
theorem dX4_init_58 : decode cX4_init 58 = .ok (.iconst 0, 1) := by decide +kernel
theorem dX4_init_59 : decode cX4_init 59 = .ok (.istore_n 1, 1) := by decide +kernel
theorem dX4_init_60 : decode cX4_init 60 = .ok (.iload_n 1, 1) := by decide +kernel
theorem dX4_init_61 : decode cX4_init 61 = .ok (.iconst 3, 1) := by decide +kernel
theorem dX4_init_62 : decode cX4_init 62 = .ok (.if_icmp .ge 22, 3) := by decide +kernel
theorem dX4_init_65 : decode cX4_init 65 = .ok (.aload_n 0, 1) := by decide +kernel
theorem dX4_init_66 : decode cX4_init 66 = .ok (.getfield 24, 3) := by decide +kernel
theorem dX4_init_69 : decode cX4_init 69 = .ok (.iload_n 1, 1) := by decide +kernel
theorem dX4_init_70 : decode cX4_init 70 = .ok (.new 22, 3) := by decide +kernel
theorem dX4_init_73 : decode cX4_init 73 = .ok (.dup, 1) := by decide +kernel
theorem dX4_init_74 : decode cX4_init 74 = .ok (.invokespecial 42, 3) := by decide +kernel
theorem dX4_init_77 : decode cX4_init 77 = .ok (.aastore, 1) := by decide +kernel
theorem dX4_init_78 : decode cX4_init 78 = .ok (.iinc 1 1, 3) := by decide +kernel
theorem dX4_init_81 : decode cX4_init 81 = .ok (.goto (-21), 3) := by decide +kernel
theorem dX4_init_84 : decode cX4_init 84 = .ok (.return_, 1) := by decide +kernel
theorem e_X4_init_60 (d : Nat) : ∀ (n : Nat) {l0 l1 : Int} {m : Mem} {v : Int} {m' : Mem}, X4_init_60 n l0 l1 m = some (v, m') → Ex (d + 2) fm_X4_init 60 [(14, l0), (0, l1)] [] m (.inl (3, 0)) m' := by
  intro n
  induction n with
  | zero =>
    intro l0 l1 m v m' h
    have h : (none : Option R2) = some _ := h
    cases h
  | succ n ih =>
    intro l0 l1 m v m' h
    rw [X4_init_60] at h
    refine x_iload_n dX4_init_60 rfl rfl (?_ : Ex _ _ 61 _ _ _ _ _)
    refine x_iconst dX4_init_61 rfl (by decide) (?_ : Ex _ _ 62 _ _ _ _ _)
    rcases ite_some h with ⟨b1, h⟩ | ⟨b1, h⟩
    · refine x_icmp_ge (tgt := 84) dX4_init_62 rfl b1 (?_ : Ex _ _ 84 _ _ _ _ _)
      cases h
      exact x_retv dX4_init_84
    · refine x_icmp_geN dX4_init_62 (by decide) b1 (?_ : Ex _ _ 65 _ _ _ _ _)
      refine x_aload_n dX4_init_65 rfl rfl (Or.inr (by decide)) (?_ : Ex _ _ 66 _ _ _ _ _)
      obtain ⟨c2, h⟩ := chk_some h
      refine gt_4_3 c2 fl_RX4_24 dX4_init_66 (?_ : Ex _ _ 69 _ _ _ _ _)
      refine x_iload_n dX4_init_69 rfl rfl (?_ : Ex _ _ 70 _ _ _ _ _)
      obtain ⟨i3, hi3, h⟩ := vl_some h
      obtain ⟨⟨c4, c5⟩, h⟩ := chk_some h
      obtain ⟨m6, hm6, h⟩ := st_some h
      refine nw_8 c4 c5 cl_RX4_22 dX4_init_70 (?_ : Ex _ _ 73 _ _ _ _ _)
      rw [← hm6]
      refine x_dup (by decide : (18 : Int) ≠ 2) dX4_init_73 (?_ : Ex _ _ 74 _ _ _ _ _)
      obtain ⟨v7, m8, g9, h⟩ := cal_some h
      refine cN0 (e_X8_init (d + 1) g9) (contV (?_ : Ex _ _ 77 _ _ _ _ _)) og_X8_init rfl nl_RX4_42 rfl rfl (by decide) c4 im_X8_init (Nat.le_of_ble_eq_true rfl) dX4_init_74
      obtain ⟨⟨c10, c11, c12⟩, h⟩ := chk_some h
      obtain ⟨m13, hm13, h⟩ := st_some h
      refine as_8_3 c10 c4 c11 c12 dX4_init_77 (?_ : Ex _ _ 78 _ _ _ _ _)
      rw [← hm13]
      obtain ⟨c14, h⟩ := chk_some h
      refine x_iinc (ls2 := [(14, l0), (0, (l1 + 1))]) dX4_init_78 rfl c14 rfl (?_ : Ex _ _ 81 _ _ _ _ _)
      refine x_goto (tgt := 60) dX4_init_81 rfl (?_ : Ex _ _ 60 _ _ _ _ _)
      exact ih h
theorem e_X4_init_0 (d : Nat) {l0 : Int} {m : Mem} {v : Int} {m' : Mem} (h : X4_init_0 l0 m = some (v, m')) : Ex (d + 2) fm_X4_init 0 [(14, l0), (3, 0)] [] m (.inl (3, 0)) m' := by
  unfold X4_init_0 at h
  refine x_aload_n dX4_init_0 rfl rfl (Or.inr (by decide)) (?_ : Ex _ _ 1 _ _ _ _ _)
  obtain ⟨c1, h⟩ := chk_some h
  refine x_objInit (by decide) c1 oi_RX4_3 oi_a oi_b (Nat.le_of_ble_eq_true rfl) dX4_init_1 (?_ : Ex _ _ 4 _ _ _ _ _)
  refine x_aload_n dX4_init_4 rfl rfl (Or.inr (by decide)) (?_ : Ex _ _ 5 _ _ _ _ _)
  obtain ⟨i2, hi2, h⟩ := vl_some h
  obtain ⟨⟨c3, c4⟩, h⟩ := chk_some h
  obtain ⟨m5, hm5, h⟩ := st_some h
  refine nw_1 c3 c4 cl_RX4_9 dX4_init_5 (?_ : Ex _ _ 8 _ _ _ _ _)
  rw [← hm5]
  refine x_dup (by decide : (11 : Int) ≠ 2) dX4_init_8 (?_ : Ex _ _ 9 _ _ _ _ _)
  obtain ⟨v6, m7, g8, h⟩ := cal_some h
  refine cN0 (e_X1_init d g8) (contV (?_ : Ex _ _ 12 _ _ _ _ _)) og_X1_init rfl nl_RX4_11 rfl rfl (by decide) c3 im_X1_init (Nat.le_of_ble_eq_true rfl) dX4_init_9
  obtain ⟨m9, hm9, h⟩ := st_some h
  refine pt_4_0 rfl rfl c1 fl_RX4_12 dX4_init_12 (?_ : Ex _ _ 15 _ _ _ _ _)
  rw [← hm9]
  refine x_aload_n dX4_init_15 rfl rfl (Or.inr (by decide)) (?_ : Ex _ _ 16 _ _ _ _ _)
  refine x_bipush dX4_init_16 kb_80 (by decide) (?_ : Ex _ _ 18 _ _ _ _ _)
  obtain ⟨i10, hi10, h⟩ := vl_some h
  obtain ⟨⟨c11, c12⟩, h⟩ := chk_some h
  obtain ⟨m13, hm13, h⟩ := st_some h
  refine na_b_80 c11 c12 dX4_init_18 (?_ : Ex _ _ 20 _ _ _ _ _)
  rw [← hm13]
  obtain ⟨m14, hm14, h⟩ := st_some h
  refine pt_4_1 rfl rfl c1 fl_RX4_18 dX4_init_20 (?_ : Ex _ _ 23 _ _ _ _ _)
  rw [← hm14]
  refine x_aload_n dX4_init_23 rfl rfl (Or.inr (by decide)) (?_ : Ex _ _ 24 _ _ _ _ _)
  refine x_iconst dX4_init_24 rfl (by decide) (?_ : Ex _ _ 25 _ _ _ _ _)
  obtain ⟨i15, hi15, h⟩ := vl_some h
  obtain ⟨⟨c16, c17⟩, h⟩ := chk_some h
  obtain ⟨m18, hm18, h⟩ := st_some h
  refine nq_8_3 c16 c17 cl_RX4_22 dX4_init_25 (?_ : Ex _ _ 28 _ _ _ _ _)
  rw [← hm18]
  obtain ⟨m19, hm19, h⟩ := st_some h
  refine pt_4_3 rfl rfl c1 fl_RX4_24 dX4_init_28 (?_ : Ex _ _ 31 _ _ _ _ _)
  rw [← hm19]
  refine x_aload_n dX4_init_31 rfl rfl (Or.inr (by decide)) (?_ : Ex _ _ 32 _ _ _ _ _)
  refine x_bipush dX4_init_32 kb_80 (by decide) (?_ : Ex _ _ 34 _ _ _ _ _)
  obtain ⟨i20, hi20, h⟩ := vl_some h
  obtain ⟨⟨c21, c22⟩, h⟩ := chk_some h
  obtain ⟨m23, hm23, h⟩ := st_some h
  refine na_i_80 c21 c22 dX4_init_34 (?_ : Ex _ _ 36 _ _ _ _ _)
  rw [← hm23]
  obtain ⟨m24, hm24, h⟩ := st_some h
  refine pt_4_4 rfl rfl c1 fl_RX4_28 dX4_init_36 (?_ : Ex _ _ 39 _ _ _ _ _)
  rw [← hm24]
  refine x_aload_n dX4_init_39 rfl rfl (Or.inr (by decide)) (?_ : Ex _ _ 40 _ _ _ _ _)
  refine x_bipush dX4_init_40 kb_80 (by decide) (?_ : Ex _ _ 42 _ _ _ _ _)
  obtain ⟨i25, hi25, h⟩ := vl_some h
  obtain ⟨⟨c26, c27⟩, h⟩ := chk_some h
  obtain ⟨m28, hm28, h⟩ := st_some h
  refine na_i_80 c26 c27 dX4_init_42 (?_ : Ex _ _ 44 _ _ _ _ _)
  rw [← hm28]
  obtain ⟨m29, hm29, h⟩ := st_some h
  refine pt_4_5 rfl rfl c1 fl_RX4_32 dX4_init_44 (?_ : Ex _ _ 47 _ _ _ _ _)
  rw [← hm29]
  refine x_aload_n dX4_init_47 rfl rfl (Or.inr (by decide)) (?_ : Ex _ _ 48 _ _ _ _ _)
  obtain ⟨i30, hi30, h⟩ := vl_some h
  obtain ⟨⟨c31, c32⟩, h⟩ := chk_some h
  obtain ⟨m33, hm33, h⟩ := st_some h
  refine nw_5 c31 c32 cl_RX4_35 dX4_init_48 (?_ : Ex _ _ 51 _ _ _ _ _)
  rw [← hm33]
  refine x_dup (by decide : (15 : Int) ≠ 2) dX4_init_51 (?_ : Ex _ _ 52 _ _ _ _ _)
  obtain ⟨v34, m35, g36, h⟩ := cal_some h
  refine cN0 (e_X5_init (d + 1) g36) (contV (?_ : Ex _ _ 55 _ _ _ _ _)) og_X5_init rfl nl_RX4_37 rfl rfl (by decide) c31 im_X5_init (Nat.le_of_ble_eq_true rfl) dX4_init_52
  obtain ⟨m37, hm37, h⟩ := st_some h
  refine pt_4_7  c1 fl_RX4_38 dX4_init_55 (?_ : Ex _ _ 58 _ _ _ _ _)
  rw [← hm37]
  refine x_iconst dX4_init_58 rfl (by decide) (?_ : Ex _ _ 59 _ _ _ _ _)
  refine x_istore_n (ls2 := [(14, l0), (0, 0)]) dX4_init_59 rfl (Nat.le_of_ble_eq_true rfl) rfl (?_ : Ex _ _ 60 _ _ _ _ _)
  exact e_X4_init_60 d fuel9 h
theorem e_X4_init (d : Nat) {a0 : Int} {m : Mem} {v : Int} {m' : Mem} (h : X4_init a0 m = some (v, m')) : ExM (d + 2) fm_X4_init [(14, a0)] m (.inl (3, 0)) m' := by
  exact ExM.of (by decide +kernel) (Nat.le_of_ble_eq_true rfl) (cat9 rfl) retV (e_X4_init_0 d h)
theorem dX4_isOver_0 : decode cX4_isOver 0 = .ok (.aload_n 0, 1) := by decide +kernel
theorem dX4_isOver_1 : decode cX4_isOver 1 = .ok (.getfield 43, 3) := by decide +kernel
theorem dX4_isOver_4 : decode cX4_isOver 4 = .ok (.iconst 4, 1) := by decide +kernel
theorem dX4_isOver_5 : decode cX4_isOver 5 = .ok (.if_icmp .ne 7, 3) := by decide +kernel
theorem dX4_isOver_8 : decode cX4_isOver 8 = .ok (.iconst 1, 1) := by decide +kernel
theorem dX4_isOver_9 : decode cX4_isOver 9 = .ok (.goto 4, 3) := by decide +kernel
theorem dX4_isOver_12 : decode cX4_isOver 12 = .ok (.iconst 0, 1) := by decide +kernel
theorem dX4_isOver_13 : decode cX4_isOver 13 = .ok (.ireturn, 1) := by decide +kernel
theorem e_X4_isOver_0 (d : Nat) {l0 : Int} {m : Mem} {v : Int} {m' : Mem} (h : X4_isOver_0 l0 m = some (v, m')) : Ex d fm_X4_isOver 0 [(14, l0)] [] m (.inl (0, v)) m' := by
  unfold X4_isOver_0 at h
  refine x_aload_n dX4_isOver_0 rfl rfl (Or.inr (by decide)) (?_ : Ex _ _ 1 _ _ _ _ _)
  obtain ⟨c1, h⟩ := chk_some h
  refine gt_4_9 c1 fl_RX4_43 dX4_isOver_1 (?_ : Ex _ _ 4 _ _ _ _ _)
  refine x_iconst dX4_isOver_4 rfl (by decide) (?_ : Ex _ _ 5 _ _ _ _ _)
  rcases ite_some h with ⟨b2, h⟩ | ⟨b2, h⟩
  · refine x_icmp_neN dX4_isOver_5 (by decide) (fun hh => hh b2) (?_ : Ex _ _ 8 _ _ _ _ _)
    refine x_iconst dX4_isOver_8 rfl (by decide) (?_ : Ex _ _ 9 _ _ _ _ _)
    refine x_goto (tgt := 13) dX4_isOver_9 rfl (?_ : Ex _ _ 13 _ _ _ _ _)
    cases h
    exact x_ret dX4_isOver_13 (by decide : (0 : Int) ≠ 3)
  · refine x_icmp_ne (tgt := 12) dX4_isOver_5 rfl b2 (?_ : Ex _ _ 12 _ _ _ _ _)
    refine x_iconst dX4_isOver_12 rfl (by decide) (?_ : Ex _ _ 13 _ _ _ _ _)
    cases h
    exact x_ret dX4_isOver_13 (by decide : (0 : Int) ≠ 3)
theorem e_X4_isOver (d : Nat) {a0 : Int} {m : Mem} {v : Int} {m' : Mem} (h : X4_isOver a0 m = some (v, m')) : ExM d fm_X4_isOver [(14, a0)] m (.inl (0, v)) m' := by
  obtain ⟨hb, h⟩ := boolR_some h
  exact ExM.of (by decide +kernel) (Nat.le_of_ble_eq_true rfl) (cat9 rfl) (retZ hb) (e_X4_isOver_0 d h)
theorem dX4_waitingPlace_0 : decode cX4_waitingPlace 0 = .ok (.aload_n 0, 1) := by decide +kernel
theorem dX4_waitingPlace_1 : decode cX4_waitingPlace 1 = .ok (.getfield 43, 3) := by decide +kernel
theorem dX4_waitingPlace_4 : decode cX4_waitingPlace 4 = .ok (.iconst 1, 1) := by decide +kernel
theorem dX4_waitingPlace_5 : decode cX4_waitingPlace 5 = .ok (.if_icmp .ne 10, 3) := by decide +kernel
theorem dX4_waitingPlace_8 : decode cX4_waitingPlace 8 = .ok (.aload_n 0, 1) := by decide +kernel
theorem dX4_waitingPlace_9 : decode cX4_waitingPlace 9 = .ok (.getfield 47, 3) := by decide +kernel
theorem dX4_waitingPlace_12 : decode cX4_waitingPlace 12 = .ok (.goto 4, 3) := by decide +kernel
theorem dX4_waitingPlace_15 : decode cX4_waitingPlace 15 = .ok (.iconst (-1), 1) := by decide +kernel
theorem dX4_waitingPlace_16 : decode cX4_waitingPlace 16 = .ok (.ireturn, 1) := by decide +kernel
theorem e_X4_waitingPlace_0 (d : Nat) {l0 : Int} {m : Mem} {v : Int} {m' : Mem} (h : X4_waitingPlace_0 l0 m = some (v, m')) : Ex d fm_X4_waitingPlace 0 [(14, l0)] [] m (.inl (0, v)) m' := by
  unfold X4_waitingPlace_0 at h
  refine x_aload_n dX4_waitingPlace_0 rfl rfl (Or.inr (by decide)) (?_ : Ex _ _ 1 _ _ _ _ _)
  obtain ⟨c1, h⟩ := chk_some h
  refine gt_4_9 c1 fl_RX4_43 dX4_waitingPlace_1 (?_ : Ex _ _ 4 _ _ _ _ _)
  refine x_iconst dX4_waitingPlace_4 rfl (by decide) (?_ : Ex _ _ 5 _ _ _ _ _)
  rcases ite_some h with ⟨b2, h⟩ | ⟨b2, h⟩
  · refine x_icmp_neN dX4_waitingPlace_5 (by decide) (fun hh => hh b2) (?_ : Ex _ _ 8 _ _ _ _ _)
    refine x_aload_n dX4_waitingPlace_8 rfl rfl (Or.inr (by decide)) (?_ : Ex _ _ 9 _ _ _ _ _)
    refine gt_4_10 c1 fl_RX4_47 dX4_waitingPlace_9 (?_ : Ex _ _ 12 _ _ _ _ _)
    refine x_goto (tgt := 16) dX4_waitingPlace_12 rfl (?_ : Ex _ _ 16 _ _ _ _ _)
    cases h
    exact x_ret dX4_waitingPlace_16 (by decide : (0 : Int) ≠ 3)
  · refine x_icmp_ne (tgt := 15) dX4_waitingPlace_5 rfl b2 (?_ : Ex _ _ 15 _ _ _ _ _)
    refine x_iconst dX4_waitingPlace_15 rfl (by decide) (?_ : Ex _ _ 16 _ _ _ _ _)
    cases h
    exact x_ret dX4_waitingPlace_16 (by decide : (0 : Int) ≠ 3)
theorem e_X4_waitingPlace (d : Nat) {a0 : Int} {m : Mem} {v : Int} {m' : Mem} (h : X4_waitingPlace a0 m = some (v, m')) : ExM d fm_X4_waitingPlace [(14, a0)] m (.inl (0, v)) m' := by
  exact ExM.of (by decide +kernel) (Nat.le_of_ble_eq_true rfl) (cat9 rfl) retI (e_X4_waitingPlace_0 d h)
theorem dX4_begin_0 : decode cX4_begin 0 = .ok (.aload_n 0, 1) := by decide +kernel
theorem dX4_begin_1 : decode cX4_begin 1 = .ok (.aload_n 1, 1) := by decide +kernel
theorem dX4_begin_2 : decode cX4_begin 2 = .ok (.putfield 38, 3) := by decide +kernel
theorem dX4_begin_5 : decode cX4_begin 5 = .ok (.aload_n 0, 1) := by decide +kernel
theorem dX4_begin_6 : decode cX4_begin 6 = .ok (.iload_n 3, 1) := by decide +kernel
theorem dX4_begin_7 : decode cX4_begin 7 = .ok (.putfield 88, 3) := by decide +kernel
theorem dX4_begin_10 : decode cX4_begin 10 = .ok (.aload_n 0, 1) := by decide +kernel
theorem dX4_begin_11 : decode cX4_begin 11 = .ok (.getfield 12, 3) := by decide +kernel
theorem dX4_begin_14 : decode cX4_begin 14 = .ok (.aload_n 2, 1) := by decide +kernel
theorem dX4_begin_15 : decode cX4_begin 15 = .ok (.invokevirtual 91, 3) := by decide +kernel
theorem dX4_begin_18 : decode cX4_begin 18 = .ok (.iconst 0, 1) := by decide +kernel
theorem dX4_begin_19 : decode cX4_begin 19 = .ok (.istore 4, 2) := by decide +kernel
theorem dX4_begin_21 : decode cX4_begin 21 = .ok (.iload 4, 2) := by decide +kernel
theorem dX4_begin_23 : decode cX4_begin 23 = .ok (.bipush 80, 2) := by decide +kernel
theorem dX4_begin_25 : decode cX4_begin 25 = .ok (.if_icmp .ge 17, 3) := by decide +kernel
theorem dX4_begin_28 : decode cX4_begin 28 = .ok (.aload_n 0, 1) := by decide +kernel
theorem dX4_begin_29 : decode cX4_begin 29 = .ok (.getfield 18, 3) := by decide +kernel
theorem dX4_begin_32 : decode cX4_begin 32 = .ok (.iload 4, 2) := by decide +kernel
theorem dX4_begin_34 : decode cX4_begin 34 = .ok (.iconst 0, 1) := by decide +kernel
theorem dX4_begin_35 : decode cX4_begin 35 = .ok (.bastore, 1) := by decide +kernel
theorem dX4_begin_36 : decode cX4_begin 36 = .ok (.iinc 4 1, 3) := by decide +kernel
theorem dX4_begin_39 : decode cX4_begin 39 = .ok (.goto (-18), 3) := by decide +kernel
theorem dX4_begin_42 : decode cX4_begin 42 = .ok (.aload_n 0, 1) := by decide +kernel
theorem dX4_begin_43 : decode cX4_begin 43 = .ok (.iconst 0, 1) := by decide +kernel
theorem dX4_begin_44 : decode cX4_begin 44 = .ok (.putfield 94, 3) := by decide +kernel
theorem dX4_begin_47 : decode cX4_begin 47 = .ok (.aload_n 0, 1) := by decide +kernel
theorem dX4_begin_48 : decode cX4_begin 48 = .ok (.iconst 0, 1) := by decide +kernel
theorem dX4_begin_49 : decode cX4_begin 49 = .ok (.putfield 97, 3) := by decide +kernel
theorem dX4_begin_52 : decode cX4_begin 52 = .ok (.aload_n 0, 1) := by decide +kernel
theorem dX4_begin_53 : decode cX4_begin 53 = .ok (.iconst 0, 1) := by decide +kernel
theorem dX4_begin_54 : decode cX4_begin 54 = .ok (.putfield 43, 3) := by decide +kernel
theorem dX4_begin_57 : decode cX4_begin 57 = .ok (.aload_n 0, 1) := by decide +kernel
theorem dX4_begin_58 : decode cX4_begin 58 = .ok (.iconst 0, 1) := by decide +kernel
theorem dX4_begin_59 : decode cX4_begin 59 = .ok (.putfield 47, 3) := by decide +kernel
theorem dX4_begin_62 : decode cX4_begin 62 = .ok (.aload_n 0, 1) := by decide +kernel
theorem dX4_begin_63 : decode cX4_begin 63 = .ok (.iconst 0, 1) := by decide +kernel
theorem dX4_begin_64 : decode cX4_begin 64 = .ok (.putfield 100, 3) := by decide +kernel
theorem dX4_begin_67 : decode cX4_begin 67 = .ok (.aload_n 0, 1) := by decide +kernel
theorem dX4_begin_68 : decode cX4_begin 68 = .ok (.iconst 0, 1) := by decide +kernel
theorem dX4_begin_69 : decode cX4_begin 69 = .ok (.putfield 103, 3) := by decide +kernel
theorem dX4_begin_72 : decode cX4_begin 72 = .ok (.aload_n 0, 1) := by decide +kernel
theorem dX4_begin_73 : decode cX4_begin 73 = .ok (.iconst 0, 1) := by decide +kernel
theorem dX4_begin_74 : decode cX4_begin 74 = .ok (.putfield 106, 3) := by decide +kernel
theorem dX4_begin_77 : decode cX4_begin 77 = .ok (.aload_n 0, 1) := by decide +kernel
theorem dX4_begin_78 : decode cX4_begin 78 = .ok (.iconst 0, 1) := by decide +kernel
theorem dX4_begin_79 : decode cX4_begin 79 = .ok (.putfield 109, 3) := by decide +kernel
theorem dX4_begin_82 : decode cX4_begin 82 = .ok (.aload_n 0, 1) := by decide +kernel
theorem dX4_begin_83 : decode cX4_begin 83 = .ok (.iconst 0, 1) := by decide +kernel
theorem dX4_begin_84 : decode cX4_begin 84 = .ok (.putfield 112, 3) := by decide +kernel
theorem dX4_begin_87 : decode cX4_begin 87 = .ok (.aload_n 0, 1) := by decide +kernel
theorem dX4_begin_88 : decode cX4_begin 88 = .ok (.iconst 0, 1) := by decide +kernel
theorem dX4_begin_89 : decode cX4_begin 89 = .ok (.putfield 115, 3) := by decide +kernel
theorem dX4_begin_92 : decode cX4_begin 92 = .ok (.aload_n 0, 1) := by decide +kernel
theorem dX4_begin_93 : decode cX4_begin 93 = .ok (.iconst (-1), 1) := by decide +kernel
theorem dX4_begin_94 : decode cX4_begin 94 = .ok (.putfield 118, 3) := by decide +kernel
theorem dX4_begin_97 : decode cX4_begin 97 = .ok (.aload_n 0, 1) := by decide +kernel
theorem dX4_begin_98 : decode cX4_begin 98 = .ok (.iconst 0, 1) := by decide +kernel
theorem dX4_begin_99 : decode cX4_begin 99 = .ok (.putfield 121, 3) := by decide +kernel
theorem dX4_begin_102 : decode cX4_begin 102 = .ok (.aload_n 0, 1) := by decide +kernel
theorem dX4_begin_103 : decode cX4_begin 103 = .ok (.iconst 0, 1) := by decide +kernel
theorem dX4_begin_104 : decode cX4_begin 104 = .ok (.putfield 72, 3) := by decide +kernel
theorem dX4_begin_107 : decode cX4_begin 107 = .ok (.return_, 1) := by decide +kernel
theorem e_X4_begin_42 (d : Nat) {l0 : Int} {m : Mem} {v : Int} {m' : Mem} (h : X4_begin_42 l0 m = some (v, m')) : Ex (d + 2) fm_X4_begin 42 [(14, l0), (3, 0), (3, 0), (3, 0), (3, 0)] [] m (.inl (3, 0)) m' := by
  unfold X4_begin_42 at h
  refine x_aload_n dX4_begin_42 rfl rfl (Or.inr (by decide)) (?_ : Ex _ _ 43 _ _ _ _ _)
  refine x_iconst dX4_begin_43 rfl (by decide) (?_ : Ex _ _ 44 _ _ _ _ _)
  obtain ⟨c1, h⟩ := chk_some h
  obtain ⟨m2, hm2, h⟩ := st_some h
  refine pt_4_2  c1 fl_RX4_94 dX4_begin_44 (?_ : Ex _ _ 47 _ _ _ _ _)
  rw [← hm2]
  refine x_aload_n dX4_begin_47 rfl rfl (Or.inr (by decide)) (?_ : Ex _ _ 48 _ _ _ _ _)
  refine x_iconst dX4_begin_48 rfl (by decide) (?_ : Ex _ _ 49 _ _ _ _ _)
  obtain ⟨m3, hm3, h⟩ := st_some h
  refine pt_4_6  c1 fl_RX4_97 dX4_begin_49 (?_ : Ex _ _ 52 _ _ _ _ _)
  rw [← hm3]
  refine x_aload_n dX4_begin_52 rfl rfl (Or.inr (by decide)) (?_ : Ex _ _ 53 _ _ _ _ _)
  refine x_iconst dX4_begin_53 rfl (by decide) (?_ : Ex _ _ 54 _ _ _ _ _)
  obtain ⟨m4, hm4, h⟩ := st_some h
  refine pt_4_9  c1 fl_RX4_43 dX4_begin_54 (?_ : Ex _ _ 57 _ _ _ _ _)
  rw [← hm4]
  refine x_aload_n dX4_begin_57 rfl rfl (Or.inr (by decide)) (?_ : Ex _ _ 58 _ _ _ _ _)
  refine x_iconst dX4_begin_58 rfl (by decide) (?_ : Ex _ _ 59 _ _ _ _ _)
  obtain ⟨m5, hm5, h⟩ := st_some h
  refine pt_4_10  c1 fl_RX4_47 dX4_begin_59 (?_ : Ex _ _ 62 _ _ _ _ _)
  rw [← hm5]
  refine x_aload_n dX4_begin_62 rfl rfl (Or.inr (by decide)) (?_ : Ex _ _ 63 _ _ _ _ _)
  refine x_iconst dX4_begin_63 rfl (by decide) (?_ : Ex _ _ 64 _ _ _ _ _)
  obtain ⟨m6, hm6, h⟩ := st_some h
  refine pt_4_11  c1 fl_RX4_100 dX4_begin_64 (?_ : Ex _ _ 67 _ _ _ _ _)
  rw [← hm6]
  refine x_aload_n dX4_begin_67 rfl rfl (Or.inr (by decide)) (?_ : Ex _ _ 68 _ _ _ _ _)
  refine x_iconst dX4_begin_68 rfl (by decide) (?_ : Ex _ _ 69 _ _ _ _ _)
  obtain ⟨m7, hm7, h⟩ := st_some h
  refine pt_4_12  c1 fl_RX4_103 dX4_begin_69 (?_ : Ex _ _ 72 _ _ _ _ _)
  rw [← hm7]
  refine x_aload_n dX4_begin_72 rfl rfl (Or.inr (by decide)) (?_ : Ex _ _ 73 _ _ _ _ _)
  refine x_iconst dX4_begin_73 rfl (by decide) (?_ : Ex _ _ 74 _ _ _ _ _)
  obtain ⟨m8, hm8, h⟩ := st_some h
  refine pt_4_13  c1 fl_RX4_106 dX4_begin_74 (?_ : Ex _ _ 77 _ _ _ _ _)
  rw [← hm8]
  refine x_aload_n dX4_begin_77 rfl rfl (Or.inr (by decide)) (?_ : Ex _ _ 78 _ _ _ _ _)
  refine x_iconst dX4_begin_78 rfl (by decide) (?_ : Ex _ _ 79 _ _ _ _ _)
  obtain ⟨m9, hm9, h⟩ := st_some h
  refine pt_4_14  c1 (by decide) fl_RX4_109 dX4_begin_79 (?_ : Ex _ _ 82 _ _ _ _ _)
  rw [← hm9]
  refine x_aload_n dX4_begin_82 rfl rfl (Or.inr (by decide)) (?_ : Ex _ _ 83 _ _ _ _ _)
  refine x_iconst dX4_begin_83 rfl (by decide) (?_ : Ex _ _ 84 _ _ _ _ _)
  obtain ⟨m10, hm10, h⟩ := st_some h
  refine pt_4_15  c1 (by decide) fl_RX4_112 dX4_begin_84 (?_ : Ex _ _ 87 _ _ _ _ _)
  rw [← hm10]
  refine x_aload_n dX4_begin_87 rfl rfl (Or.inr (by decide)) (?_ : Ex _ _ 88 _ _ _ _ _)
  refine x_iconst dX4_begin_88 rfl (by decide) (?_ : Ex _ _ 89 _ _ _ _ _)
  obtain ⟨m11, hm11, h⟩ := st_some h
  refine pt_4_16  c1 fl_RX4_115 dX4_begin_89 (?_ : Ex _ _ 92 _ _ _ _ _)
  rw [← hm11]
  refine x_aload_n dX4_begin_92 rfl rfl (Or.inr (by decide)) (?_ : Ex _ _ 93 _ _ _ _ _)
  refine x_iconst dX4_begin_93 rfl (by decide) (?_ : Ex _ _ 94 _ _ _ _ _)
  obtain ⟨m12, hm12, h⟩ := st_some h
  refine pt_4_17  c1 fl_RX4_118 dX4_begin_94 (?_ : Ex _ _ 97 _ _ _ _ _)
  rw [← hm12]
  refine x_aload_n dX4_begin_97 rfl rfl (Or.inr (by decide)) (?_ : Ex _ _ 98 _ _ _ _ _)
  refine x_iconst dX4_begin_98 rfl (by decide) (?_ : Ex _ _ 99 _ _ _ _ _)
  obtain ⟨m13, hm13, h⟩ := st_some h
  refine pt_4_18  c1 fl_RX4_121 dX4_begin_99 (?_ : Ex _ _ 102 _ _ _ _ _)
  rw [← hm13]
  refine x_aload_n dX4_begin_102 rfl rfl (Or.inr (by decide)) (?_ : Ex _ _ 103 _ _ _ _ _)
  refine x_iconst dX4_begin_103 rfl (by decide) (?_ : Ex _ _ 104 _ _ _ _ _)
  obtain ⟨m14, hm14, h⟩ := st_some h
  refine pt_4_19  c1 fl_RX4_72 dX4_begin_104 (?_ : Ex _ _ 107 _ _ _ _ _)
  rw [← hm14]
  cases h
  exact x_retv dX4_begin_107
theorem e_X4_begin_21 (d : Nat) {k42 : Int → Mem → Option R2} (hk42 : ∀ {l0 : Int} {m : Mem} {v : Int} {m' : Mem}, k42 l0 m = some (v, m') → Ex (d + 2) fm_X4_begin 42 [(14, l0), (3, 0), (3, 0), (3, 0), (3, 0)] [] m (.inl (3, 0)) m') : ∀ (n : Nat) {l0 l4 : Int} {m : Mem} {v : Int} {m' : Mem}, X4_begin_21 k42 n l0 l4 m = some (v, m') → Ex (d + 2) fm_X4_begin 21 [(14, l0), (3, 0), (3, 0), (3, 0), (0, l4)] [] m (.inl (3, 0)) m' := by
  intro n
  induction n with
  | zero =>
    intro l0 l4 m v m' h
    have h : (none : Option R2) = some _ := h
    cases h
  | succ n ih =>
    intro l0 l4 m v m' h
    rw [X4_begin_21] at h
    refine x_iload dX4_begin_21 rfl (?_ : Ex _ _ 23 _ _ _ _ _)
    refine x_bipush dX4_begin_23 kb_80 (by decide) (?_ : Ex _ _ 25 _ _ _ _ _)
    rcases ite_some h with ⟨b1, h⟩ | ⟨b1, h⟩
    · refine x_icmp_ge (tgt := 42) dX4_begin_25 rfl b1 (?_ : Ex _ _ 42 _ _ _ _ _)
      refine Ex.wk (ls2 := [(14, l0), (3, 0), (3, 0), (3, 0), (3, 0)]) ⟨Or.inr rfl, Or.inl rfl, Or.inl rfl, Or.inl rfl, Or.inl rfl, trivial⟩ ?_
      exact hk42 h
    · refine x_icmp_geN dX4_begin_25 (by decide) b1 (?_ : Ex _ _ 28 _ _ _ _ _)
      refine x_aload_n dX4_begin_28 rfl rfl (Or.inr (by decide)) (?_ : Ex _ _ 29 _ _ _ _ _)
      obtain ⟨c2, h⟩ := chk_some h
      refine gt_4_1 c2 fl_RX4_18 dX4_begin_29 (?_ : Ex _ _ 32 _ _ _ _ _)
      refine x_iload dX4_begin_32 rfl (?_ : Ex _ _ 34 _ _ _ _ _)
      refine x_iconst dX4_begin_34 rfl (by decide) (?_ : Ex _ _ 35 _ _ _ _ _)
      obtain ⟨⟨c3, c4, c5⟩, h⟩ := chk_some h
      obtain ⟨m6, hm6, h⟩ := st_some h
      refine sd_b_80 c3 c4 c5 (by decide) dX4_begin_35 (?_ : Ex _ _ 36 _ _ _ _ _)
      rw [← hm6]
      obtain ⟨c7, h⟩ := chk_some h
      refine x_iinc (ls2 := [(14, l0), (3, 0), (3, 0), (3, 0), (0, (l4 + 1))]) dX4_begin_36 rfl c7 rfl (?_ : Ex _ _ 39 _ _ _ _ _)
      refine x_goto (tgt := 21) dX4_begin_39 rfl (?_ : Ex _ _ 21 _ _ _ _ _)
      exact ih h
theorem e_X4_begin_0 (d : Nat) {l0 l1 l2 l3 : Int} {m : Mem} {v : Int} {m' : Mem} (h : X4_begin_0 l0 l1 l2 l3 m = some (v, m')) : Ex (d + 2) fm_X4_begin 0 [(14, l0), (15, l1), (13, l2), (0, l3), (3, 0)] [] m (.inl (3, 0)) m' := by
  unfold X4_begin_0 at h
  refine x_aload_n dX4_begin_0 rfl rfl (Or.inr (by decide)) (?_ : Ex _ _ 1 _ _ _ _ _)
  refine x_aload_n dX4_begin_1 rfl rfl (Or.inr (by decide)) (?_ : Ex _ _ 2 _ _ _ _ _)
  obtain ⟨c1, h⟩ := chk_some h
  obtain ⟨m2, hm2, h⟩ := st_some h
  refine pt_4_7  c1 fl_RX4_38 dX4_begin_2 (?_ : Ex _ _ 5 _ _ _ _ _)
  rw [← hm2]
  refine x_aload_n dX4_begin_5 rfl rfl (Or.inr (by decide)) (?_ : Ex _ _ 6 _ _ _ _ _)
  refine x_iload_n dX4_begin_6 rfl rfl (?_ : Ex _ _ 7 _ _ _ _ _)
  obtain ⟨m3, hm3, h⟩ := st_some h
  refine pt_4_8  c1 fl_RX4_88 dX4_begin_7 (?_ : Ex _ _ 10 _ _ _ _ _)
  rw [← hm3]
  refine x_aload_n dX4_begin_10 rfl rfl (Or.inr (by decide)) (?_ : Ex _ _ 11 _ _ _ _ _)
  refine gt_4_0 c1 fl_RX4_12 dX4_begin_11 (?_ : Ex _ _ 14 _ _ _ _ _)
  refine x_aload_n dX4_begin_14 rfl rfl (Or.inr (by decide)) (?_ : Ex _ _ 15 _ _ _ _ _)
  obtain ⟨c4, h⟩ := chk_some h
  obtain ⟨v5, m6, g7, h⟩ := cal_some h
  refine cV1 (e_X1_begin d g7) (contV (?_ : Ex _ _ 18 _ _ _ _ _)) og_X1_begin rfl ml_RX4_91 1 rfl rfl c4 im_X1_begin se_X1_begin (Nat.le_of_ble_eq_true rfl) dX4_begin_15
  refine x_iconst dX4_begin_18 rfl (by decide) (?_ : Ex _ _ 19 _ _ _ _ _)
  refine x_istore (ls2 := [(14, l0), (15, l1), (13, l2), (0, l3), (0, 0)]) dX4_begin_19 (Nat.le_of_ble_eq_true rfl) rfl (?_ : Ex _ _ 21 _ _ _ _ _)
  refine Ex.wk (ls2 := [(14, l0), (3, 0), (3, 0), (3, 0), (0, 0)]) ⟨Or.inr rfl, Or.inl rfl, Or.inl rfl, Or.inl rfl, Or.inr rfl, trivial⟩ ?_
  exact e_X4_begin_21 d (fun h => e_X4_begin_42 d h) fuel9 h
theorem e_X4_begin (d : Nat) {a0 a1 a2 a3 : Int} {m : Mem} {v : Int} {m' : Mem} (h : X4_begin a0 a1 a2 a3 m = some (v, m')) : ExM (d + 2) fm_X4_begin [(14, a0), (15, a1), (13, a2), (0, a3)] m (.inl (3, 0)) m' := by
  exact ExM.of (by decide +kernel) (Nat.le_of_ble_eq_true rfl) (cat9 rfl) retV (e_X4_begin_0 d h)
theorem dX8_become_0 : decode cX8_become 0 = .ok (.aload_n 0, 1) := by decide +kernel
theorem dX8_become_1 : decode cX8_become 1 = .ok (.iload_n 1, 1) := by decide +kernel
theorem dX8_become_2 : decode cX8_become 2 = .ok (.putfield 27, 3) := by decide +kernel
theorem dX8_become_5 : decode cX8_become 5 = .ok (.aload_n 0, 1) := by decide +kernel
theorem dX8_become_6 : decode cX8_become 6 = .ok (.iconst 1, 1) := by decide +kernel
theorem dX8_become_7 : decode cX8_become 7 = .ok (.putfield 30, 3) := by decide +kernel
theorem dX8_become_10 : decode cX8_become 10 = .ok (.aload_n 0, 1) := by decide +kernel
theorem dX8_become_11 : decode cX8_become 11 = .ok (.iload_n 2, 1) := by decide +kernel
theorem dX8_become_12 : decode cX8_become 12 = .ok (.putfield 34, 3) := by decide +kernel
theorem dX8_become_15 : decode cX8_become 15 = .ok (.return_, 1) := by decide +kernel
theorem e_X8_become_0 (d : Nat) {l0 l1 l2 : Int} {m : Mem} {v : Int} {m' : Mem} (h : X8_become_0 l0 l1 l2 m = some (v, m')) : Ex d fm_X8_become 0 [(18, l0), (0, l1), (0, l2)] [] m (.inl (3, 0)) m' := by
  unfold X8_become_0 at h
  refine x_aload_n dX8_become_0 rfl rfl (Or.inr (by decide)) (?_ : Ex _ _ 1 _ _ _ _ _)
  refine x_iload_n dX8_become_1 rfl rfl (?_ : Ex _ _ 2 _ _ _ _ _)
  obtain ⟨c1, h⟩ := chk_some h
  obtain ⟨m2, hm2, h⟩ := st_some h
  refine pt_8_5  c1 fl_RX8_27 dX8_become_2 (?_ : Ex _ _ 5 _ _ _ _ _)
  rw [← hm2]
  refine x_aload_n dX8_become_5 rfl rfl (Or.inr (by decide)) (?_ : Ex _ _ 6 _ _ _ _ _)
  refine x_iconst dX8_become_6 rfl (by decide) (?_ : Ex _ _ 7 _ _ _ _ _)
  obtain ⟨m3, hm3, h⟩ := st_some h
  refine pt_8_6  c1 (by decide) fl_RX8_30 dX8_become_7 (?_ : Ex _ _ 10 _ _ _ _ _)
  rw [← hm3]
  refine x_aload_n dX8_become_10 rfl rfl (Or.inr (by decide)) (?_ : Ex _ _ 11 _ _ _ _ _)
  refine x_iload_n dX8_become_11 rfl rfl (?_ : Ex _ _ 12 _ _ _ _ _)
  obtain ⟨c4, h⟩ := chk_some h
  obtain ⟨m5, hm5, h⟩ := st_some h
  refine pt_8_7  c1 c4 fl_RX8_34 dX8_become_12 (?_ : Ex _ _ 15 _ _ _ _ _)
  rw [← hm5]
  cases h
  exact x_retv dX8_become_15
theorem e_X8_become (d : Nat) {a0 a1 a2 : Int} {m : Mem} {v : Int} {m' : Mem} (h : X8_become a0 a1 a2 m = some (v, m')) : ExM d fm_X8_become [(18, a0), (0, a1), (0, a2)] m (.inl (3, 0)) m' := by
  exact ExM.of (by decide +kernel) (Nat.le_of_ble_eq_true rfl) (cat9 rfl) retV (e_X8_become_0 d h)
theorem dX4_hearActivity_0 : decode cX4_hearActivity 0 = .ok (.aload_n 0, 1) := by decide +kernel
theorem dX4_hearActivity_1 : decode cX4_hearActivity 1 = .ok (.getfield 43, 3) := by decide +kernel
theorem dX4_hearActivity_4 : decode cX4_hearActivity 4 = .ok (.iconst 3, 1) := by decide +kernel
theorem dX4_hearActivity_5 : decode cX4_hearActivity 5 = .ok (.if_icmp .ne 16, 3) := by decide +kernel
theorem dX4_hearActivity_8 : decode cX4_hearActivity 8 = .ok (.iload_n 1, 1) := by decide +kernel
theorem dX4_hearActivity_9 : decode cX4_hearActivity 9 = .ok (.aload_n 0, 1) := by decide +kernel
theorem dX4_hearActivity_10 : decode cX4_hearActivity 10 = .ok (.getfield 118, 3) := by decide +kernel
theorem dX4_hearActivity_13 : decode cX4_hearActivity 13 = .ok (.if_icmp .ne 8, 3) := by decide +kernel
theorem dX4_hearActivity_16 : decode cX4_hearActivity 16 = .ok (.aload_n 0, 1) := by decide +kernel
theorem dX4_hearActivity_17 : decode cX4_hearActivity 17 = .ok (.iconst 2, 1) := by decide +kernel
theorem dX4_hearActivity_18 : decode cX4_hearActivity 18 = .ok (.putfield 43, 3) := by decide +kernel
theorem dX4_hearActivity_21 : decode cX4_hearActivity 21 = .ok (.iconst 0, 1) := by decide +kernel
theorem dX4_hearActivity_22 : decode cX4_hearActivity 22 = .ok (.istore 4, 2) := by decide +kernel
theorem dX4_hearActivity_24 : decode cX4_hearActivity 24 = .ok (.iload 4, 2) := by decide +kernel
theorem dX4_hearActivity_26 : decode cX4_hearActivity 26 = .ok (.aload_n 0, 1) := by decide +kernel
theorem dX4_hearActivity_27 : decode cX4_hearActivity 27 = .ok (.getfield 103, 3) := by decide +kernel
theorem dX4_hearActivity_30 : decode cX4_hearActivity 30 = .ok (.if_icmp .ge 35, 3) := by decide +kernel
theorem dX4_hearActivity_33 : decode cX4_hearActivity 33 = .ok (.aload_n 0, 1) := by decide +kernel
theorem dX4_hearActivity_34 : decode cX4_hearActivity 34 = .ok (.getfield 24, 3) := by decide +kernel
theorem dX4_hearActivity_37 : decode cX4_hearActivity 37 = .ok (.iload 4, 2) := by decide +kernel
theorem dX4_hearActivity_39 : decode cX4_hearActivity 39 = .ok (.aaload, 1) := by decide +kernel
theorem dX4_hearActivity_40 : decode cX4_hearActivity 40 = .ok (.getfield 142, 3) := by decide +kernel
theorem dX4_hearActivity_43 : decode cX4_hearActivity 43 = .ok (.iload_n 1, 1) := by decide +kernel
theorem dX4_hearActivity_44 : decode cX4_hearActivity 44 = .ok (.if_icmp .ne 15, 3) := by decide +kernel
theorem dX4_hearActivity_47 : decode cX4_hearActivity 47 = .ok (.aload_n 0, 1) := by decide +kernel
theorem dX4_hearActivity_48 : decode cX4_hearActivity 48 = .ok (.getfield 24, 3) := by decide +kernel
theorem dX4_hearActivity_51 : decode cX4_hearActivity 51 = .ok (.iload 4, 2) := by decide +kernel
theorem dX4_hearActivity_53 : decode cX4_hearActivity 53 = .ok (.aaload, 1) := by decide +kernel
theorem dX4_hearActivity_54 : decode cX4_hearActivity 54 = .ok (.iload_n 2, 1) := by decide +kernel
theorem dX4_hearActivity_55 : decode cX4_hearActivity 55 = .ok (.iload_n 3, 1) := by decide +kernel
theorem dX4_hearActivity_56 : decode cX4_hearActivity 56 = .ok (.invokevirtual 145, 3) := by decide +kernel
theorem dX4_hearActivity_59 : decode cX4_hearActivity 59 = .ok (.iinc 4 1, 3) := by decide +kernel
theorem dX4_hearActivity_62 : decode cX4_hearActivity 62 = .ok (.goto (-38), 3) := by decide +kernel
theorem dX4_hearActivity_65 : decode cX4_hearActivity 65 = .ok (.return_, 1) := by decide +kernel
theorem e_X4_hearActivity_24 (d : Nat) : ∀ (n : Nat) {l0 l1 l2 l3 l4 : Int} {m : Mem} {v : Int} {m' : Mem}, X4_hearActivity_24 n l0 l1 l2 l3 l4 m = some (v, m') → Ex (d + 1) fm_X4_hearActivity 24 [(14, l0), (0, l1), (0, l2), (0, l3), (0, l4)] [] m (.inl (3, 0)) m' := by
  intro n
  induction n with
  | zero =>
    intro l0 l1 l2 l3 l4 m v m' h
    have h : (none : Option R2) = some _ := h
    cases h
  | succ n ih =>
    intro l0 l1 l2 l3 l4 m v m' h
    rw [X4_hearActivity_24] at h
    refine x_iload dX4_hearActivity_24 rfl (?_ : Ex _ _ 26 _ _ _ _ _)
    refine x_aload_n dX4_hearActivity_26 rfl rfl (Or.inr (by decide)) (?_ : Ex _ _ 27 _ _ _ _ _)
    obtain ⟨c1, h⟩ := chk_some h
    refine gt_4_12 c1 fl_RX4_103 dX4_hearActivity_27 (?_ : Ex _ _ 30 _ _ _ _ _)
    rcases ite_some h with ⟨b2, h⟩ | ⟨b2, h⟩
    · refine x_icmp_ge (tgt := 65) dX4_hearActivity_30 rfl b2 (?_ : Ex _ _ 65 _ _ _ _ _)
      cases h
      exact x_retv dX4_hearActivity_65
    · refine x_icmp_geN dX4_hearActivity_30 (by decide) b2 (?_ : Ex _ _ 33 _ _ _ _ _)
      refine x_aload_n dX4_hearActivity_33 rfl rfl (Or.inr (by decide)) (?_ : Ex _ _ 34 _ _ _ _ _)
      refine gt_4_3 c1 fl_RX4_24 dX4_hearActivity_34 (?_ : Ex _ _ 37 _ _ _ _ _)
      refine x_iload dX4_hearActivity_37 rfl (?_ : Ex _ _ 39 _ _ _ _ _)
      obtain ⟨⟨c3, c4, c5⟩, h⟩ := chk_some h
      refine ad_8_3 c3 c4 c5 dX4_hearActivity_39 (?_ : Ex _ _ 40 _ _ _ _ _)
      obtain ⟨c6, h⟩ := chk_some h
      refine gt_8_1 c6 fl_RX4_142 dX4_hearActivity_40 (?_ : Ex _ _ 43 _ _ _ _ _)
      refine x_iload_n dX4_hearActivity_43 rfl rfl (?_ : Ex _ _ 44 _ _ _ _ _)
      rcases ite_some h with ⟨b7, h⟩ | ⟨b7, h⟩
      · refine x_icmp_neN dX4_hearActivity_44 (by decide) (fun hh => hh b7) (?_ : Ex _ _ 47 _ _ _ _ _)
        refine x_aload_n dX4_hearActivity_47 rfl rfl (Or.inr (by decide)) (?_ : Ex _ _ 48 _ _ _ _ _)
        refine gt_4_3 c1 fl_RX4_24 dX4_hearActivity_48 (?_ : Ex _ _ 51 _ _ _ _ _)
        refine x_iload dX4_hearActivity_51 rfl (?_ : Ex _ _ 53 _ _ _ _ _)
        obtain ⟨⟨c9, c10⟩, h⟩ := chk_some h
        refine ad_8_3 c3 c9 c10 dX4_hearActivity_53 (?_ : Ex _ _ 54 _ _ _ _ _)
        refine x_iload_n dX4_hearActivity_54 rfl rfl (?_ : Ex _ _ 55 _ _ _ _ _)
        refine x_iload_n dX4_hearActivity_55 rfl rfl (?_ : Ex _ _ 56 _ _ _ _ _)
        obtain ⟨v11, m12, g13, h⟩ := cal_some h
        refine cV2 (e_X8_become d g13) (contV (?_ : Ex _ _ 59 _ _ _ _ _)) og_X8_become rfl ml_RX4_145 8 rfl rfl c6 im_X8_become se_X8_become (Nat.le_of_ble_eq_true rfl) dX4_hearActivity_56
        obtain ⟨c14, h⟩ := chk_some h
        refine x_iinc (ls2 := [(14, l0), (0, l1), (0, l2), (0, l3), (0, (l4 + 1))]) dX4_hearActivity_59 rfl c14 rfl (?_ : Ex _ _ 62 _ _ _ _ _)
        refine x_goto (tgt := 24) dX4_hearActivity_62 rfl (?_ : Ex _ _ 24 _ _ _ _ _)
        exact ih h
      · refine x_icmp_ne (tgt := 59) dX4_hearActivity_44 rfl b7 (?_ : Ex _ _ 59 _ _ _ _ _)
        obtain ⟨c8, h⟩ := chk_some h
        refine x_iinc (ls2 := [(14, l0), (0, l1), (0, l2), (0, l3), (0, (l4 + 1))]) dX4_hearActivity_59 rfl c8 rfl (?_ : Ex _ _ 62 _ _ _ _ _)
        refine x_goto (tgt := 24) dX4_hearActivity_62 rfl (?_ : Ex _ _ 24 _ _ _ _ _)
        exact ih h
theorem e_X4_hearActivity_0 (d : Nat) {l0 l1 l2 l3 : Int} {m : Mem} {v : Int} {m' : Mem} (h : X4_hearActivity_0 l0 l1 l2 l3 m = some (v, m')) : Ex (d + 1) fm_X4_hearActivity 0 [(14, l0), (0, l1), (0, l2), (0, l3), (3, 0)] [] m (.inl (3, 0)) m' := by
  unfold X4_hearActivity_0 at h
  refine x_aload_n dX4_hearActivity_0 rfl rfl (Or.inr (by decide)) (?_ : Ex _ _ 1 _ _ _ _ _)
  obtain ⟨c1, h⟩ := chk_some h
  refine gt_4_9 c1 fl_RX4_43 dX4_hearActivity_1 (?_ : Ex _ _ 4 _ _ _ _ _)
  refine x_iconst dX4_hearActivity_4 rfl (by decide) (?_ : Ex _ _ 5 _ _ _ _ _)
  rcases ite_some h with ⟨b2, h⟩ | ⟨b2, h⟩
  · refine x_icmp_neN dX4_hearActivity_5 (by decide) (fun hh => hh b2) (?_ : Ex _ _ 8 _ _ _ _ _)
    refine x_iload_n dX4_hearActivity_8 rfl rfl (?_ : Ex _ _ 9 _ _ _ _ _)
    refine x_aload_n dX4_hearActivity_9 rfl rfl (Or.inr (by decide)) (?_ : Ex _ _ 10 _ _ _ _ _)
    refine gt_4_17 c1 fl_RX4_118 dX4_hearActivity_10 (?_ : Ex _ _ 13 _ _ _ _ _)
    rcases ite_some h with ⟨b3, h⟩ | ⟨b3, h⟩
    · refine x_icmp_neN dX4_hearActivity_13 (by decide) (fun hh => hh b3) (?_ : Ex _ _ 16 _ _ _ _ _)
      refine x_aload_n dX4_hearActivity_16 rfl rfl (Or.inr (by decide)) (?_ : Ex _ _ 17 _ _ _ _ _)
      refine x_iconst dX4_hearActivity_17 rfl (by decide) (?_ : Ex _ _ 18 _ _ _ _ _)
      obtain ⟨m4, hm4, h⟩ := st_some h
      refine pt_4_9  c1 fl_RX4_43 dX4_hearActivity_18 (?_ : Ex _ _ 21 _ _ _ _ _)
      rw [← hm4]
      refine x_iconst dX4_hearActivity_21 rfl (by decide) (?_ : Ex _ _ 22 _ _ _ _ _)
      refine x_istore (ls2 := [(14, l0), (0, l1), (0, l2), (0, l3), (0, 0)]) dX4_hearActivity_22 (Nat.le_of_ble_eq_true rfl) rfl (?_ : Ex _ _ 24 _ _ _ _ _)
      exact e_X4_hearActivity_24 d fuel9 h
    · refine x_icmp_ne (tgt := 21) dX4_hearActivity_13 rfl b3 (?_ : Ex _ _ 21 _ _ _ _ _)
      refine x_iconst dX4_hearActivity_21 rfl (by decide) (?_ : Ex _ _ 22 _ _ _ _ _)
      refine x_istore (ls2 := [(14, l0), (0, l1), (0, l2), (0, l3), (0, 0)]) dX4_hearActivity_22 (Nat.le_of_ble_eq_true rfl) rfl (?_ : Ex _ _ 24 _ _ _ _ _)
      exact e_X4_hearActivity_24 d fuel9 h
  · refine x_icmp_ne (tgt := 21) dX4_hearActivity_5 rfl b2 (?_ : Ex _ _ 21 _ _ _ _ _)
    refine x_iconst dX4_hearActivity_21 rfl (by decide) (?_ : Ex _ _ 22 _ _ _ _ _)
    refine x_istore (ls2 := [(14, l0), (0, l1), (0, l2), (0, l3), (0, 0)]) dX4_hearActivity_22 (Nat.le_of_ble_eq_true rfl) rfl (?_ : Ex _ _ 24 _ _ _ _ _)
    exact e_X4_hearActivity_24 d fuel9 h
theorem e_X4_hearActivity (d : Nat) {a0 a1 a2 a3 : Int} {m : Mem} {v : Int} {m' : Mem} (h : X4_hearActivity a0 a1 a2 a3 m = some (v, m')) : ExM (d + 1) fm_X4_hearActivity [(14, a0), (0, a1), (0, a2), (0, a3)] m (.inl (3, 0)) m' := by
  exact ExM.of (by decide +kernel) (Nat.le_of_ble_eq_true rfl) (cat9 rfl) retV (e_X4_hearActivity_0 d h)
theorem dX4_hearTimer_0 : decode cX4_hearTimer 0 = .ok (.iconst 0, 1) := by decide +kernel
theorem dX4_hearTimer_1 : decode cX4_hearTimer 1 = .ok (.istore_n 2, 1) := by decide +kernel
theorem dX4_hearTimer_2 : decode cX4_hearTimer 2 = .ok (.iload_n 2, 1) := by decide +kernel
theorem dX4_hearTimer_3 : decode cX4_hearTimer 3 = .ok (.aload_n 0, 1) := by decide +kernel
theorem dX4_hearTimer_4 : decode cX4_hearTimer 4 = .ok (.getfield 103, 3) := by decide +kernel
theorem dX4_hearTimer_7 : decode cX4_hearTimer 7 = .ok (.if_icmp .ge 45, 3) := by decide +kernel
theorem dX4_hearTimer_10 : decode cX4_hearTimer 10 = .ok (.aload_n 0, 1) := by decide +kernel
theorem dX4_hearTimer_11 : decode cX4_hearTimer 11 = .ok (.getfield 24, 3) := by decide +kernel
theorem dX4_hearTimer_14 : decode cX4_hearTimer 14 = .ok (.iload_n 2, 1) := by decide +kernel
theorem dX4_hearTimer_15 : decode cX4_hearTimer 15 = .ok (.aaload, 1) := by decide +kernel
theorem dX4_hearTimer_16 : decode cX4_hearTimer 16 = .ok (.getfield 149, 3) := by decide +kernel
theorem dX4_hearTimer_19 : decode cX4_hearTimer 19 = .ok (.iload_n 1, 1) := by decide +kernel
theorem dX4_hearTimer_20 : decode cX4_hearTimer 20 = .ok (.if_icmp .ne 26, 3) := by decide +kernel
theorem dX4_hearTimer_23 : decode cX4_hearTimer 23 = .ok (.aload_n 0, 1) := by decide +kernel
theorem dX4_hearTimer_24 : decode cX4_hearTimer 24 = .ok (.getfield 24, 3) := by decide +kernel
theorem dX4_hearTimer_27 : decode cX4_hearTimer 27 = .ok (.iload_n 2, 1) := by decide +kernel
theorem dX4_hearTimer_28 : decode cX4_hearTimer 28 = .ok (.aaload, 1) := by decide +kernel
theorem dX4_hearTimer_29 : decode cX4_hearTimer 29 = .ok (.getfield 152, 3) := by decide +kernel
theorem dX4_hearTimer_32 : decode cX4_hearTimer 32 = .ok (.ifCond .ne 14, 3) := by decide +kernel
theorem dX4_hearTimer_35 : decode cX4_hearTimer 35 = .ok (.aload_n 0, 1) := by decide +kernel
theorem dX4_hearTimer_36 : decode cX4_hearTimer 36 = .ok (.getfield 24, 3) := by decide +kernel
theorem dX4_hearTimer_39 : decode cX4_hearTimer 39 = .ok (.iload_n 2, 1) := by decide +kernel
theorem dX4_hearTimer_40 : decode cX4_hearTimer 40 = .ok (.aaload, 1) := by decide +kernel
theorem dX4_hearTimer_41 : decode cX4_hearTimer 41 = .ok (.iconst (-1), 1) := by decide +kernel
theorem dX4_hearTimer_42 : decode cX4_hearTimer 42 = .ok (.iconst 0, 1) := by decide +kernel
theorem dX4_hearTimer_43 : decode cX4_hearTimer 43 = .ok (.invokevirtual 145, 3) := by decide +kernel
theorem dX4_hearTimer_46 : decode cX4_hearTimer 46 = .ok (.iinc 2 1, 3) := by decide +kernel
theorem dX4_hearTimer_49 : decode cX4_hearTimer 49 = .ok (.goto (-47), 3) := by decide +kernel
theorem dX4_hearTimer_52 : decode cX4_hearTimer 52 = .ok (.return_, 1) := by decide +kernel
theorem e_X4_hearTimer_2 (d : Nat) : ∀ (n : Nat) {l0 l1 l2 : Int} {m : Mem} {v : Int} {m' : Mem}, X4_hearTimer_2 n l0 l1 l2 m = some (v, m') → Ex (d + 1) fm_X4_hearTimer 2 [(14, l0), (0, l1), (0, l2)] [] m (.inl (3, 0)) m' := by
  intro n
  induction n with
  | zero =>
    intro l0 l1 l2 m v m' h
    have h : (none : Option R2) = some _ := h
    cases h
  | succ n ih =>
    intro l0 l1 l2 m v m' h
    rw [X4_hearTimer_2] at h
    refine x_iload_n dX4_hearTimer_2 rfl rfl (?_ : Ex _ _ 3 _ _ _ _ _)
    refine x_aload_n dX4_hearTimer_3 rfl rfl (Or.inr (by decide)) (?_ : Ex _ _ 4 _ _ _ _ _)
    obtain ⟨c1, h⟩ := chk_some h
    refine gt_4_12 c1 fl_RX4_103 dX4_hearTimer_4 (?_ : Ex _ _ 7 _ _ _ _ _)
    rcases ite_some h with ⟨b2, h⟩ | ⟨b2, h⟩
    · refine x_icmp_ge (tgt := 52) dX4_hearTimer_7 rfl b2 (?_ : Ex _ _ 52 _ _ _ _ _)
      cases h
      exact x_retv dX4_hearTimer_52
    · refine x_icmp_geN dX4_hearTimer_7 (by decide) b2 (?_ : Ex _ _ 10 _ _ _ _ _)
      refine x_aload_n dX4_hearTimer_10 rfl rfl (Or.inr (by decide)) (?_ : Ex _ _ 11 _ _ _ _ _)
      refine gt_4_3 c1 fl_RX4_24 dX4_hearTimer_11 (?_ : Ex _ _ 14 _ _ _ _ _)
      refine x_iload_n dX4_hearTimer_14 rfl rfl (?_ : Ex _ _ 15 _ _ _ _ _)
      obtain ⟨⟨c3, c4, c5⟩, h⟩ := chk_some h
      refine ad_8_3 c3 c4 c5 dX4_hearTimer_15 (?_ : Ex _ _ 16 _ _ _ _ _)
      obtain ⟨c6, h⟩ := chk_some h
      refine gt_8_2 c6 fl_RX4_149 dX4_hearTimer_16 (?_ : Ex _ _ 19 _ _ _ _ _)
      refine x_iload_n dX4_hearTimer_19 rfl rfl (?_ : Ex _ _ 20 _ _ _ _ _)
      rcases ite_some h with ⟨b7, h⟩ | ⟨b7, h⟩
      · refine x_icmp_neN dX4_hearTimer_20 (by decide) (fun hh => hh b7) (?_ : Ex _ _ 23 _ _ _ _ _)
        refine x_aload_n dX4_hearTimer_23 rfl rfl (Or.inr (by decide)) (?_ : Ex _ _ 24 _ _ _ _ _)
        refine gt_4_3 c1 fl_RX4_24 dX4_hearTimer_24 (?_ : Ex _ _ 27 _ _ _ _ _)
        refine x_iload_n dX4_hearTimer_27 rfl rfl (?_ : Ex _ _ 28 _ _ _ _ _)
        obtain ⟨⟨c9, c10⟩, h⟩ := chk_some h
        refine ad_8_3 c3 c9 c10 dX4_hearTimer_28 (?_ : Ex _ _ 29 _ _ _ _ _)
        refine gt_8_6 c6 fl_RX4_152 dX4_hearTimer_29 (?_ : Ex _ _ 32 _ _ _ _ _)
        rcases ite_some h with ⟨b11, h⟩ | ⟨b11, h⟩
        · refine x_if_neN dX4_hearTimer_32 (by decide) (fun hh => hh b11) (?_ : Ex _ _ 35 _ _ _ _ _)
          refine x_aload_n dX4_hearTimer_35 rfl rfl (Or.inr (by decide)) (?_ : Ex _ _ 36 _ _ _ _ _)
          refine gt_4_3 c1 fl_RX4_24 dX4_hearTimer_36 (?_ : Ex _ _ 39 _ _ _ _ _)
          refine x_iload_n dX4_hearTimer_39 rfl rfl (?_ : Ex _ _ 40 _ _ _ _ _)
          obtain ⟨⟨c13, c14⟩, h⟩ := chk_some h
          refine ad_8_3 c3 c13 c14 dX4_hearTimer_40 (?_ : Ex _ _ 41 _ _ _ _ _)
          refine x_iconst dX4_hearTimer_41 rfl (by decide) (?_ : Ex _ _ 42 _ _ _ _ _)
          refine x_iconst dX4_hearTimer_42 rfl (by decide) (?_ : Ex _ _ 43 _ _ _ _ _)
          obtain ⟨v15, m16, g17, h⟩ := cal_some h
          refine cV2 (e_X8_become d g17) (contV (?_ : Ex _ _ 46 _ _ _ _ _)) og_X8_become rfl ml_RX4_145 8 rfl rfl c6 im_X8_become se_X8_become (Nat.le_of_ble_eq_true rfl) dX4_hearTimer_43
          obtain ⟨c18, h⟩ := chk_some h
          refine x_iinc (ls2 := [(14, l0), (0, l1), (0, (l2 + 1))]) dX4_hearTimer_46 rfl c18 rfl (?_ : Ex _ _ 49 _ _ _ _ _)
          refine x_goto (tgt := 2) dX4_hearTimer_49 rfl (?_ : Ex _ _ 2 _ _ _ _ _)
          exact ih h
        · refine x_if_ne (tgt := 46) dX4_hearTimer_32 rfl b11 (?_ : Ex _ _ 46 _ _ _ _ _)
          obtain ⟨c12, h⟩ := chk_some h
          refine x_iinc (ls2 := [(14, l0), (0, l1), (0, (l2 + 1))]) dX4_hearTimer_46 rfl c12 rfl (?_ : Ex _ _ 49 _ _ _ _ _)
          refine x_goto (tgt := 2) dX4_hearTimer_49 rfl (?_ : Ex _ _ 2 _ _ _ _ _)
          exact ih h
      · refine x_icmp_ne (tgt := 46) dX4_hearTimer_20 rfl b7 (?_ : Ex _ _ 46 _ _ _ _ _)
        obtain ⟨c8, h⟩ := chk_some h
        refine x_iinc (ls2 := [(14, l0), (0, l1), (0, (l2 + 1))]) dX4_hearTimer_46 rfl c8 rfl (?_ : Ex _ _ 49 _ _ _ _ _)
        refine x_goto (tgt := 2) dX4_hearTimer_49 rfl (?_ : Ex _ _ 2 _ _ _ _ _)
        exact ih h
theorem e_X4_hearTimer_0 (d : Nat) {l0 l1 : Int} {m : Mem} {v : Int} {m' : Mem} (h : X4_hearTimer_0 l0 l1 m = some (v, m')) : Ex (d + 1) fm_X4_hearTimer 0 [(14, l0), (0, l1), (3, 0)] [] m (.inl (3, 0)) m' := by
  unfold X4_hearTimer_0 at h
  refine x_iconst dX4_hearTimer_0 rfl (by decide) (?_ : Ex _ _ 1 _ _ _ _ _)
  refine x_istore_n (ls2 := [(14, l0), (0, l1), (0, 0)]) dX4_hearTimer_1 rfl (Nat.le_of_ble_eq_true rfl) rfl (?_ : Ex _ _ 2 _ _ _ _ _)
  exact e_X4_hearTimer_2 d fuel9 h
theorem e_X4_hearTimer (d : Nat) {a0 a1 : Int} {m : Mem} {v : Int} {m' : Mem} (h : X4_hearTimer a0 a1 m = some (v, m')) : ExM (d + 1) fm_X4_hearTimer [(14, a0), (0, a1)] m (.inl (3, 0)) m' := by
  exact ExM.of (by decide +kernel) (Nat.le_of_ble_eq_true rfl) (cat9 rfl) retV (e_X4_hearTimer_0 d h)
theorem dX4_noteTaken_0 : decode cX4_noteTaken 0 = .ok (.iload_n 1, 1) := by decide +kernel
theorem dX4_noteTaken_1 : decode cX4_noteTaken 1 = .ok (.ifCond .lt 16, 3) := by decide +kernel
theorem dX4_noteTaken_4 : decode cX4_noteTaken 4 = .ok (.iload_n 1, 1) := by decide +kernel
theorem dX4_noteTaken_5 : decode cX4_noteTaken 5 = .ok (.bipush 80, 2) := by decide +kernel
theorem dX4_noteTaken_7 : decode cX4_noteTaken 7 = .ok (.if_icmp .ge 10, 3) := by decide +kernel
theorem dX4_noteTaken_10 : decode cX4_noteTaken 10 = .ok (.aload_n 0, 1) := by decide +kernel
theorem dX4_noteTaken_11 : decode cX4_noteTaken 11 = .ok (.getfield 18, 3) := by decide +kernel
theorem dX4_noteTaken_14 : decode cX4_noteTaken 14 = .ok (.iload_n 1, 1) := by decide +kernel
theorem dX4_noteTaken_15 : decode cX4_noteTaken 15 = .ok (.iconst 1, 1) := by decide +kernel
theorem dX4_noteTaken_16 : decode cX4_noteTaken 16 = .ok (.bastore, 1) := by decide +kernel
theorem dX4_noteTaken_17 : decode cX4_noteTaken 17 = .ok (.return_, 1) := by decide +kernel
theorem e_X4_noteTaken_0 (d : Nat) {l0 l1 : Int} {m : Mem} {v : Int} {m' : Mem} (h : X4_noteTaken_0 l0 l1 m = some (v, m')) : Ex d fm_X4_noteTaken 0 [(14, l0), (0, l1)] [] m (.inl (3, 0)) m' := by
  unfold X4_noteTaken_0 at h
  refine x_iload_n dX4_noteTaken_0 rfl rfl (?_ : Ex _ _ 1 _ _ _ _ _)
  rcases ite_some h with ⟨b1, h⟩ | ⟨b1, h⟩
  · refine x_if_lt (tgt := 17) dX4_noteTaken_1 rfl b1 (?_ : Ex _ _ 17 _ _ _ _ _)
    cases h
    exact x_retv dX4_noteTaken_17
  · refine x_if_ltN dX4_noteTaken_1 (by decide) b1 (?_ : Ex _ _ 4 _ _ _ _ _)
    refine x_iload_n dX4_noteTaken_4 rfl rfl (?_ : Ex _ _ 5 _ _ _ _ _)
    refine x_bipush dX4_noteTaken_5 kb_80 (by decide) (?_ : Ex _ _ 7 _ _ _ _ _)
    rcases ite_some h with ⟨b2, h⟩ | ⟨b2, h⟩
    · refine x_icmp_ge (tgt := 17) dX4_noteTaken_7 rfl b2 (?_ : Ex _ _ 17 _ _ _ _ _)
      cases h
      exact x_retv dX4_noteTaken_17
    · refine x_icmp_geN dX4_noteTaken_7 (by decide) b2 (?_ : Ex _ _ 10 _ _ _ _ _)
      refine x_aload_n dX4_noteTaken_10 rfl rfl (Or.inr (by decide)) (?_ : Ex _ _ 11 _ _ _ _ _)
      obtain ⟨c3, h⟩ := chk_some h
      refine gt_4_1 c3 fl_RX4_18 dX4_noteTaken_11 (?_ : Ex _ _ 14 _ _ _ _ _)
      refine x_iload_n dX4_noteTaken_14 rfl rfl (?_ : Ex _ _ 15 _ _ _ _ _)
      refine x_iconst dX4_noteTaken_15 rfl (by decide) (?_ : Ex _ _ 16 _ _ _ _ _)
      obtain ⟨⟨c4, c5, c6⟩, h⟩ := chk_some h
      obtain ⟨m7, hm7, h⟩ := st_some h
      refine sd_b_80 c4 c5 c6 (by decide) dX4_noteTaken_16 (?_ : Ex _ _ 17 _ _ _ _ _)
      rw [← hm7]
      cases h
      exact x_retv dX4_noteTaken_17
theorem e_X4_noteTaken (d : Nat) {a0 a1 : Int} {m : Mem} {v : Int} {m' : Mem} (h : X4_noteTaken a0 a1 m = some (v, m')) : ExM d fm_X4_noteTaken [(14, a0), (0, a1)] m (.inl (3, 0)) m' := by
  exact ExM.of (by decide +kernel) (Nat.le_of_ble_eq_true rfl) (cat9 rfl) retV (e_X4_noteTaken_0 d h)
