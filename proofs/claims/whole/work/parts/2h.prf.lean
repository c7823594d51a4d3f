/-! the machine does what the functions say, printed -/
theorem dX12_stepAt_0 : decode cX12_stepAt 0 = .ok (.bipush 12, 2) := by decide +kernel
theorem dX12_stepAt_2 : decode cX12_stepAt 2 = .ok (.aload_n 0, 1) := by decide +kernel
theorem dX12_stepAt_3 : decode cX12_stepAt 3 = .ok (.getfield 234, 3) := by decide +kernel
theorem dX12_stepAt_6 : decode cX12_stepAt 6 = .ok (.imul, 1) := by decide +kernel
theorem dX12_stepAt_7 : decode cX12_stepAt 7 = .ok (.iload_n 1, 1) := by decide +kernel
theorem dX12_stepAt_8 : decode cX12_stepAt 8 = .ok (.iadd, 1) := by decide +kernel
theorem dX12_stepAt_9 : decode cX12_stepAt 9 = .ok (.ireturn, 1) := by decide +kernel
theorem e_X12_stepAt_0 (d : Nat) {l0 l1 : Int} {m : Mem} {v : Int} {m' : Mem} (h : X12_stepAt_0 l0 l1 m = some (v, m')) : Ex d fm_X12_stepAt 0 [(22, l0), (0, l1)] [] m (.inl (0, v)) m' := by
  unfold X12_stepAt_0 at h
  refine x_bipush dX12_stepAt_0 kb_12 (by decide) (?_ : Ex _ _ 2 _ _ _ _ _)
  refine x_aload_n dX12_stepAt_2 rfl rfl (Or.inr (by decide)) (?_ : Ex _ _ 3 _ _ _ _ _)
  obtain ⟨c1, h⟩ := chk_some h
  refine gt_12_77 c1 fl_RX12_234 dX12_stepAt_3 (?_ : Ex _ _ 6 _ _ _ _ _)
  obtain ⟨c2, h⟩ := chk_some h
  refine x_imul dX12_stepAt_6 c2 (?_ : Ex _ _ 7 _ _ _ _ _)
  refine x_iload_n dX12_stepAt_7 rfl rfl (?_ : Ex _ _ 8 _ _ _ _ _)
  obtain ⟨c3, h⟩ := chk_some h
  refine x_iadd dX12_stepAt_8 c3 (?_ : Ex _ _ 9 _ _ _ _ _)
  cases h
  exact x_ret dX12_stepAt_9 (by decide : (0 : Int) ≠ 3)
theorem e_X12_stepAt (d : Nat) {a0 a1 : Int} {m : Mem} {v : Int} {m' : Mem} (h : X12_stepAt a0 a1 m = some (v, m')) : ExM d fm_X12_stepAt [(22, a0), (0, a1)] m (.inl (0, v)) m' := by
  exact ExM.of (by decide +kernel) (Nat.le_of_ble_eq_true rfl) (cat9 rfl) retI (e_X12_stepAt_0 d h)
theorem dX12_begins_0 : decode cX12_begins 0 = .ok (.aload_n 0, 1) := by decide +kernel
theorem dX12_begins_1 : decode cX12_begins 1 = .ok (.iload_n 1, 1) := by decide +kernel
theorem dX12_begins_2 : decode cX12_begins 2 = .ok (.putfield 234, 3) := by decide +kernel
theorem dX12_begins_5 : decode cX12_begins 5 = .ok (.aload_n 0, 1) := by decide +kernel
theorem dX12_begins_6 : decode cX12_begins 6 = .ok (.iconst 0, 1) := by decide +kernel
theorem dX12_begins_7 : decode cX12_begins 7 = .ok (.putfield 237, 3) := by decide +kernel
theorem dX12_begins_10 : decode cX12_begins 10 = .ok (.aload_n 0, 1) := by decide +kernel
theorem dX12_begins_11 : decode cX12_begins 11 = .ok (.iconst 0, 1) := by decide +kernel
theorem dX12_begins_12 : decode cX12_begins 12 = .ok (.putfield 240, 3) := by decide +kernel
theorem dX12_begins_15 : decode cX12_begins 15 = .ok (.aload_n 0, 1) := by decide +kernel
theorem dX12_begins_16 : decode cX12_begins 16 = .ok (.iconst 0, 1) := by decide +kernel
theorem dX12_begins_17 : decode cX12_begins 17 = .ok (.putfield 243, 3) := by decide +kernel
theorem dX12_begins_20 : decode cX12_begins 20 = .ok (.aload_n 0, 1) := by decide +kernel
theorem dX12_begins_21 : decode cX12_begins 21 = .ok (.iconst 0, 1) := by decide +kernel
theorem dX12_begins_22 : decode cX12_begins 22 = .ok (.putfield 246, 3) := by decide +kernel
theorem dX12_begins_25 : decode cX12_begins 25 = .ok (.aload_n 0, 1) := by decide +kernel
theorem dX12_begins_26 : decode cX12_begins 26 = .ok (.iconst 0, 1) := by decide +kernel
theorem dX12_begins_27 : decode cX12_begins 27 = .ok (.putfield 249, 3) := by decide +kernel
theorem dX12_begins_30 : decode cX12_begins 30 = .ok (.aload_n 0, 1) := by decide +kernel
theorem dX12_begins_31 : decode cX12_begins 31 = .ok (.iconst 0, 1) := by decide +kernel
theorem dX12_begins_32 : decode cX12_begins 32 = .ok (.putfield 252, 3) := by decide +kernel
theorem dX12_begins_35 : decode cX12_begins 35 = .ok (.aload_n 0, 1) := by decide +kernel
theorem dX12_begins_36 : decode cX12_begins 36 = .ok (.iconst 0, 1) := by decide +kernel
theorem dX12_begins_37 : decode cX12_begins 37 = .ok (.putfield 255, 3) := by decide +kernel
theorem dX12_begins_40 : decode cX12_begins 40 = .ok (.aload_n 0, 1) := by decide +kernel
theorem dX12_begins_41 : decode cX12_begins 41 = .ok (.iconst 0, 1) := by decide +kernel
theorem dX12_begins_42 : decode cX12_begins 42 = .ok (.putfield 259, 3) := by decide +kernel
theorem dX12_begins_45 : decode cX12_begins 45 = .ok (.aload_n 0, 1) := by decide +kernel
theorem dX12_begins_46 : decode cX12_begins 46 = .ok (.iconst 0, 1) := by decide +kernel
theorem dX12_begins_47 : decode cX12_begins 47 = .ok (.putfield 262, 3) := by decide +kernel
theorem dX12_begins_50 : decode cX12_begins 50 = .ok (.aload_n 0, 1) := by decide +kernel
theorem dX12_begins_51 : decode cX12_begins 51 = .ok (.iconst 0, 1) := by decide +kernel
theorem dX12_begins_52 : decode cX12_begins 52 = .ok (.putfield 265, 3) := by decide +kernel
theorem dX12_begins_55 : decode cX12_begins 55 = .ok (.aload_n 0, 1) := by decide +kernel
theorem dX12_begins_56 : decode cX12_begins 56 = .ok (.iconst 0, 1) := by decide +kernel
theorem dX12_begins_57 : decode cX12_begins 57 = .ok (.putfield 268, 3) := by decide +kernel
theorem dX12_begins_60 : decode cX12_begins 60 = .ok (.aload_n 0, 1) := by decide +kernel
theorem dX12_begins_61 : decode cX12_begins 61 = .ok (.iconst 0, 1) := by decide +kernel
theorem dX12_begins_62 : decode cX12_begins 62 = .ok (.putfield 271, 3) := by decide +kernel
theorem dX12_begins_65 : decode cX12_begins 65 = .ok (.aload_n 0, 1) := by decide +kernel
theorem dX12_begins_66 : decode cX12_begins 66 = .ok (.iconst 0, 1) := by decide +kernel
theorem dX12_begins_67 : decode cX12_begins 67 = .ok (.putfield 274, 3) := by decide +kernel
theorem dX12_begins_70 : decode cX12_begins 70 = .ok (.aload_n 0, 1) := by decide +kernel
theorem dX12_begins_71 : decode cX12_begins 71 = .ok (.iconst 0, 1) := by decide +kernel
theorem dX12_begins_72 : decode cX12_begins 72 = .ok (.putfield 277, 3) := by decide +kernel
theorem dX12_begins_75 : decode cX12_begins 75 = .ok (.aload_n 0, 1) := by decide +kernel
theorem dX12_begins_76 : decode cX12_begins 76 = .ok (.iconst 0, 1) := by decide +kernel
theorem dX12_begins_77 : decode cX12_begins 77 = .ok (.putfield 280, 3) := by decide +kernel
theorem dX12_begins_80 : decode cX12_begins 80 = .ok (.return_, 1) := by decide +kernel
theorem e_X12_begins_0 (d : Nat) {l0 l1 : Int} {m : Mem} {v : Int} {m' : Mem} (h : X12_begins_0 l0 l1 m = some (v, m')) : Ex d fm_X12_begins 0 [(22, l0), (0, l1)] [] m (.inl (3, 0)) m' := by
  unfold X12_begins_0 at h
  refine x_aload_n dX12_begins_0 rfl rfl (Or.inr (by decide)) (?_ : Ex _ _ 1 _ _ _ _ _)
  refine x_iload_n dX12_begins_1 rfl rfl (?_ : Ex _ _ 2 _ _ _ _ _)
  obtain ⟨c1, h⟩ := chk_some h
  obtain ⟨m2, hm2, h⟩ := st_some h
  refine pt_12_77  c1 fl_RX12_234 dX12_begins_2 (?_ : Ex _ _ 5 _ _ _ _ _)
  rw [← hm2]
  refine x_aload_n dX12_begins_5 rfl rfl (Or.inr (by decide)) (?_ : Ex _ _ 6 _ _ _ _ _)
  refine x_iconst dX12_begins_6 rfl (by decide) (?_ : Ex _ _ 7 _ _ _ _ _)
  obtain ⟨m3, hm3, h⟩ := st_some h
  refine pt_12_40  c1 fl_RX12_237 dX12_begins_7 (?_ : Ex _ _ 10 _ _ _ _ _)
  rw [← hm3]
  refine x_aload_n dX12_begins_10 rfl rfl (Or.inr (by decide)) (?_ : Ex _ _ 11 _ _ _ _ _)
  refine x_iconst dX12_begins_11 rfl (by decide) (?_ : Ex _ _ 12 _ _ _ _ _)
  obtain ⟨m4, hm4, h⟩ := st_some h
  refine pt_12_41  c1 fl_RX12_240 dX12_begins_12 (?_ : Ex _ _ 15 _ _ _ _ _)
  rw [← hm4]
  refine x_aload_n dX12_begins_15 rfl rfl (Or.inr (by decide)) (?_ : Ex _ _ 16 _ _ _ _ _)
  refine x_iconst dX12_begins_16 rfl (by decide) (?_ : Ex _ _ 17 _ _ _ _ _)
  obtain ⟨m5, hm5, h⟩ := st_some h
  refine pt_12_42  c1 fl_RX12_243 dX12_begins_17 (?_ : Ex _ _ 20 _ _ _ _ _)
  rw [← hm5]
  refine x_aload_n dX12_begins_20 rfl rfl (Or.inr (by decide)) (?_ : Ex _ _ 21 _ _ _ _ _)
  refine x_iconst dX12_begins_21 rfl (by decide) (?_ : Ex _ _ 22 _ _ _ _ _)
  obtain ⟨m6, hm6, h⟩ := st_some h
  refine pt_12_43  c1 fl_RX12_246 dX12_begins_22 (?_ : Ex _ _ 25 _ _ _ _ _)
  rw [← hm6]
  refine x_aload_n dX12_begins_25 rfl rfl (Or.inr (by decide)) (?_ : Ex _ _ 26 _ _ _ _ _)
  refine x_iconst dX12_begins_26 rfl (by decide) (?_ : Ex _ _ 27 _ _ _ _ _)
  obtain ⟨m7, hm7, h⟩ := st_some h
  refine pt_12_44  c1 fl_RX12_249 dX12_begins_27 (?_ : Ex _ _ 30 _ _ _ _ _)
  rw [← hm7]
  refine x_aload_n dX12_begins_30 rfl rfl (Or.inr (by decide)) (?_ : Ex _ _ 31 _ _ _ _ _)
  refine x_iconst dX12_begins_31 rfl (by decide) (?_ : Ex _ _ 32 _ _ _ _ _)
  obtain ⟨m8, hm8, h⟩ := st_some h
  refine pt_12_45  c1 fl_RX12_252 dX12_begins_32 (?_ : Ex _ _ 35 _ _ _ _ _)
  rw [← hm8]
  refine x_aload_n dX12_begins_35 rfl rfl (Or.inr (by decide)) (?_ : Ex _ _ 36 _ _ _ _ _)
  refine x_iconst dX12_begins_36 rfl (by decide) (?_ : Ex _ _ 37 _ _ _ _ _)
  obtain ⟨m9, hm9, h⟩ := st_some h
  refine pt_12_46  c1 (by decide) fl_RX12_255 dX12_begins_37 (?_ : Ex _ _ 40 _ _ _ _ _)
  rw [← hm9]
  refine x_aload_n dX12_begins_40 rfl rfl (Or.inr (by decide)) (?_ : Ex _ _ 41 _ _ _ _ _)
  refine x_iconst dX12_begins_41 rfl (by decide) (?_ : Ex _ _ 42 _ _ _ _ _)
  obtain ⟨m10, hm10, h⟩ := st_some h
  refine pt_12_47  c1 (by decide) fl_RX12_259 dX12_begins_42 (?_ : Ex _ _ 45 _ _ _ _ _)
  rw [← hm10]
  refine x_aload_n dX12_begins_45 rfl rfl (Or.inr (by decide)) (?_ : Ex _ _ 46 _ _ _ _ _)
  refine x_iconst dX12_begins_46 rfl (by decide) (?_ : Ex _ _ 47 _ _ _ _ _)
  obtain ⟨m11, hm11, h⟩ := st_some h
  refine pt_12_48  c1 fl_RX12_262 dX12_begins_47 (?_ : Ex _ _ 50 _ _ _ _ _)
  rw [← hm11]
  refine x_aload_n dX12_begins_50 rfl rfl (Or.inr (by decide)) (?_ : Ex _ _ 51 _ _ _ _ _)
  refine x_iconst dX12_begins_51 rfl (by decide) (?_ : Ex _ _ 52 _ _ _ _ _)
  obtain ⟨m12, hm12, h⟩ := st_some h
  refine pt_12_51  c1 fl_RX12_265 dX12_begins_52 (?_ : Ex _ _ 55 _ _ _ _ _)
  rw [← hm12]
  refine x_aload_n dX12_begins_55 rfl rfl (Or.inr (by decide)) (?_ : Ex _ _ 56 _ _ _ _ _)
  refine x_iconst dX12_begins_56 rfl (by decide) (?_ : Ex _ _ 57 _ _ _ _ _)
  obtain ⟨m13, hm13, h⟩ := st_some h
  refine pt_12_52  c1 fl_RX12_268 dX12_begins_57 (?_ : Ex _ _ 60 _ _ _ _ _)
  rw [← hm13]
  refine x_aload_n dX12_begins_60 rfl rfl (Or.inr (by decide)) (?_ : Ex _ _ 61 _ _ _ _ _)
  refine x_iconst dX12_begins_61 rfl (by decide) (?_ : Ex _ _ 62 _ _ _ _ _)
  obtain ⟨m14, hm14, h⟩ := st_some h
  refine pt_12_53  c1 fl_RX12_271 dX12_begins_62 (?_ : Ex _ _ 65 _ _ _ _ _)
  rw [← hm14]
  refine x_aload_n dX12_begins_65 rfl rfl (Or.inr (by decide)) (?_ : Ex _ _ 66 _ _ _ _ _)
  refine x_iconst dX12_begins_66 rfl (by decide) (?_ : Ex _ _ 67 _ _ _ _ _)
  obtain ⟨m15, hm15, h⟩ := st_some h
  refine pt_12_55  c1 fl_RX12_274 dX12_begins_67 (?_ : Ex _ _ 70 _ _ _ _ _)
  rw [← hm15]
  refine x_aload_n dX12_begins_70 rfl rfl (Or.inr (by decide)) (?_ : Ex _ _ 71 _ _ _ _ _)
  refine x_iconst dX12_begins_71 rfl (by decide) (?_ : Ex _ _ 72 _ _ _ _ _)
  obtain ⟨m16, hm16, h⟩ := st_some h
  refine pt_12_68  c1 fl_RX12_277 dX12_begins_72 (?_ : Ex _ _ 75 _ _ _ _ _)
  rw [← hm16]
  refine x_aload_n dX12_begins_75 rfl rfl (Or.inr (by decide)) (?_ : Ex _ _ 76 _ _ _ _ _)
  refine x_iconst dX12_begins_76 rfl (by decide) (?_ : Ex _ _ 77 _ _ _ _ _)
  obtain ⟨m17, hm17, h⟩ := st_some h
  refine pt_12_71  c1 fl_RX12_280 dX12_begins_77 (?_ : Ex _ _ 80 _ _ _ _ _)
  rw [← hm17]
  cases h
  exact x_retv dX12_begins_80
theorem e_X12_begins (d : Nat) {a0 a1 : Int} {m : Mem} {v : Int} {m' : Mem} (h : X12_begins a0 a1 m = some (v, m')) : ExM d fm_X12_begins [(22, a0), (0, a1)] m (.inl (3, 0)) m' := by
  exact ExM.of (by decide +kernel) (Nat.le_of_ble_eq_true rfl) (cat9 rfl) retV (e_X12_begins_0 d h)
theorem dX12_decides_0 : decode cX12_decides 0 = .ok (.aload_n 0, 1) := by decide +kernel
theorem dX12_decides_1 : decode cX12_decides 1 = .ok (.getfield 158, 3) := by decide +kernel
theorem dX12_decides_4 : decode cX12_decides 4 = .ok (.aload_n 0, 1) := by decide +kernel
theorem dX12_decides_5 : decode cX12_decides 5 = .ok (.getfield 283, 3) := by decide +kernel
theorem dX12_decides_8 : decode cX12_decides 8 = .ok (.iload_n 1, 1) := by decide +kernel
theorem dX12_decides_9 : decode cX12_decides 9 = .ok (.iastore, 1) := by decide +kernel
theorem dX12_decides_10 : decode cX12_decides 10 = .ok (.aload_n 0, 1) := by decide +kernel
theorem dX12_decides_11 : decode cX12_decides 11 = .ok (.getfield 161, 3) := by decide +kernel
theorem dX12_decides_14 : decode cX12_decides 14 = .ok (.aload_n 0, 1) := by decide +kernel
theorem dX12_decides_15 : decode cX12_decides 15 = .ok (.getfield 283, 3) := by decide +kernel
theorem dX12_decides_18 : decode cX12_decides 18 = .ok (.iload_n 2, 1) := by decide +kernel
theorem dX12_decides_19 : decode cX12_decides 19 = .ok (.iastore, 1) := by decide +kernel
theorem dX12_decides_20 : decode cX12_decides 20 = .ok (.aload_n 0, 1) := by decide +kernel
theorem dX12_decides_21 : decode cX12_decides 21 = .ok (.getfield 164, 3) := by decide +kernel
theorem dX12_decides_24 : decode cX12_decides 24 = .ok (.aload_n 0, 1) := by decide +kernel
theorem dX12_decides_25 : decode cX12_decides 25 = .ok (.getfield 283, 3) := by decide +kernel
theorem dX12_decides_28 : decode cX12_decides 28 = .ok (.iload_n 3, 1) := by decide +kernel
theorem dX12_decides_29 : decode cX12_decides 29 = .ok (.iastore, 1) := by decide +kernel
theorem dX12_decides_30 : decode cX12_decides 30 = .ok (.aload_n 0, 1) := by decide +kernel
theorem dX12_decides_31 : decode cX12_decides 31 = .ok (.getfield 167, 3) := by decide +kernel
theorem dX12_decides_34 : decode cX12_decides 34 = .ok (.aload_n 0, 1) := by decide +kernel
theorem dX12_decides_35 : decode cX12_decides 35 = .ok (.getfield 283, 3) := by decide +kernel
theorem dX12_decides_38 : decode cX12_decides 38 = .ok (.aload_n 0, 1) := by decide +kernel
theorem dX12_decides_39 : decode cX12_decides 39 = .ok (.getfield 240, 3) := by decide +kernel
theorem dX12_decides_42 : decode cX12_decides 42 = .ok (.iastore, 1) := by decide +kernel
theorem dX12_decides_43 : decode cX12_decides 43 = .ok (.aload_n 0, 1) := by decide +kernel
theorem dX12_decides_44 : decode cX12_decides 44 = .ok (.dup, 1) := by decide +kernel
theorem dX12_decides_45 : decode cX12_decides 45 = .ok (.getfield 283, 3) := by decide +kernel
theorem dX12_decides_48 : decode cX12_decides 48 = .ok (.iconst 1, 1) := by decide +kernel
theorem dX12_decides_49 : decode cX12_decides 49 = .ok (.iadd, 1) := by decide +kernel
theorem dX12_decides_50 : decode cX12_decides 50 = .ok (.putfield 283, 3) := by decide +kernel
theorem dX12_decides_53 : decode cX12_decides 53 = .ok (.return_, 1) := by decide +kernel
theorem e_X12_decides_0 (d : Nat) {l0 l1 l2 l3 : Int} {m : Mem} {v : Int} {m' : Mem} (h : X12_decides_0 l0 l1 l2 l3 m = some (v, m')) : Ex d fm_X12_decides 0 [(22, l0), (0, l1), (0, l2), (0, l3)] [] m (.inl (3, 0)) m' := by
  unfold X12_decides_0 at h
  refine x_aload_n dX12_decides_0 rfl rfl (Or.inr (by decide)) (?_ : Ex _ _ 1 _ _ _ _ _)
  obtain ⟨c1, h⟩ := chk_some h
  refine gt_12_72 c1 fl_RX12_158 dX12_decides_1 (?_ : Ex _ _ 4 _ _ _ _ _)
  refine x_aload_n dX12_decides_4 rfl rfl (Or.inr (by decide)) (?_ : Ex _ _ 5 _ _ _ _ _)
  refine gt_12_76 c1 fl_RX12_283 dX12_decides_5 (?_ : Ex _ _ 8 _ _ _ _ _)
  refine x_iload_n dX12_decides_8 rfl rfl (?_ : Ex _ _ 9 _ _ _ _ _)
  obtain ⟨⟨c2, c3, c4⟩, h⟩ := chk_some h
  obtain ⟨m5, hm5, h⟩ := st_some h
  refine sd_i_5200 c2 c3 c4 dX12_decides_9 (?_ : Ex _ _ 10 _ _ _ _ _)
  rw [← hm5]
  refine x_aload_n dX12_decides_10 rfl rfl (Or.inr (by decide)) (?_ : Ex _ _ 11 _ _ _ _ _)
  refine gt_12_73 c1 fl_RX12_161 dX12_decides_11 (?_ : Ex _ _ 14 _ _ _ _ _)
  refine x_aload_n dX12_decides_14 rfl rfl (Or.inr (by decide)) (?_ : Ex _ _ 15 _ _ _ _ _)
  refine gt_12_76 c1 fl_RX12_283 dX12_decides_15 (?_ : Ex _ _ 18 _ _ _ _ _)
  refine x_iload_n dX12_decides_18 rfl rfl (?_ : Ex _ _ 19 _ _ _ _ _)
  obtain ⟨⟨c6, c7, c8⟩, h⟩ := chk_some h
  obtain ⟨m9, hm9, h⟩ := st_some h
  refine sd_i_5200 c6 c7 c8 dX12_decides_19 (?_ : Ex _ _ 20 _ _ _ _ _)
  rw [← hm9]
  refine x_aload_n dX12_decides_20 rfl rfl (Or.inr (by decide)) (?_ : Ex _ _ 21 _ _ _ _ _)
  refine gt_12_74 c1 fl_RX12_164 dX12_decides_21 (?_ : Ex _ _ 24 _ _ _ _ _)
  refine x_aload_n dX12_decides_24 rfl rfl (Or.inr (by decide)) (?_ : Ex _ _ 25 _ _ _ _ _)
  refine gt_12_76 c1 fl_RX12_283 dX12_decides_25 (?_ : Ex _ _ 28 _ _ _ _ _)
  refine x_iload_n dX12_decides_28 rfl rfl (?_ : Ex _ _ 29 _ _ _ _ _)
  obtain ⟨⟨c10, c11, c12⟩, h⟩ := chk_some h
  obtain ⟨m13, hm13, h⟩ := st_some h
  refine sd_i_5200 c10 c11 c12 dX12_decides_29 (?_ : Ex _ _ 30 _ _ _ _ _)
  rw [← hm13]
  refine x_aload_n dX12_decides_30 rfl rfl (Or.inr (by decide)) (?_ : Ex _ _ 31 _ _ _ _ _)
  refine gt_12_75 c1 fl_RX12_167 dX12_decides_31 (?_ : Ex _ _ 34 _ _ _ _ _)
  refine x_aload_n dX12_decides_34 rfl rfl (Or.inr (by decide)) (?_ : Ex _ _ 35 _ _ _ _ _)
  refine gt_12_76 c1 fl_RX12_283 dX12_decides_35 (?_ : Ex _ _ 38 _ _ _ _ _)
  refine x_aload_n dX12_decides_38 rfl rfl (Or.inr (by decide)) (?_ : Ex _ _ 39 _ _ _ _ _)
  refine gt_12_41 c1 fl_RX12_240 dX12_decides_39 (?_ : Ex _ _ 42 _ _ _ _ _)
  obtain ⟨⟨c14, c15, c16⟩, h⟩ := chk_some h
  obtain ⟨m17, hm17, h⟩ := st_some h
  refine sd_i_5200 c14 c15 c16 dX12_decides_42 (?_ : Ex _ _ 43 _ _ _ _ _)
  rw [← hm17]
  refine x_aload_n dX12_decides_43 rfl rfl (Or.inr (by decide)) (?_ : Ex _ _ 44 _ _ _ _ _)
  refine x_dup (by decide : (22 : Int) ≠ 2) dX12_decides_44 (?_ : Ex _ _ 45 _ _ _ _ _)
  refine gt_12_76 c1 fl_RX12_283 dX12_decides_45 (?_ : Ex _ _ 48 _ _ _ _ _)
  refine x_iconst dX12_decides_48 rfl (by decide) (?_ : Ex _ _ 49 _ _ _ _ _)
  obtain ⟨c18, h⟩ := chk_some h
  refine x_iadd dX12_decides_49 c18 (?_ : Ex _ _ 50 _ _ _ _ _)
  obtain ⟨m19, hm19, h⟩ := st_some h
  refine pt_12_76  c1 fl_RX12_283 dX12_decides_50 (?_ : Ex _ _ 53 _ _ _ _ _)
  rw [← hm19]
  cases h
  exact x_retv dX12_decides_53
theorem e_X12_decides (d : Nat) {a0 a1 a2 a3 : Int} {m : Mem} {v : Int} {m' : Mem} (h : X12_decides a0 a1 a2 a3 m = some (v, m')) : ExM d fm_X12_decides [(22, a0), (0, a1), (0, a2), (0, a3)] m (.inl (3, 0)) m' := by
  exact ExM.of (by decide +kernel) (Nat.le_of_ble_eq_true rfl) (cat9 rfl) retV (e_X12_decides_0 d h)
theorem dX12_ends_0 : decode cX12_ends 0 = .ok (.aload_n 0, 1) := by decide +kernel
theorem dX12_ends_1 : decode cX12_ends 1 = .ok (.iconst 2, 1) := by decide +kernel
theorem dX12_ends_2 : decode cX12_ends 2 = .ok (.putfield 243, 3) := by decide +kernel
theorem dX12_ends_5 : decode cX12_ends 5 = .ok (.aload_n 0, 1) := by decide +kernel
theorem dX12_ends_6 : decode cX12_ends 6 = .ok (.iload_n 1, 1) := by decide +kernel
theorem dX12_ends_7 : decode cX12_ends 7 = .ok (.putfield 286, 3) := by decide +kernel
theorem dX12_ends_10 : decode cX12_ends 10 = .ok (.aload_n 0, 1) := by decide +kernel
theorem dX12_ends_11 : decode cX12_ends 11 = .ok (.iload_n 2, 1) := by decide +kernel
theorem dX12_ends_12 : decode cX12_ends 12 = .ok (.putfield 289, 3) := by decide +kernel
theorem dX12_ends_15 : decode cX12_ends 15 = .ok (.aload_n 0, 1) := by decide +kernel
theorem dX12_ends_16 : decode cX12_ends 16 = .ok (.bipush 16, 2) := by decide +kernel
theorem dX12_ends_18 : decode cX12_ends 18 = .ok (.iload_n 1, 1) := by decide +kernel
theorem dX12_ends_19 : decode cX12_ends 19 = .ok (.iload_n 2, 1) := by decide +kernel
theorem dX12_ends_20 : decode cX12_ends 20 = .ok (.invokevirtual 292, 3) := by decide +kernel
theorem dX12_ends_23 : decode cX12_ends 23 = .ok (.return_, 1) := by decide +kernel
theorem e_X12_ends_0 (d : Nat) {l0 l1 l2 : Int} {m : Mem} {v : Int} {m' : Mem} (h : X12_ends_0 l0 l1 l2 m = some (v, m')) : Ex (d + 1) fm_X12_ends 0 [(22, l0), (0, l1), (0, l2)] [] m (.inl (3, 0)) m' := by
  unfold X12_ends_0 at h
  refine x_aload_n dX12_ends_0 rfl rfl (Or.inr (by decide)) (?_ : Ex _ _ 1 _ _ _ _ _)
  refine x_iconst dX12_ends_1 rfl (by decide) (?_ : Ex _ _ 2 _ _ _ _ _)
  obtain ⟨c1, h⟩ := chk_some h
  obtain ⟨m2, hm2, h⟩ := st_some h
  refine pt_12_42  c1 fl_RX12_243 dX12_ends_2 (?_ : Ex _ _ 5 _ _ _ _ _)
  rw [← hm2]
  refine x_aload_n dX12_ends_5 rfl rfl (Or.inr (by decide)) (?_ : Ex _ _ 6 _ _ _ _ _)
  refine x_iload_n dX12_ends_6 rfl rfl (?_ : Ex _ _ 7 _ _ _ _ _)
  obtain ⟨m3, hm3, h⟩ := st_some h
  refine pt_12_49  c1 fl_RX12_286 dX12_ends_7 (?_ : Ex _ _ 10 _ _ _ _ _)
  rw [← hm3]
  refine x_aload_n dX12_ends_10 rfl rfl (Or.inr (by decide)) (?_ : Ex _ _ 11 _ _ _ _ _)
  refine x_iload_n dX12_ends_11 rfl rfl (?_ : Ex _ _ 12 _ _ _ _ _)
  obtain ⟨m4, hm4, h⟩ := st_some h
  refine pt_12_50  c1 fl_RX12_289 dX12_ends_12 (?_ : Ex _ _ 15 _ _ _ _ _)
  rw [← hm4]
  refine x_aload_n dX12_ends_15 rfl rfl (Or.inr (by decide)) (?_ : Ex _ _ 16 _ _ _ _ _)
  refine x_bipush dX12_ends_16 kb_16 (by decide) (?_ : Ex _ _ 18 _ _ _ _ _)
  refine x_iload_n dX12_ends_18 rfl rfl (?_ : Ex _ _ 19 _ _ _ _ _)
  refine x_iload_n dX12_ends_19 rfl rfl (?_ : Ex _ _ 20 _ _ _ _ _)
  obtain ⟨v5, m6, g7, h⟩ := cal_some h
  refine cV3 (e_X12_decides d g7) (contV (?_ : Ex _ _ 23 _ _ _ _ _)) og_X12_decides rfl ml_RX12_292 12 rfl rfl c1 im_X12_decides se_X12_decides (Nat.le_of_ble_eq_true rfl) dX12_ends_20
  cases h
  exact x_retv dX12_ends_23
theorem e_X12_ends (d : Nat) {a0 a1 a2 : Int} {m : Mem} {v : Int} {m' : Mem} (h : X12_ends a0 a1 a2 m = some (v, m')) : ExM (d + 1) fm_X12_ends [(22, a0), (0, a1), (0, a2)] m (.inl (3, 0)) m' := by
  exact ExM.of (by decide +kernel) (Nat.le_of_ble_eq_true rfl) (cat9 rfl) retV (e_X12_ends_0 d h)
theorem dX12_undoesNext_0 : decode cX12_undoesNext 0 = .ok (.aload_n 0, 1) := by decide +kernel
theorem dX12_undoesNext_1 : decode cX12_undoesNext 1 = .ok (.getfield 280, 3) := by decide +kernel
theorem dX12_undoesNext_4 : decode cX12_undoesNext 4 = .ok (.ifCond .le 58, 3) := by decide +kernel
theorem dX12_undoesNext_7 : decode cX12_undoesNext 7 = .ok (.aload_n 0, 1) := by decide +kernel
theorem dX12_undoesNext_8 : decode cX12_undoesNext 8 = .ok (.dup, 1) := by decide +kernel
theorem dX12_undoesNext_9 : decode cX12_undoesNext 9 = .ok (.getfield 280, 3) := by decide +kernel
theorem dX12_undoesNext_12 : decode cX12_undoesNext 12 = .ok (.iconst 1, 1) := by decide +kernel
theorem dX12_undoesNext_13 : decode cX12_undoesNext 13 = .ok (.isub, 1) := by decide +kernel
theorem dX12_undoesNext_14 : decode cX12_undoesNext 14 = .ok (.putfield 280, 3) := by decide +kernel
theorem dX12_undoesNext_17 : decode cX12_undoesNext 17 = .ok (.aload_n 0, 1) := by decide +kernel
theorem dX12_undoesNext_18 : decode cX12_undoesNext 18 = .ok (.aload_n 0, 1) := by decide +kernel
theorem dX12_undoesNext_19 : decode cX12_undoesNext 19 = .ok (.getfield 265, 3) := by decide +kernel
theorem dX12_undoesNext_22 : decode cX12_undoesNext 22 = .ok (.putfield 296, 3) := by decide +kernel
theorem dX12_undoesNext_25 : decode cX12_undoesNext 25 = .ok (.aload_n 0, 1) := by decide +kernel
theorem dX12_undoesNext_26 : decode cX12_undoesNext 26 = .ok (.dup, 1) := by decide +kernel
theorem dX12_undoesNext_27 : decode cX12_undoesNext 27 = .ok (.getfield 265, 3) := by decide +kernel
theorem dX12_undoesNext_30 : decode cX12_undoesNext 30 = .ok (.iconst 1, 1) := by decide +kernel
theorem dX12_undoesNext_31 : decode cX12_undoesNext 31 = .ok (.iadd, 1) := by decide +kernel
theorem dX12_undoesNext_32 : decode cX12_undoesNext 32 = .ok (.putfield 265, 3) := by decide +kernel
theorem dX12_undoesNext_35 : decode cX12_undoesNext 35 = .ok (.aload_n 0, 1) := by decide +kernel
theorem dX12_undoesNext_36 : decode cX12_undoesNext 36 = .ok (.bipush 15, 2) := by decide +kernel
theorem dX12_undoesNext_38 : decode cX12_undoesNext 38 = .ok (.aload_n 0, 1) := by decide +kernel
theorem dX12_undoesNext_39 : decode cX12_undoesNext 39 = .ok (.getfield 152, 3) := by decide +kernel
theorem dX12_undoesNext_42 : decode cX12_undoesNext 42 = .ok (.aload_n 0, 1) := by decide +kernel
theorem dX12_undoesNext_43 : decode cX12_undoesNext 43 = .ok (.getfield 280, 3) := by decide +kernel
theorem dX12_undoesNext_46 : decode cX12_undoesNext 46 = .ok (.iaload, 1) := by decide +kernel
theorem dX12_undoesNext_47 : decode cX12_undoesNext 47 = .ok (.aload_n 0, 1) := by decide +kernel
theorem dX12_undoesNext_48 : decode cX12_undoesNext 48 = .ok (.getfield 155, 3) := by decide +kernel
theorem dX12_undoesNext_51 : decode cX12_undoesNext 51 = .ok (.aload_n 0, 1) := by decide +kernel
theorem dX12_undoesNext_52 : decode cX12_undoesNext 52 = .ok (.getfield 280, 3) := by decide +kernel
theorem dX12_undoesNext_55 : decode cX12_undoesNext 55 = .ok (.iaload, 1) := by decide +kernel
theorem dX12_undoesNext_56 : decode cX12_undoesNext 56 = .ok (.invokevirtual 292, 3) := by decide +kernel
theorem dX12_undoesNext_59 : decode cX12_undoesNext 59 = .ok (.goto 31, 3) := by decide +kernel
theorem dX12_undoesNext_62 : decode cX12_undoesNext 62 = .ok (.aload_n 0, 1) := by decide +kernel
theorem dX12_undoesNext_63 : decode cX12_undoesNext 63 = .ok (.getfield 246, 3) := by decide +kernel
theorem dX12_undoesNext_66 : decode cX12_undoesNext 66 = .ok (.iconst (-1), 1) := by decide +kernel
theorem dX12_undoesNext_67 : decode cX12_undoesNext 67 = .ok (.if_icmp .ne 13, 3) := by decide +kernel
theorem dX12_undoesNext_70 : decode cX12_undoesNext 70 = .ok (.aload_n 0, 1) := by decide +kernel
theorem dX12_undoesNext_71 : decode cX12_undoesNext 71 = .ok (.bipush 23, 2) := by decide +kernel
theorem dX12_undoesNext_73 : decode cX12_undoesNext 73 = .ok (.iconst 0, 1) := by decide +kernel
theorem dX12_undoesNext_74 : decode cX12_undoesNext 74 = .ok (.invokevirtual 299, 3) := by decide +kernel
theorem dX12_undoesNext_77 : decode cX12_undoesNext 77 = .ok (.goto 13, 3) := by decide +kernel
theorem dX12_undoesNext_80 : decode cX12_undoesNext 80 = .ok (.aload_n 0, 1) := by decide +kernel
theorem dX12_undoesNext_81 : decode cX12_undoesNext 81 = .ok (.bipush 22, 2) := by decide +kernel
theorem dX12_undoesNext_83 : decode cX12_undoesNext 83 = .ok (.aload_n 0, 1) := by decide +kernel
theorem dX12_undoesNext_84 : decode cX12_undoesNext 84 = .ok (.getfield 246, 3) := by decide +kernel
theorem dX12_undoesNext_87 : decode cX12_undoesNext 87 = .ok (.invokevirtual 299, 3) := by decide +kernel
theorem dX12_undoesNext_90 : decode cX12_undoesNext 90 = .ok (.return_, 1) := by decide +kernel
theorem e_X12_undoesNext_0 (d : Nat) {l0 : Int} {m : Mem} {v : Int} {m' : Mem} (h : X12_undoesNext_0 l0 m = some (v, m')) : Ex (d + 2) fm_X12_undoesNext 0 [(22, l0)] [] m (.inl (3, 0)) m' := by
  unfold X12_undoesNext_0 at h
  refine x_aload_n dX12_undoesNext_0 rfl rfl (Or.inr (by decide)) (?_ : Ex _ _ 1 _ _ _ _ _)
  obtain ⟨c1, h⟩ := chk_some h
  refine gt_12_71 c1 fl_RX12_280 dX12_undoesNext_1 (?_ : Ex _ _ 4 _ _ _ _ _)
  rcases ite_some h with ⟨b2, h⟩ | ⟨b2, h⟩
  · refine x_if_le (tgt := 62) dX12_undoesNext_4 rfl b2 (?_ : Ex _ _ 62 _ _ _ _ _)
    refine x_aload_n dX12_undoesNext_62 rfl rfl (Or.inr (by decide)) (?_ : Ex _ _ 63 _ _ _ _ _)
    refine gt_12_43 c1 fl_RX12_246 dX12_undoesNext_63 (?_ : Ex _ _ 66 _ _ _ _ _)
    refine x_iconst dX12_undoesNext_66 rfl (by decide) (?_ : Ex _ _ 67 _ _ _ _ _)
    rcases ite_some h with ⟨b3, h⟩ | ⟨b3, h⟩
    · refine x_icmp_neN dX12_undoesNext_67 (by decide) (fun hh => hh b3) (?_ : Ex _ _ 70 _ _ _ _ _)
      refine x_aload_n dX12_undoesNext_70 rfl rfl (Or.inr (by decide)) (?_ : Ex _ _ 71 _ _ _ _ _)
      refine x_bipush dX12_undoesNext_71 kb_23 (by decide) (?_ : Ex _ _ 73 _ _ _ _ _)
      refine x_iconst dX12_undoesNext_73 rfl (by decide) (?_ : Ex _ _ 74 _ _ _ _ _)
      obtain ⟨v7, m8, g9, h⟩ := cal_some h
      refine cV2 (e_X12_ends d g9) (contV (?_ : Ex _ _ 77 _ _ _ _ _)) og_X12_ends rfl ml_RX12_299 12 rfl rfl c1 im_X12_ends se_X12_ends (Nat.le_of_ble_eq_true rfl) dX12_undoesNext_74
      refine x_goto (tgt := 90) dX12_undoesNext_77 rfl (?_ : Ex _ _ 90 _ _ _ _ _)
      cases h
      exact x_retv dX12_undoesNext_90
    · refine x_icmp_ne (tgt := 80) dX12_undoesNext_67 rfl b3 (?_ : Ex _ _ 80 _ _ _ _ _)
      refine x_aload_n dX12_undoesNext_80 rfl rfl (Or.inr (by decide)) (?_ : Ex _ _ 81 _ _ _ _ _)
      refine x_bipush dX12_undoesNext_81 kb_22 (by decide) (?_ : Ex _ _ 83 _ _ _ _ _)
      refine x_aload_n dX12_undoesNext_83 rfl rfl (Or.inr (by decide)) (?_ : Ex _ _ 84 _ _ _ _ _)
      refine gt_12_43 c1 fl_RX12_246 dX12_undoesNext_84 (?_ : Ex _ _ 87 _ _ _ _ _)
      obtain ⟨v4, m5, g6, h⟩ := cal_some h
      refine cV2 (e_X12_ends d g6) (contV (?_ : Ex _ _ 90 _ _ _ _ _)) og_X12_ends rfl ml_RX12_299 12 rfl rfl c1 im_X12_ends se_X12_ends (Nat.le_of_ble_eq_true rfl) dX12_undoesNext_87
      cases h
      exact x_retv dX12_undoesNext_90
  · refine x_if_leN dX12_undoesNext_4 (by decide) b2 (?_ : Ex _ _ 7 _ _ _ _ _)
    refine x_aload_n dX12_undoesNext_7 rfl rfl (Or.inr (by decide)) (?_ : Ex _ _ 8 _ _ _ _ _)
    refine x_dup (by decide : (22 : Int) ≠ 2) dX12_undoesNext_8 (?_ : Ex _ _ 9 _ _ _ _ _)
    refine gt_12_71 c1 fl_RX12_280 dX12_undoesNext_9 (?_ : Ex _ _ 12 _ _ _ _ _)
    refine x_iconst dX12_undoesNext_12 rfl (by decide) (?_ : Ex _ _ 13 _ _ _ _ _)
    obtain ⟨c10, h⟩ := chk_some h
    refine x_isub dX12_undoesNext_13 c10 (?_ : Ex _ _ 14 _ _ _ _ _)
    obtain ⟨m11, hm11, h⟩ := st_some h
    refine pt_12_71  c1 fl_RX12_280 dX12_undoesNext_14 (?_ : Ex _ _ 17 _ _ _ _ _)
    rw [← hm11]
    refine x_aload_n dX12_undoesNext_17 rfl rfl (Or.inr (by decide)) (?_ : Ex _ _ 18 _ _ _ _ _)
    refine x_aload_n dX12_undoesNext_18 rfl rfl (Or.inr (by decide)) (?_ : Ex _ _ 19 _ _ _ _ _)
    refine gt_12_51 c1 fl_RX12_265 dX12_undoesNext_19 (?_ : Ex _ _ 22 _ _ _ _ _)
    obtain ⟨m12, hm12, h⟩ := st_some h
    refine pt_12_54  c1 fl_RX12_296 dX12_undoesNext_22 (?_ : Ex _ _ 25 _ _ _ _ _)
    rw [← hm12]
    refine x_aload_n dX12_undoesNext_25 rfl rfl (Or.inr (by decide)) (?_ : Ex _ _ 26 _ _ _ _ _)
    refine x_dup (by decide : (22 : Int) ≠ 2) dX12_undoesNext_26 (?_ : Ex _ _ 27 _ _ _ _ _)
    refine gt_12_51 c1 fl_RX12_265 dX12_undoesNext_27 (?_ : Ex _ _ 30 _ _ _ _ _)
    refine x_iconst dX12_undoesNext_30 rfl (by decide) (?_ : Ex _ _ 31 _ _ _ _ _)
    obtain ⟨c13, h⟩ := chk_some h
    refine x_iadd dX12_undoesNext_31 c13 (?_ : Ex _ _ 32 _ _ _ _ _)
    obtain ⟨m14, hm14, h⟩ := st_some h
    refine pt_12_51  c1 fl_RX12_265 dX12_undoesNext_32 (?_ : Ex _ _ 35 _ _ _ _ _)
    rw [← hm14]
    refine x_aload_n dX12_undoesNext_35 rfl rfl (Or.inr (by decide)) (?_ : Ex _ _ 36 _ _ _ _ _)
    refine x_bipush dX12_undoesNext_36 kb_15 (by decide) (?_ : Ex _ _ 38 _ _ _ _ _)
    refine x_aload_n dX12_undoesNext_38 rfl rfl (Or.inr (by decide)) (?_ : Ex _ _ 39 _ _ _ _ _)
    refine gt_12_69 c1 fl_RX12_152 dX12_undoesNext_39 (?_ : Ex _ _ 42 _ _ _ _ _)
    refine x_aload_n dX12_undoesNext_42 rfl rfl (Or.inr (by decide)) (?_ : Ex _ _ 43 _ _ _ _ _)
    refine gt_12_71 c1 fl_RX12_280 dX12_undoesNext_43 (?_ : Ex _ _ 46 _ _ _ _ _)
    obtain ⟨⟨c15, c16, c17⟩, h⟩ := chk_some h
    refine ld_i_5200 c15 c16 c17 dX12_undoesNext_46 (?_ : Ex _ _ 47 _ _ _ _ _)
    refine x_aload_n dX12_undoesNext_47 rfl rfl (Or.inr (by decide)) (?_ : Ex _ _ 48 _ _ _ _ _)
    refine gt_12_70 c1 fl_RX12_155 dX12_undoesNext_48 (?_ : Ex _ _ 51 _ _ _ _ _)
    refine x_aload_n dX12_undoesNext_51 rfl rfl (Or.inr (by decide)) (?_ : Ex _ _ 52 _ _ _ _ _)
    refine gt_12_71 c1 fl_RX12_280 dX12_undoesNext_52 (?_ : Ex _ _ 55 _ _ _ _ _)
    obtain ⟨⟨c18, c19, c20⟩, h⟩ := chk_some h
    refine ld_i_5200 c18 c19 c20 dX12_undoesNext_55 (?_ : Ex _ _ 56 _ _ _ _ _)
    obtain ⟨v21, m22, g23, h⟩ := cal_some h
    refine cV3 (e_X12_decides (d + 1) g23) (contV (?_ : Ex _ _ 59 _ _ _ _ _)) og_X12_decides rfl ml_RX12_292 12 rfl rfl c1 im_X12_decides se_X12_decides (Nat.le_of_ble_eq_true rfl) dX12_undoesNext_56
    refine x_goto (tgt := 90) dX12_undoesNext_59 rfl (?_ : Ex _ _ 90 _ _ _ _ _)
    cases h
    exact x_retv dX12_undoesNext_90
theorem e_X12_undoesNext (d : Nat) {a0 : Int} {m : Mem} {v : Int} {m' : Mem} (h : X12_undoesNext a0 m = some (v, m')) : ExM (d + 2) fm_X12_undoesNext [(22, a0)] m (.inl (3, 0)) m' := by
  exact ExM.of (by decide +kernel) (Nat.le_of_ble_eq_true rfl) (cat9 rfl) retV (e_X12_undoesNext_0 d h)
theorem dX12_fails_0 : decode cX12_fails 0 = .ok (.aload_n 0, 1) := by decide +kernel
theorem dX12_fails_1 : decode cX12_fails 1 = .ok (.iconst 1, 1) := by decide +kernel
theorem dX12_fails_2 : decode cX12_fails 2 = .ok (.putfield 243, 3) := by decide +kernel
theorem dX12_fails_5 : decode cX12_fails 5 = .ok (.aload_n 0, 1) := by decide +kernel
theorem dX12_fails_6 : decode cX12_fails 6 = .ok (.iload_n 1, 1) := by decide +kernel
theorem dX12_fails_7 : decode cX12_fails 7 = .ok (.putfield 246, 3) := by decide +kernel
theorem dX12_fails_10 : decode cX12_fails 10 = .ok (.aload_n 0, 1) := by decide +kernel
theorem dX12_fails_11 : decode cX12_fails 11 = .ok (.iconst 0, 1) := by decide +kernel
theorem dX12_fails_12 : decode cX12_fails 12 = .ok (.putfield 274, 3) := by decide +kernel
theorem dX12_fails_15 : decode cX12_fails 15 = .ok (.aload_n 0, 1) := by decide +kernel
theorem dX12_fails_16 : decode cX12_fails 16 = .ok (.invokevirtual 301, 3) := by decide +kernel
theorem dX12_fails_19 : decode cX12_fails 19 = .ok (.return_, 1) := by decide +kernel
theorem e_X12_fails_0 (d : Nat) {l0 l1 : Int} {m : Mem} {v : Int} {m' : Mem} (h : X12_fails_0 l0 l1 m = some (v, m')) : Ex (d + 3) fm_X12_fails 0 [(22, l0), (0, l1)] [] m (.inl (3, 0)) m' := by
  unfold X12_fails_0 at h
  refine x_aload_n dX12_fails_0 rfl rfl (Or.inr (by decide)) (?_ : Ex _ _ 1 _ _ _ _ _)
  refine x_iconst dX12_fails_1 rfl (by decide) (?_ : Ex _ _ 2 _ _ _ _ _)
  obtain ⟨c1, h⟩ := chk_some h
  obtain ⟨m2, hm2, h⟩ := st_some h
  refine pt_12_42  c1 fl_RX12_243 dX12_fails_2 (?_ : Ex _ _ 5 _ _ _ _ _)
  rw [← hm2]
  refine x_aload_n dX12_fails_5 rfl rfl (Or.inr (by decide)) (?_ : Ex _ _ 6 _ _ _ _ _)
  refine x_iload_n dX12_fails_6 rfl rfl (?_ : Ex _ _ 7 _ _ _ _ _)
  obtain ⟨m3, hm3, h⟩ := st_some h
  refine pt_12_43  c1 fl_RX12_246 dX12_fails_7 (?_ : Ex _ _ 10 _ _ _ _ _)
  rw [← hm3]
  refine x_aload_n dX12_fails_10 rfl rfl (Or.inr (by decide)) (?_ : Ex _ _ 11 _ _ _ _ _)
  refine x_iconst dX12_fails_11 rfl (by decide) (?_ : Ex _ _ 12 _ _ _ _ _)
  obtain ⟨m4, hm4, h⟩ := st_some h
  refine pt_12_55  c1 fl_RX12_274 dX12_fails_12 (?_ : Ex _ _ 15 _ _ _ _ _)
  rw [← hm4]
  refine x_aload_n dX12_fails_15 rfl rfl (Or.inr (by decide)) (?_ : Ex _ _ 16 _ _ _ _ _)
  obtain ⟨v5, m6, g7, h⟩ := cal_some h
  refine cV0 (e_X12_undoesNext d g7) (contV (?_ : Ex _ _ 19 _ _ _ _ _)) og_X12_undoesNext rfl ml_RX12_301 12 rfl rfl c1 im_X12_undoesNext se_X12_undoesNext (Nat.le_of_ble_eq_true rfl) dX12_fails_16
  cases h
  exact x_retv dX12_fails_19
theorem e_X12_fails (d : Nat) {a0 a1 : Int} {m : Mem} {v : Int} {m' : Mem} (h : X12_fails a0 a1 m = some (v, m')) : ExM (d + 3) fm_X12_fails [(22, a0), (0, a1)] m (.inl (3, 0)) m' := by
  exact ExM.of (by decide +kernel) (Nat.le_of_ble_eq_true rfl) (cat9 rfl) retV (e_X12_fails_0 d h)
theorem dX12_cuts_0 : decode cX12_cuts 0 = .ok (.iconst 0, 1) := by decide +kernel
theorem dX12_cuts_1 : decode cX12_cuts 1 = .ok (.istore_n 1, 1) := by decide +kernel
theorem dX12_cuts_2 : decode cX12_cuts 2 = .ok (.iload_n 1, 1) := by decide +kernel
theorem dX12_cuts_3 : decode cX12_cuts 3 = .ok (.aload_n 0, 1) := by decide +kernel
theorem dX12_cuts_4 : decode cX12_cuts 4 = .ok (.getfield 265, 3) := by decide +kernel
theorem dX12_cuts_7 : decode cX12_cuts 7 = .ok (.if_icmp .ge 61, 3) := by decide +kernel
theorem dX12_cuts_10 : decode cX12_cuts 10 = .ok (.iconst 0, 1) := by decide +kernel
theorem dX12_cuts_11 : decode cX12_cuts 11 = .ok (.istore_n 2, 1) := by decide +kernel
theorem dX12_cuts_12 : decode cX12_cuts 12 = .ok (.iload_n 2, 1) := by decide +kernel
theorem dX12_cuts_13 : decode cX12_cuts 13 = .ok (.aload_n 0, 1) := by decide +kernel
theorem dX12_cuts_14 : decode cX12_cuts 14 = .ok (.getfield 274, 3) := by decide +kernel
theorem dX12_cuts_17 : decode cX12_cuts 17 = .ok (.if_icmp .ge 45, 3) := by decide +kernel
theorem dX12_cuts_20 : decode cX12_cuts 20 = .ok (.aload_n 0, 1) := by decide +kernel
theorem dX12_cuts_21 : decode cX12_cuts 21 = .ok (.getfield 119, 3) := by decide +kernel
theorem dX12_cuts_24 : decode cX12_cuts 24 = .ok (.iload_n 2, 1) := by decide +kernel
theorem dX12_cuts_25 : decode cX12_cuts 25 = .ok (.iaload, 1) := by decide +kernel
theorem dX12_cuts_26 : decode cX12_cuts 26 = .ok (.ifCond .ne 30, 3) := by decide +kernel
theorem dX12_cuts_29 : decode cX12_cuts 29 = .ok (.aload_n 0, 1) := by decide +kernel
theorem dX12_cuts_30 : decode cX12_cuts 30 = .ok (.getfield 131, 3) := by decide +kernel
theorem dX12_cuts_33 : decode cX12_cuts 33 = .ok (.iload_n 2, 1) := by decide +kernel
theorem dX12_cuts_34 : decode cX12_cuts 34 = .ok (.baload, 1) := by decide +kernel
theorem dX12_cuts_35 : decode cX12_cuts 35 = .ok (.ifCond .ne 21, 3) := by decide +kernel
theorem dX12_cuts_38 : decode cX12_cuts 38 = .ok (.aload_n 0, 1) := by decide +kernel
theorem dX12_cuts_39 : decode cX12_cuts 39 = .ok (.getfield 125, 3) := by decide +kernel
theorem dX12_cuts_42 : decode cX12_cuts 42 = .ok (.iload_n 2, 1) := by decide +kernel
theorem dX12_cuts_43 : decode cX12_cuts 43 = .ok (.iaload, 1) := by decide +kernel
theorem dX12_cuts_44 : decode cX12_cuts 44 = .ok (.iload_n 1, 1) := by decide +kernel
theorem dX12_cuts_45 : decode cX12_cuts 45 = .ok (.if_icmp .ne 11, 3) := by decide +kernel
theorem dX12_cuts_48 : decode cX12_cuts 48 = .ok (.aload_n 0, 1) := by decide +kernel
theorem dX12_cuts_49 : decode cX12_cuts 49 = .ok (.bipush 9, 2) := by decide +kernel
theorem dX12_cuts_51 : decode cX12_cuts 51 = .ok (.iload_n 1, 1) := by decide +kernel
theorem dX12_cuts_52 : decode cX12_cuts 52 = .ok (.iconst 0, 1) := by decide +kernel
theorem dX12_cuts_53 : decode cX12_cuts 53 = .ok (.invokevirtual 292, 3) := by decide +kernel
theorem dX12_cuts_56 : decode cX12_cuts 56 = .ok (.iinc 2 1, 3) := by decide +kernel
theorem dX12_cuts_59 : decode cX12_cuts 59 = .ok (.goto (-47), 3) := by decide +kernel
theorem dX12_cuts_62 : decode cX12_cuts 62 = .ok (.iinc 1 1, 3) := by decide +kernel
theorem dX12_cuts_65 : decode cX12_cuts 65 = .ok (.goto (-63), 3) := by decide +kernel
theorem dX12_cuts_68 : decode cX12_cuts 68 = .ok (.iconst 0, 1) := by decide +kernel
theorem dX12_cuts_69 : decode cX12_cuts 69 = .ok (.istore_n 1, 1) := by decide +kernel
theorem dX12_cuts_70 : decode cX12_cuts 70 = .ok (.iload_n 1, 1) := by decide +kernel
theorem dX12_cuts_71 : decode cX12_cuts 71 = .ok (.aload_n 0, 1) := by decide +kernel
theorem dX12_cuts_72 : decode cX12_cuts 72 = .ok (.getfield 268, 3) := by decide +kernel
theorem dX12_cuts_75 : decode cX12_cuts 75 = .ok (.if_icmp .ge 52, 3) := by decide +kernel
theorem dX12_cuts_78 : decode cX12_cuts 78 = .ok (.iconst 0, 1) := by decide +kernel
theorem dX12_cuts_79 : decode cX12_cuts 79 = .ok (.istore_n 2, 1) := by decide +kernel
theorem dX12_cuts_80 : decode cX12_cuts 80 = .ok (.iload_n 2, 1) := by decide +kernel
theorem dX12_cuts_81 : decode cX12_cuts 81 = .ok (.aload_n 0, 1) := by decide +kernel
theorem dX12_cuts_82 : decode cX12_cuts 82 = .ok (.getfield 274, 3) := by decide +kernel
theorem dX12_cuts_85 : decode cX12_cuts 85 = .ok (.if_icmp .ge 36, 3) := by decide +kernel
theorem dX12_cuts_88 : decode cX12_cuts 88 = .ok (.aload_n 0, 1) := by decide +kernel
theorem dX12_cuts_89 : decode cX12_cuts 89 = .ok (.getfield 131, 3) := by decide +kernel
theorem dX12_cuts_92 : decode cX12_cuts 92 = .ok (.iload_n 2, 1) := by decide +kernel
theorem dX12_cuts_93 : decode cX12_cuts 93 = .ok (.baload, 1) := by decide +kernel
theorem dX12_cuts_94 : decode cX12_cuts 94 = .ok (.ifCond .ne 21, 3) := by decide +kernel
theorem dX12_cuts_97 : decode cX12_cuts 97 = .ok (.aload_n 0, 1) := by decide +kernel
theorem dX12_cuts_98 : decode cX12_cuts 98 = .ok (.getfield 128, 3) := by decide +kernel
theorem dX12_cuts_101 : decode cX12_cuts 101 = .ok (.iload_n 2, 1) := by decide +kernel
theorem dX12_cuts_102 : decode cX12_cuts 102 = .ok (.iaload, 1) := by decide +kernel
theorem dX12_cuts_103 : decode cX12_cuts 103 = .ok (.iload_n 1, 1) := by decide +kernel
theorem dX12_cuts_104 : decode cX12_cuts 104 = .ok (.if_icmp .ne 11, 3) := by decide +kernel
theorem dX12_cuts_107 : decode cX12_cuts 107 = .ok (.aload_n 0, 1) := by decide +kernel
theorem dX12_cuts_108 : decode cX12_cuts 108 = .ok (.bipush 11, 2) := by decide +kernel
theorem dX12_cuts_110 : decode cX12_cuts 110 = .ok (.iload_n 1, 1) := by decide +kernel
theorem dX12_cuts_111 : decode cX12_cuts 111 = .ok (.iconst 0, 1) := by decide +kernel
theorem dX12_cuts_112 : decode cX12_cuts 112 = .ok (.invokevirtual 292, 3) := by decide +kernel
theorem dX12_cuts_115 : decode cX12_cuts 115 = .ok (.iinc 2 1, 3) := by decide +kernel
theorem dX12_cuts_118 : decode cX12_cuts 118 = .ok (.goto (-38), 3) := by decide +kernel
theorem dX12_cuts_121 : decode cX12_cuts 121 = .ok (.iinc 1 1, 3) := by decide +kernel
theorem dX12_cuts_124 : decode cX12_cuts 124 = .ok (.goto (-54), 3) := by decide +kernel
theorem dX12_cuts_127 : decode cX12_cuts 127 = .ok (.aload_n 0, 1) := by decide +kernel
theorem dX12_cuts_128 : decode cX12_cuts 128 = .ok (.iconst (-1), 1) := by decide +kernel
theorem dX12_cuts_129 : decode cX12_cuts 129 = .ok (.invokevirtual 304, 3) := by decide +kernel
theorem dX12_cuts_132 : decode cX12_cuts 132 = .ok (.return_, 1) := by decide +kernel
theorem e_X12_cuts_127 (d : Nat) {l0 : Int} {m : Mem} {v : Int} {m' : Mem} (h : X12_cuts_127 l0 m = some (v, m')) : Ex (d + 4) fm_X12_cuts 127 [(22, l0), (3, 0), (3, 0)] [] m (.inl (3, 0)) m' := by
  unfold X12_cuts_127 at h
  refine x_aload_n dX12_cuts_127 rfl rfl (Or.inr (by decide)) (?_ : Ex _ _ 128 _ _ _ _ _)
  refine x_iconst dX12_cuts_128 rfl (by decide) (?_ : Ex _ _ 129 _ _ _ _ _)
  obtain ⟨c1, h⟩ := chk_some h
  obtain ⟨v2, m3, g4, h⟩ := cal_some h
  refine cV1 (e_X12_fails d g4) (contV (?_ : Ex _ _ 132 _ _ _ _ _)) og_X12_fails rfl ml_RX12_304 12 rfl rfl c1 im_X12_fails se_X12_fails (Nat.le_of_ble_eq_true rfl) dX12_cuts_129
  cases h
  exact x_retv dX12_cuts_132
theorem e_X12_cuts_80 (d : Nat) {k70 : Int → Int → Mem → Option R2} (hk70 : ∀ {l0 l1 : Int} {m : Mem} {v : Int} {m' : Mem}, k70 l0 l1 m = some (v, m') → Ex (d + 4) fm_X12_cuts 70 [(22, l0), (0, l1), (3, 0)] [] m (.inl (3, 0)) m') : ∀ (n : Nat) {l0 l1 l2 : Int} {m : Mem} {v : Int} {m' : Mem}, X12_cuts_80 k70 n l0 l1 l2 m = some (v, m') → Ex (d + 4) fm_X12_cuts 80 [(22, l0), (0, l1), (0, l2)] [] m (.inl (3, 0)) m' := by
  intro n
  induction n with
  | zero =>
    intro l0 l1 l2 m v m' h
    have h : (none : Option R2) = some _ := h
    cases h
  | succ n ih =>
    intro l0 l1 l2 m v m' h
    rw [X12_cuts_80] at h
    refine x_iload_n dX12_cuts_80 rfl rfl (?_ : Ex _ _ 81 _ _ _ _ _)
    refine x_aload_n dX12_cuts_81 rfl rfl (Or.inr (by decide)) (?_ : Ex _ _ 82 _ _ _ _ _)
    obtain ⟨c1, h⟩ := chk_some h
    refine gt_12_55 c1 fl_RX12_274 dX12_cuts_82 (?_ : Ex _ _ 85 _ _ _ _ _)
    rcases ite_some h with ⟨b2, h⟩ | ⟨b2, h⟩
    · refine x_icmp_ge (tgt := 121) dX12_cuts_85 rfl b2 (?_ : Ex _ _ 121 _ _ _ _ _)
      obtain ⟨c3, h⟩ := chk_some h
      refine x_iinc (ls2 := [(22, l0), (0, (l1 + 1)), (0, l2)]) dX12_cuts_121 rfl c3 rfl (?_ : Ex _ _ 124 _ _ _ _ _)
      refine x_goto (tgt := 70) dX12_cuts_124 rfl (?_ : Ex _ _ 70 _ _ _ _ _)
      refine Ex.wk (ls2 := [(22, l0), (0, (l1 + 1)), (3, 0)]) ⟨Or.inr rfl, Or.inr rfl, Or.inl rfl, trivial⟩ ?_
      exact hk70 h
    · refine x_icmp_geN dX12_cuts_85 (by decide) b2 (?_ : Ex _ _ 88 _ _ _ _ _)
      refine x_aload_n dX12_cuts_88 rfl rfl (Or.inr (by decide)) (?_ : Ex _ _ 89 _ _ _ _ _)
      refine gt_12_60 c1 fl_RX12_131 dX12_cuts_89 (?_ : Ex _ _ 92 _ _ _ _ _)
      refine x_iload_n dX12_cuts_92 rfl rfl (?_ : Ex _ _ 93 _ _ _ _ _)
      obtain ⟨⟨c4, c5, c6⟩, h⟩ := chk_some h
      refine ld_b_3 c4 c5 c6 dX12_cuts_93 (?_ : Ex _ _ 94 _ _ _ _ _)
      rcases ite_some h with ⟨b7, h⟩ | ⟨b7, h⟩
      · refine x_if_neN dX12_cuts_94 (by decide) (fun hh => hh b7) (?_ : Ex _ _ 97 _ _ _ _ _)
        refine x_aload_n dX12_cuts_97 rfl rfl (Or.inr (by decide)) (?_ : Ex _ _ 98 _ _ _ _ _)
        refine gt_12_59 c1 fl_RX12_128 dX12_cuts_98 (?_ : Ex _ _ 101 _ _ _ _ _)
        refine x_iload_n dX12_cuts_101 rfl rfl (?_ : Ex _ _ 102 _ _ _ _ _)
        obtain ⟨⟨c9, c10, c11⟩, h⟩ := chk_some h
        refine ld_i_3 c9 c10 c11 dX12_cuts_102 (?_ : Ex _ _ 103 _ _ _ _ _)
        refine x_iload_n dX12_cuts_103 rfl rfl (?_ : Ex _ _ 104 _ _ _ _ _)
        rcases ite_some h with ⟨b12, h⟩ | ⟨b12, h⟩
        · refine x_icmp_neN dX12_cuts_104 (by decide) (fun hh => hh b12) (?_ : Ex _ _ 107 _ _ _ _ _)
          refine x_aload_n dX12_cuts_107 rfl rfl (Or.inr (by decide)) (?_ : Ex _ _ 108 _ _ _ _ _)
          refine x_bipush dX12_cuts_108 kb_11 (by decide) (?_ : Ex _ _ 110 _ _ _ _ _)
          refine x_iload_n dX12_cuts_110 rfl rfl (?_ : Ex _ _ 111 _ _ _ _ _)
          refine x_iconst dX12_cuts_111 rfl (by decide) (?_ : Ex _ _ 112 _ _ _ _ _)
          obtain ⟨v14, m15, g16, h⟩ := cal_some h
          refine cV3 (e_X12_decides (d + 3) g16) (contV (?_ : Ex _ _ 115 _ _ _ _ _)) og_X12_decides rfl ml_RX12_292 12 rfl rfl c1 im_X12_decides se_X12_decides (Nat.le_of_ble_eq_true rfl) dX12_cuts_112
          obtain ⟨c17, h⟩ := chk_some h
          refine x_iinc (ls2 := [(22, l0), (0, l1), (0, (l2 + 1))]) dX12_cuts_115 rfl c17 rfl (?_ : Ex _ _ 118 _ _ _ _ _)
          refine x_goto (tgt := 80) dX12_cuts_118 rfl (?_ : Ex _ _ 80 _ _ _ _ _)
          exact ih h
        · refine x_icmp_ne (tgt := 115) dX12_cuts_104 rfl b12 (?_ : Ex _ _ 115 _ _ _ _ _)
          obtain ⟨c13, h⟩ := chk_some h
          refine x_iinc (ls2 := [(22, l0), (0, l1), (0, (l2 + 1))]) dX12_cuts_115 rfl c13 rfl (?_ : Ex _ _ 118 _ _ _ _ _)
          refine x_goto (tgt := 80) dX12_cuts_118 rfl (?_ : Ex _ _ 80 _ _ _ _ _)
          exact ih h
      · refine x_if_ne (tgt := 115) dX12_cuts_94 rfl b7 (?_ : Ex _ _ 115 _ _ _ _ _)
        obtain ⟨c8, h⟩ := chk_some h
        refine x_iinc (ls2 := [(22, l0), (0, l1), (0, (l2 + 1))]) dX12_cuts_115 rfl c8 rfl (?_ : Ex _ _ 118 _ _ _ _ _)
        refine x_goto (tgt := 80) dX12_cuts_118 rfl (?_ : Ex _ _ 80 _ _ _ _ _)
        exact ih h
theorem e_X12_cuts_70 (d : Nat) {k127 : Int → Mem → Option R2} (hk127 : ∀ {l0 : Int} {m : Mem} {v : Int} {m' : Mem}, k127 l0 m = some (v, m') → Ex (d + 4) fm_X12_cuts 127 [(22, l0), (3, 0), (3, 0)] [] m (.inl (3, 0)) m') : ∀ (n : Nat) {l0 l1 : Int} {m : Mem} {v : Int} {m' : Mem}, X12_cuts_70 k127 n l0 l1 m = some (v, m') → Ex (d + 4) fm_X12_cuts 70 [(22, l0), (0, l1), (3, 0)] [] m (.inl (3, 0)) m' := by
  intro n
  induction n with
  | zero =>
    intro l0 l1 m v m' h
    have h : (none : Option R2) = some _ := h
    cases h
  | succ n ih =>
    intro l0 l1 m v m' h
    rw [X12_cuts_70] at h
    refine x_iload_n dX12_cuts_70 rfl rfl (?_ : Ex _ _ 71 _ _ _ _ _)
    refine x_aload_n dX12_cuts_71 rfl rfl (Or.inr (by decide)) (?_ : Ex _ _ 72 _ _ _ _ _)
    obtain ⟨c1, h⟩ := chk_some h
    refine gt_12_52 c1 fl_RX12_268 dX12_cuts_72 (?_ : Ex _ _ 75 _ _ _ _ _)
    rcases ite_some h with ⟨b2, h⟩ | ⟨b2, h⟩
    · refine x_icmp_ge (tgt := 127) dX12_cuts_75 rfl b2 (?_ : Ex _ _ 127 _ _ _ _ _)
      refine Ex.wk (ls2 := [(22, l0), (3, 0), (3, 0)]) ⟨Or.inr rfl, Or.inl rfl, Or.inl rfl, trivial⟩ ?_
      exact hk127 h
    · refine x_icmp_geN dX12_cuts_75 (by decide) b2 (?_ : Ex _ _ 78 _ _ _ _ _)
      refine x_iconst dX12_cuts_78 rfl (by decide) (?_ : Ex _ _ 79 _ _ _ _ _)
      refine x_istore_n (ls2 := [(22, l0), (0, l1), (0, 0)]) dX12_cuts_79 rfl (Nat.le_of_ble_eq_true rfl) rfl (?_ : Ex _ _ 80 _ _ _ _ _)
      exact e_X12_cuts_80 d ih fuel9 h
theorem e_X12_cuts_12 (d : Nat) {k2 : Int → Int → Mem → Option R2} (hk2 : ∀ {l0 l1 : Int} {m : Mem} {v : Int} {m' : Mem}, k2 l0 l1 m = some (v, m') → Ex (d + 4) fm_X12_cuts 2 [(22, l0), (0, l1), (3, 0)] [] m (.inl (3, 0)) m') : ∀ (n : Nat) {l0 l1 l2 : Int} {m : Mem} {v : Int} {m' : Mem}, X12_cuts_12 k2 n l0 l1 l2 m = some (v, m') → Ex (d + 4) fm_X12_cuts 12 [(22, l0), (0, l1), (0, l2)] [] m (.inl (3, 0)) m' := by
  intro n
  induction n with
  | zero =>
    intro l0 l1 l2 m v m' h
    have h : (none : Option R2) = some _ := h
    cases h
  | succ n ih =>
    intro l0 l1 l2 m v m' h
    rw [X12_cuts_12] at h
    refine x_iload_n dX12_cuts_12 rfl rfl (?_ : Ex _ _ 13 _ _ _ _ _)
    refine x_aload_n dX12_cuts_13 rfl rfl (Or.inr (by decide)) (?_ : Ex _ _ 14 _ _ _ _ _)
    obtain ⟨c1, h⟩ := chk_some h
    refine gt_12_55 c1 fl_RX12_274 dX12_cuts_14 (?_ : Ex _ _ 17 _ _ _ _ _)
    rcases ite_some h with ⟨b2, h⟩ | ⟨b2, h⟩
    · refine x_icmp_ge (tgt := 62) dX12_cuts_17 rfl b2 (?_ : Ex _ _ 62 _ _ _ _ _)
      obtain ⟨c3, h⟩ := chk_some h
      refine x_iinc (ls2 := [(22, l0), (0, (l1 + 1)), (0, l2)]) dX12_cuts_62 rfl c3 rfl (?_ : Ex _ _ 65 _ _ _ _ _)
      refine x_goto (tgt := 2) dX12_cuts_65 rfl (?_ : Ex _ _ 2 _ _ _ _ _)
      refine Ex.wk (ls2 := [(22, l0), (0, (l1 + 1)), (3, 0)]) ⟨Or.inr rfl, Or.inr rfl, Or.inl rfl, trivial⟩ ?_
      exact hk2 h
    · refine x_icmp_geN dX12_cuts_17 (by decide) b2 (?_ : Ex _ _ 20 _ _ _ _ _)
      refine x_aload_n dX12_cuts_20 rfl rfl (Or.inr (by decide)) (?_ : Ex _ _ 21 _ _ _ _ _)
      refine gt_12_56 c1 fl_RX12_119 dX12_cuts_21 (?_ : Ex _ _ 24 _ _ _ _ _)
      refine x_iload_n dX12_cuts_24 rfl rfl (?_ : Ex _ _ 25 _ _ _ _ _)
      obtain ⟨⟨c4, c5, c6⟩, h⟩ := chk_some h
      refine ld_i_3 c4 c5 c6 dX12_cuts_25 (?_ : Ex _ _ 26 _ _ _ _ _)
      rcases ite_some h with ⟨b7, h⟩ | ⟨b7, h⟩
      · refine x_if_neN dX12_cuts_26 (by decide) (fun hh => hh b7) (?_ : Ex _ _ 29 _ _ _ _ _)
        refine x_aload_n dX12_cuts_29 rfl rfl (Or.inr (by decide)) (?_ : Ex _ _ 30 _ _ _ _ _)
        refine gt_12_60 c1 fl_RX12_131 dX12_cuts_30 (?_ : Ex _ _ 33 _ _ _ _ _)
        refine x_iload_n dX12_cuts_33 rfl rfl (?_ : Ex _ _ 34 _ _ _ _ _)
        obtain ⟨⟨c9, c10, c11⟩, h⟩ := chk_some h
        refine ld_b_3 c9 c10 c11 dX12_cuts_34 (?_ : Ex _ _ 35 _ _ _ _ _)
        rcases ite_some h with ⟨b12, h⟩ | ⟨b12, h⟩
        · refine x_if_neN dX12_cuts_35 (by decide) (fun hh => hh b12) (?_ : Ex _ _ 38 _ _ _ _ _)
          refine x_aload_n dX12_cuts_38 rfl rfl (Or.inr (by decide)) (?_ : Ex _ _ 39 _ _ _ _ _)
          refine gt_12_58 c1 fl_RX12_125 dX12_cuts_39 (?_ : Ex _ _ 42 _ _ _ _ _)
          refine x_iload_n dX12_cuts_42 rfl rfl (?_ : Ex _ _ 43 _ _ _ _ _)
          obtain ⟨⟨c14, c15, c16⟩, h⟩ := chk_some h
          refine ld_i_3 c14 c15 c16 dX12_cuts_43 (?_ : Ex _ _ 44 _ _ _ _ _)
          refine x_iload_n dX12_cuts_44 rfl rfl (?_ : Ex _ _ 45 _ _ _ _ _)
          rcases ite_some h with ⟨b17, h⟩ | ⟨b17, h⟩
          · refine x_icmp_neN dX12_cuts_45 (by decide) (fun hh => hh b17) (?_ : Ex _ _ 48 _ _ _ _ _)
            refine x_aload_n dX12_cuts_48 rfl rfl (Or.inr (by decide)) (?_ : Ex _ _ 49 _ _ _ _ _)
            refine x_bipush dX12_cuts_49 kb_9 (by decide) (?_ : Ex _ _ 51 _ _ _ _ _)
            refine x_iload_n dX12_cuts_51 rfl rfl (?_ : Ex _ _ 52 _ _ _ _ _)
            refine x_iconst dX12_cuts_52 rfl (by decide) (?_ : Ex _ _ 53 _ _ _ _ _)
            obtain ⟨v19, m20, g21, h⟩ := cal_some h
            refine cV3 (e_X12_decides (d + 3) g21) (contV (?_ : Ex _ _ 56 _ _ _ _ _)) og_X12_decides rfl ml_RX12_292 12 rfl rfl c1 im_X12_decides se_X12_decides (Nat.le_of_ble_eq_true rfl) dX12_cuts_53
            obtain ⟨c22, h⟩ := chk_some h
            refine x_iinc (ls2 := [(22, l0), (0, l1), (0, (l2 + 1))]) dX12_cuts_56 rfl c22 rfl (?_ : Ex _ _ 59 _ _ _ _ _)
            refine x_goto (tgt := 12) dX12_cuts_59 rfl (?_ : Ex _ _ 12 _ _ _ _ _)
            exact ih h
          · refine x_icmp_ne (tgt := 56) dX12_cuts_45 rfl b17 (?_ : Ex _ _ 56 _ _ _ _ _)
            obtain ⟨c18, h⟩ := chk_some h
            refine x_iinc (ls2 := [(22, l0), (0, l1), (0, (l2 + 1))]) dX12_cuts_56 rfl c18 rfl (?_ : Ex _ _ 59 _ _ _ _ _)
            refine x_goto (tgt := 12) dX12_cuts_59 rfl (?_ : Ex _ _ 12 _ _ _ _ _)
            exact ih h
        · refine x_if_ne (tgt := 56) dX12_cuts_35 rfl b12 (?_ : Ex _ _ 56 _ _ _ _ _)
          obtain ⟨c13, h⟩ := chk_some h
          refine x_iinc (ls2 := [(22, l0), (0, l1), (0, (l2 + 1))]) dX12_cuts_56 rfl c13 rfl (?_ : Ex _ _ 59 _ _ _ _ _)
          refine x_goto (tgt := 12) dX12_cuts_59 rfl (?_ : Ex _ _ 12 _ _ _ _ _)
          exact ih h
      · refine x_if_ne (tgt := 56) dX12_cuts_26 rfl b7 (?_ : Ex _ _ 56 _ _ _ _ _)
        obtain ⟨c8, h⟩ := chk_some h
        refine x_iinc (ls2 := [(22, l0), (0, l1), (0, (l2 + 1))]) dX12_cuts_56 rfl c8 rfl (?_ : Ex _ _ 59 _ _ _ _ _)
        refine x_goto (tgt := 12) dX12_cuts_59 rfl (?_ : Ex _ _ 12 _ _ _ _ _)
        exact ih h
theorem e_X12_cuts_2 (d : Nat) {k70 : Int → Int → Mem → Option R2} (hk70 : ∀ {l0 l1 : Int} {m : Mem} {v : Int} {m' : Mem}, k70 l0 l1 m = some (v, m') → Ex (d + 4) fm_X12_cuts 70 [(22, l0), (0, l1), (3, 0)] [] m (.inl (3, 0)) m') : ∀ (n : Nat) {l0 l1 : Int} {m : Mem} {v : Int} {m' : Mem}, X12_cuts_2 k70 n l0 l1 m = some (v, m') → Ex (d + 4) fm_X12_cuts 2 [(22, l0), (0, l1), (3, 0)] [] m (.inl (3, 0)) m' := by
  intro n
  induction n with
  | zero =>
    intro l0 l1 m v m' h
    have h : (none : Option R2) = some _ := h
    cases h
  | succ n ih =>
    intro l0 l1 m v m' h
    rw [X12_cuts_2] at h
    refine x_iload_n dX12_cuts_2 rfl rfl (?_ : Ex _ _ 3 _ _ _ _ _)
    refine x_aload_n dX12_cuts_3 rfl rfl (Or.inr (by decide)) (?_ : Ex _ _ 4 _ _ _ _ _)
    obtain ⟨c1, h⟩ := chk_some h
    refine gt_12_51 c1 fl_RX12_265 dX12_cuts_4 (?_ : Ex _ _ 7 _ _ _ _ _)
    rcases ite_some h with ⟨b2, h⟩ | ⟨b2, h⟩
    · refine x_icmp_ge (tgt := 68) dX12_cuts_7 rfl b2 (?_ : Ex _ _ 68 _ _ _ _ _)
      refine x_iconst dX12_cuts_68 rfl (by decide) (?_ : Ex _ _ 69 _ _ _ _ _)
      refine x_istore_n (ls2 := [(22, l0), (0, 0), (3, 0)]) dX12_cuts_69 rfl (Nat.le_of_ble_eq_true rfl) rfl (?_ : Ex _ _ 70 _ _ _ _ _)
      exact hk70 h
    · refine x_icmp_geN dX12_cuts_7 (by decide) b2 (?_ : Ex _ _ 10 _ _ _ _ _)
      refine x_iconst dX12_cuts_10 rfl (by decide) (?_ : Ex _ _ 11 _ _ _ _ _)
      refine x_istore_n (ls2 := [(22, l0), (0, l1), (0, 0)]) dX12_cuts_11 rfl (Nat.le_of_ble_eq_true rfl) rfl (?_ : Ex _ _ 12 _ _ _ _ _)
      exact e_X12_cuts_12 d ih fuel9 h
theorem e_X12_cuts_0 (d : Nat) {l0 : Int} {m : Mem} {v : Int} {m' : Mem} (h : X12_cuts_0 l0 m = some (v, m')) : Ex (d + 4) fm_X12_cuts 0 [(22, l0), (3, 0), (3, 0)] [] m (.inl (3, 0)) m' := by
  unfold X12_cuts_0 at h
  refine x_iconst dX12_cuts_0 rfl (by decide) (?_ : Ex _ _ 1 _ _ _ _ _)
  refine x_istore_n (ls2 := [(22, l0), (0, 0), (3, 0)]) dX12_cuts_1 rfl (Nat.le_of_ble_eq_true rfl) rfl (?_ : Ex _ _ 2 _ _ _ _ _)
  exact e_X12_cuts_2 d (fun h => e_X12_cuts_70 d (fun h => e_X12_cuts_127 d h) fuel9 h) fuel9 h
theorem e_X12_cuts (d : Nat) {a0 : Int} {m : Mem} {v : Int} {m' : Mem} (h : X12_cuts a0 m = some (v, m')) : ExM (d + 4) fm_X12_cuts [(22, a0)] m (.inl (3, 0)) m' := by
  exact ExM.of (by decide +kernel) (Nat.le_of_ble_eq_true rfl) (cat9 rfl) retV (e_X12_cuts_0 d h)
theorem dX12_untaken_0 : decode cX12_untaken 0 = .ok (.iconst (-1), 1) := by decide +kernel
theorem dX12_untaken_1 : decode cX12_untaken 1 = .ok (.istore_n 2, 1) := by decide +kernel
theorem dX12_untaken_2 : decode cX12_untaken 2 = .ok (.aload_n 0, 1) := by decide +kernel
theorem dX12_untaken_3 : decode cX12_untaken 3 = .ok (.getfield 277, 3) := by decide +kernel
theorem dX12_untaken_6 : decode cX12_untaken 6 = .ok (.iconst 1, 1) := by decide +kernel
theorem dX12_untaken_7 : decode cX12_untaken 7 = .ok (.isub, 1) := by decide +kernel
theorem dX12_untaken_8 : decode cX12_untaken 8 = .ok (.istore_n 3, 1) := by decide +kernel
theorem dX12_untaken_9 : decode cX12_untaken 9 = .ok (.iload_n 3, 1) := by decide +kernel
theorem dX12_untaken_10 : decode cX12_untaken 10 = .ok (.ifCond .lt 34, 3) := by decide +kernel
theorem dX12_untaken_13 : decode cX12_untaken 13 = .ok (.aload_n 0, 1) := by decide +kernel
theorem dX12_untaken_14 : decode cX12_untaken 14 = .ok (.getfield 143, 3) := by decide +kernel
theorem dX12_untaken_17 : decode cX12_untaken 17 = .ok (.iload_n 3, 1) := by decide +kernel
theorem dX12_untaken_18 : decode cX12_untaken 18 = .ok (.iaload, 1) := by decide +kernel
theorem dX12_untaken_19 : decode cX12_untaken 19 = .ok (.iload_n 1, 1) := by decide +kernel
theorem dX12_untaken_20 : decode cX12_untaken 20 = .ok (.if_icmp .ne 16, 3) := by decide +kernel
theorem dX12_untaken_23 : decode cX12_untaken 23 = .ok (.aload_n 0, 1) := by decide +kernel
theorem dX12_untaken_24 : decode cX12_untaken 24 = .ok (.getfield 149, 3) := by decide +kernel
theorem dX12_untaken_27 : decode cX12_untaken 27 = .ok (.iload_n 3, 1) := by decide +kernel
theorem dX12_untaken_28 : decode cX12_untaken 28 = .ok (.baload, 1) := by decide +kernel
theorem dX12_untaken_29 : decode cX12_untaken 29 = .ok (.ifCond .ne 7, 3) := by decide +kernel
theorem dX12_untaken_32 : decode cX12_untaken 32 = .ok (.iload_n 3, 1) := by decide +kernel
theorem dX12_untaken_33 : decode cX12_untaken 33 = .ok (.goto 4, 3) := by decide +kernel
theorem dX12_untaken_36 : decode cX12_untaken 36 = .ok (.iload_n 2, 1) := by decide +kernel
theorem dX12_untaken_37 : decode cX12_untaken 37 = .ok (.istore_n 2, 1) := by decide +kernel
theorem dX12_untaken_38 : decode cX12_untaken 38 = .ok (.iinc 3 (-1), 3) := by decide +kernel
theorem dX12_untaken_41 : decode cX12_untaken 41 = .ok (.goto (-32), 3) := by decide +kernel
theorem dX12_untaken_44 : decode cX12_untaken 44 = .ok (.iload_n 2, 1) := by decide +kernel
theorem dX12_untaken_45 : decode cX12_untaken 45 = .ok (.ireturn, 1) := by decide +kernel
theorem e_X12_untaken_9 (d : Nat) : ∀ (n : Nat) {l0 l1 l2 l3 : Int} {m : Mem} {v : Int} {m' : Mem}, X12_untaken_9 n l0 l1 l2 l3 m = some (v, m') → Ex d fm_X12_untaken 9 [(22, l0), (0, l1), (0, l2), (0, l3)] [] m (.inl (0, v)) m' := by
  intro n
  induction n with
  | zero =>
    intro l0 l1 l2 l3 m v m' h
    have h : (none : Option R2) = some _ := h
    cases h
  | succ n ih =>
    intro l0 l1 l2 l3 m v m' h
    rw [X12_untaken_9] at h
    refine x_iload_n dX12_untaken_9 rfl rfl (?_ : Ex _ _ 10 _ _ _ _ _)
    rcases ite_some h with ⟨b1, h⟩ | ⟨b1, h⟩
    · refine x_if_lt (tgt := 44) dX12_untaken_10 rfl b1 (?_ : Ex _ _ 44 _ _ _ _ _)
      refine x_iload_n dX12_untaken_44 rfl rfl (?_ : Ex _ _ 45 _ _ _ _ _)
      cases h
      exact x_ret dX12_untaken_45 (by decide : (0 : Int) ≠ 3)
    · refine x_if_ltN dX12_untaken_10 (by decide) b1 (?_ : Ex _ _ 13 _ _ _ _ _)
      refine x_aload_n dX12_untaken_13 rfl rfl (Or.inr (by decide)) (?_ : Ex _ _ 14 _ _ _ _ _)
      obtain ⟨c2, h⟩ := chk_some h
      refine gt_12_65 c2 fl_RX12_143 dX12_untaken_14 (?_ : Ex _ _ 17 _ _ _ _ _)
      refine x_iload_n dX12_untaken_17 rfl rfl (?_ : Ex _ _ 18 _ _ _ _ _)
      obtain ⟨⟨c3, c4, c5⟩, h⟩ := chk_some h
      refine ld_i_80 c3 c4 c5 dX12_untaken_18 (?_ : Ex _ _ 19 _ _ _ _ _)
      refine x_iload_n dX12_untaken_19 rfl rfl (?_ : Ex _ _ 20 _ _ _ _ _)
      rcases ite_some h with ⟨b6, h⟩ | ⟨b6, h⟩
      · refine x_icmp_neN dX12_untaken_20 (by decide) (fun hh => hh b6) (?_ : Ex _ _ 23 _ _ _ _ _)
        refine x_aload_n dX12_untaken_23 rfl rfl (Or.inr (by decide)) (?_ : Ex _ _ 24 _ _ _ _ _)
        refine gt_12_67 c2 fl_RX12_149 dX12_untaken_24 (?_ : Ex _ _ 27 _ _ _ _ _)
        refine x_iload_n dX12_untaken_27 rfl rfl (?_ : Ex _ _ 28 _ _ _ _ _)
        obtain ⟨⟨c8, c9, c10⟩, h⟩ := chk_some h
        refine ld_b_80 c8 c9 c10 dX12_untaken_28 (?_ : Ex _ _ 29 _ _ _ _ _)
        rcases ite_some h with ⟨b11, h⟩ | ⟨b11, h⟩
        · refine x_if_neN dX12_untaken_29 (by decide) (fun hh => hh b11) (?_ : Ex _ _ 32 _ _ _ _ _)
          refine x_iload_n dX12_untaken_32 rfl rfl (?_ : Ex _ _ 33 _ _ _ _ _)
          refine x_goto (tgt := 37) dX12_untaken_33 rfl (?_ : Ex _ _ 37 _ _ _ _ _)
          refine x_istore_n (ls2 := [(22, l0), (0, l1), (0, l3), (0, l3)]) dX12_untaken_37 rfl (Nat.le_of_ble_eq_true rfl) rfl (?_ : Ex _ _ 38 _ _ _ _ _)
          obtain ⟨c13, h⟩ := chk_some h
          refine x_iinc (ls2 := [(22, l0), (0, l1), (0, l3), (0, (l3 + (-1)))]) dX12_untaken_38 rfl c13 rfl (?_ : Ex _ _ 41 _ _ _ _ _)
          refine x_goto (tgt := 9) dX12_untaken_41 rfl (?_ : Ex _ _ 9 _ _ _ _ _)
          exact ih h
        · refine x_if_ne (tgt := 36) dX12_untaken_29 rfl b11 (?_ : Ex _ _ 36 _ _ _ _ _)
          refine x_iload_n dX12_untaken_36 rfl rfl (?_ : Ex _ _ 37 _ _ _ _ _)
          refine x_istore_n (ls2 := [(22, l0), (0, l1), (0, l2), (0, l3)]) dX12_untaken_37 rfl (Nat.le_of_ble_eq_true rfl) rfl (?_ : Ex _ _ 38 _ _ _ _ _)
          obtain ⟨c12, h⟩ := chk_some h
          refine x_iinc (ls2 := [(22, l0), (0, l1), (0, l2), (0, (l3 + (-1)))]) dX12_untaken_38 rfl c12 rfl (?_ : Ex _ _ 41 _ _ _ _ _)
          refine x_goto (tgt := 9) dX12_untaken_41 rfl (?_ : Ex _ _ 9 _ _ _ _ _)
          exact ih h
      · refine x_icmp_ne (tgt := 36) dX12_untaken_20 rfl b6 (?_ : Ex _ _ 36 _ _ _ _ _)
        refine x_iload_n dX12_untaken_36 rfl rfl (?_ : Ex _ _ 37 _ _ _ _ _)
        refine x_istore_n (ls2 := [(22, l0), (0, l1), (0, l2), (0, l3)]) dX12_untaken_37 rfl (Nat.le_of_ble_eq_true rfl) rfl (?_ : Ex _ _ 38 _ _ _ _ _)
        obtain ⟨c7, h⟩ := chk_some h
        refine x_iinc (ls2 := [(22, l0), (0, l1), (0, l2), (0, (l3 + (-1)))]) dX12_untaken_38 rfl c7 rfl (?_ : Ex _ _ 41 _ _ _ _ _)
        refine x_goto (tgt := 9) dX12_untaken_41 rfl (?_ : Ex _ _ 9 _ _ _ _ _)
        exact ih h
theorem e_X12_untaken_0 (d : Nat) {l0 l1 : Int} {m : Mem} {v : Int} {m' : Mem} (h : X12_untaken_0 l0 l1 m = some (v, m')) : Ex d fm_X12_untaken 0 [(22, l0), (0, l1), (3, 0), (3, 0)] [] m (.inl (0, v)) m' := by
  unfold X12_untaken_0 at h
  refine x_iconst dX12_untaken_0 rfl (by decide) (?_ : Ex _ _ 1 _ _ _ _ _)
  refine x_istore_n (ls2 := [(22, l0), (0, l1), (0, (-1)), (3, 0)]) dX12_untaken_1 rfl (Nat.le_of_ble_eq_true rfl) rfl (?_ : Ex _ _ 2 _ _ _ _ _)
  refine x_aload_n dX12_untaken_2 rfl rfl (Or.inr (by decide)) (?_ : Ex _ _ 3 _ _ _ _ _)
  obtain ⟨c1, h⟩ := chk_some h
  refine gt_12_68 c1 fl_RX12_277 dX12_untaken_3 (?_ : Ex _ _ 6 _ _ _ _ _)
  refine x_iconst dX12_untaken_6 rfl (by decide) (?_ : Ex _ _ 7 _ _ _ _ _)
  obtain ⟨c2, h⟩ := chk_some h
  refine x_isub dX12_untaken_7 c2 (?_ : Ex _ _ 8 _ _ _ _ _)
  refine x_istore_n (ls2 := [(22, l0), (0, l1), (0, (-1)), (0, (m l0 68 - 1))]) dX12_untaken_8 rfl (Nat.le_of_ble_eq_true rfl) rfl (?_ : Ex _ _ 9 _ _ _ _ _)
  exact e_X12_untaken_9 d fuel9 h
theorem e_X12_untaken (d : Nat) {a0 a1 : Int} {m : Mem} {v : Int} {m' : Mem} (h : X12_untaken a0 a1 m = some (v, m')) : ExM d fm_X12_untaken [(22, a0), (0, a1)] m (.inl (0, v)) m' := by
  exact ExM.of (by decide +kernel) (Nat.le_of_ble_eq_true rfl) (cat9 rfl) retI (e_X12_untaken_0 d h)
theorem dX12_gets_0 : decode cX12_gets 0 = .ok (.aload_n 0, 1) := by decide +kernel
theorem dX12_gets_1 : decode cX12_gets 1 = .ok (.getfield 131, 3) := by decide +kernel
theorem dX12_gets_4 : decode cX12_gets 4 = .ok (.iload_n 1, 1) := by decide +kernel
theorem dX12_gets_5 : decode cX12_gets 5 = .ok (.iconst 1, 1) := by decide +kernel
theorem dX12_gets_6 : decode cX12_gets 6 = .ok (.bastore, 1) := by decide +kernel
theorem dX12_gets_7 : decode cX12_gets 7 = .ok (.aload_n 0, 1) := by decide +kernel
theorem dX12_gets_8 : decode cX12_gets 8 = .ok (.getfield 137, 3) := by decide +kernel
theorem dX12_gets_11 : decode cX12_gets 11 = .ok (.iload_n 1, 1) := by decide +kernel
theorem dX12_gets_12 : decode cX12_gets 12 = .ok (.iload_n 2, 1) := by decide +kernel
theorem dX12_gets_13 : decode cX12_gets 13 = .ok (.iastore, 1) := by decide +kernel
theorem dX12_gets_14 : decode cX12_gets 14 = .ok (.aload_n 0, 1) := by decide +kernel
theorem dX12_gets_15 : decode cX12_gets 15 = .ok (.getfield 140, 3) := by decide +kernel
theorem dX12_gets_18 : decode cX12_gets 18 = .ok (.iload_n 1, 1) := by decide +kernel
theorem dX12_gets_19 : decode cX12_gets 19 = .ok (.iconst 1, 1) := by decide +kernel
theorem dX12_gets_20 : decode cX12_gets 20 = .ok (.bastore, 1) := by decide +kernel
theorem dX12_gets_21 : decode cX12_gets 21 = .ok (.return_, 1) := by decide +kernel
theorem e_X12_gets_0 (d : Nat) {l0 l1 l2 : Int} {m : Mem} {v : Int} {m' : Mem} (h : X12_gets_0 l0 l1 l2 m = some (v, m')) : Ex d fm_X12_gets 0 [(22, l0), (0, l1), (0, l2)] [] m (.inl (3, 0)) m' := by
  unfold X12_gets_0 at h
  refine x_aload_n dX12_gets_0 rfl rfl (Or.inr (by decide)) (?_ : Ex _ _ 1 _ _ _ _ _)
  obtain ⟨c1, h⟩ := chk_some h
  refine gt_12_60 c1 fl_RX12_131 dX12_gets_1 (?_ : Ex _ _ 4 _ _ _ _ _)
  refine x_iload_n dX12_gets_4 rfl rfl (?_ : Ex _ _ 5 _ _ _ _ _)
  refine x_iconst dX12_gets_5 rfl (by decide) (?_ : Ex _ _ 6 _ _ _ _ _)
  obtain ⟨⟨c2, c3, c4⟩, h⟩ := chk_some h
  obtain ⟨m5, hm5, h⟩ := st_some h
  refine sd_b_3 c2 c3 c4 (by decide) dX12_gets_6 (?_ : Ex _ _ 7 _ _ _ _ _)
  rw [← hm5]
  refine x_aload_n dX12_gets_7 rfl rfl (Or.inr (by decide)) (?_ : Ex _ _ 8 _ _ _ _ _)
  refine gt_12_62 c1 fl_RX12_137 dX12_gets_8 (?_ : Ex _ _ 11 _ _ _ _ _)
  refine x_iload_n dX12_gets_11 rfl rfl (?_ : Ex _ _ 12 _ _ _ _ _)
  refine x_iload_n dX12_gets_12 rfl rfl (?_ : Ex _ _ 13 _ _ _ _ _)
  obtain ⟨⟨c6, c7, c8⟩, h⟩ := chk_some h
  obtain ⟨m9, hm9, h⟩ := st_some h
  refine sd_i_3 c6 c7 c8 dX12_gets_13 (?_ : Ex _ _ 14 _ _ _ _ _)
  rw [← hm9]
  refine x_aload_n dX12_gets_14 rfl rfl (Or.inr (by decide)) (?_ : Ex _ _ 15 _ _ _ _ _)
  refine gt_12_63 c1 fl_RX12_140 dX12_gets_15 (?_ : Ex _ _ 18 _ _ _ _ _)
  refine x_iload_n dX12_gets_18 rfl rfl (?_ : Ex _ _ 19 _ _ _ _ _)
  refine x_iconst dX12_gets_19 rfl (by decide) (?_ : Ex _ _ 20 _ _ _ _ _)
  obtain ⟨⟨c10, c11, c12⟩, h⟩ := chk_some h
  obtain ⟨m13, hm13, h⟩ := st_some h
  refine sd_b_3 c10 c11 c12 (by decide) dX12_gets_20 (?_ : Ex _ _ 21 _ _ _ _ _)
  rw [← hm13]
  cases h
  exact x_retv dX12_gets_21
theorem e_X12_gets (d : Nat) {a0 a1 a2 : Int} {m : Mem} {v : Int} {m' : Mem} (h : X12_gets a0 a1 a2 m = some (v, m')) : ExM d fm_X12_gets [(22, a0), (0, a1), (0, a2)] m (.inl (3, 0)) m' := by
  exact ExM.of (by decide +kernel) (Nat.le_of_ble_eq_true rfl) (cat9 rfl) retV (e_X12_gets_0 d h)
theorem dX12_setsTimer_0 : decode cX12_setsTimer 0 = .ok (.aload_n 0, 1) := by decide +kernel
theorem dX12_setsTimer_1 : decode cX12_setsTimer 1 = .ok (.getfield 128, 3) := by decide +kernel
theorem dX12_setsTimer_4 : decode cX12_setsTimer 4 = .ok (.iload_n 1, 1) := by decide +kernel
theorem dX12_setsTimer_5 : decode cX12_setsTimer 5 = .ok (.aload_n 0, 1) := by decide +kernel
theorem dX12_setsTimer_6 : decode cX12_setsTimer 6 = .ok (.getfield 268, 3) := by decide +kernel
theorem dX12_setsTimer_9 : decode cX12_setsTimer 9 = .ok (.iastore, 1) := by decide +kernel
theorem dX12_setsTimer_10 : decode cX12_setsTimer 10 = .ok (.aload_n 0, 1) := by decide +kernel
theorem dX12_setsTimer_11 : decode cX12_setsTimer 11 = .ok (.dup, 1) := by decide +kernel
theorem dX12_setsTimer_12 : decode cX12_setsTimer 12 = .ok (.getfield 268, 3) := by decide +kernel
theorem dX12_setsTimer_15 : decode cX12_setsTimer 15 = .ok (.iconst 1, 1) := by decide +kernel
theorem dX12_setsTimer_16 : decode cX12_setsTimer 16 = .ok (.iadd, 1) := by decide +kernel
theorem dX12_setsTimer_17 : decode cX12_setsTimer 17 = .ok (.putfield 268, 3) := by decide +kernel
theorem dX12_setsTimer_20 : decode cX12_setsTimer 20 = .ok (.aload_n 0, 1) := by decide +kernel
theorem dX12_setsTimer_21 : decode cX12_setsTimer 21 = .ok (.bipush 10, 2) := by decide +kernel
theorem dX12_setsTimer_23 : decode cX12_setsTimer 23 = .ok (.iload_n 2, 1) := by decide +kernel
theorem dX12_setsTimer_24 : decode cX12_setsTimer 24 = .ok (.iconst 0, 1) := by decide +kernel
theorem dX12_setsTimer_25 : decode cX12_setsTimer 25 = .ok (.invokevirtual 292, 3) := by decide +kernel
theorem dX12_setsTimer_28 : decode cX12_setsTimer 28 = .ok (.return_, 1) := by decide +kernel
theorem e_X12_setsTimer_0 (d : Nat) {l0 l1 l2 : Int} {m : Mem} {v : Int} {m' : Mem} (h : X12_setsTimer_0 l0 l1 l2 m = some (v, m')) : Ex (d + 1) fm_X12_setsTimer 0 [(22, l0), (0, l1), (0, l2)] [] m (.inl (3, 0)) m' := by
  unfold X12_setsTimer_0 at h
  refine x_aload_n dX12_setsTimer_0 rfl rfl (Or.inr (by decide)) (?_ : Ex _ _ 1 _ _ _ _ _)
  obtain ⟨c1, h⟩ := chk_some h
  refine gt_12_59 c1 fl_RX12_128 dX12_setsTimer_1 (?_ : Ex _ _ 4 _ _ _ _ _)
  refine x_iload_n dX12_setsTimer_4 rfl rfl (?_ : Ex _ _ 5 _ _ _ _ _)
  refine x_aload_n dX12_setsTimer_5 rfl rfl (Or.inr (by decide)) (?_ : Ex _ _ 6 _ _ _ _ _)
  refine gt_12_52 c1 fl_RX12_268 dX12_setsTimer_6 (?_ : Ex _ _ 9 _ _ _ _ _)
  obtain ⟨⟨c2, c3, c4⟩, h⟩ := chk_some h
  obtain ⟨m5, hm5, h⟩ := st_some h
  refine sd_i_3 c2 c3 c4 dX12_setsTimer_9 (?_ : Ex _ _ 10 _ _ _ _ _)
  rw [← hm5]
  refine x_aload_n dX12_setsTimer_10 rfl rfl (Or.inr (by decide)) (?_ : Ex _ _ 11 _ _ _ _ _)
  refine x_dup (by decide : (22 : Int) ≠ 2) dX12_setsTimer_11 (?_ : Ex _ _ 12 _ _ _ _ _)
  refine gt_12_52 c1 fl_RX12_268 dX12_setsTimer_12 (?_ : Ex _ _ 15 _ _ _ _ _)
  refine x_iconst dX12_setsTimer_15 rfl (by decide) (?_ : Ex _ _ 16 _ _ _ _ _)
  obtain ⟨c6, h⟩ := chk_some h
  refine x_iadd dX12_setsTimer_16 c6 (?_ : Ex _ _ 17 _ _ _ _ _)
  obtain ⟨m7, hm7, h⟩ := st_some h
  refine pt_12_52  c1 fl_RX12_268 dX12_setsTimer_17 (?_ : Ex _ _ 20 _ _ _ _ _)
  rw [← hm7]
  refine x_aload_n dX12_setsTimer_20 rfl rfl (Or.inr (by decide)) (?_ : Ex _ _ 21 _ _ _ _ _)
  refine x_bipush dX12_setsTimer_21 kb_10 (by decide) (?_ : Ex _ _ 23 _ _ _ _ _)
  refine x_iload_n dX12_setsTimer_23 rfl rfl (?_ : Ex _ _ 24 _ _ _ _ _)
  refine x_iconst dX12_setsTimer_24 rfl (by decide) (?_ : Ex _ _ 25 _ _ _ _ _)
  obtain ⟨v8, m9, g10, h⟩ := cal_some h
  refine cV3 (e_X12_decides d g10) (contV (?_ : Ex _ _ 28 _ _ _ _ _)) og_X12_decides rfl ml_RX12_292 12 rfl rfl c1 im_X12_decides se_X12_decides (Nat.le_of_ble_eq_true rfl) dX12_setsTimer_25
  cases h
  exact x_retv dX12_setsTimer_28
theorem e_X12_setsTimer (d : Nat) {a0 a1 a2 : Int} {m : Mem} {v : Int} {m' : Mem} (h : X12_setsTimer a0 a1 a2 m = some (v, m')) : ExM (d + 1) fm_X12_setsTimer [(22, a0), (0, a1), (0, a2)] m (.inl (3, 0)) m' := by
  exact ExM.of (by decide +kernel) (Nat.le_of_ble_eq_true rfl) (cat9 rfl) retV (e_X12_setsTimer_0 d h)
theorem dX12_waitsFor_0 : decode cX12_waitsFor 0 = .ok (.aload_n 0, 1) := by decide +kernel
theorem dX12_waitsFor_1 : decode cX12_waitsFor 1 = .ok (.getfield 274, 3) := by decide +kernel
theorem dX12_waitsFor_4 : decode cX12_waitsFor 4 = .ok (.istore_n 2, 1) := by decide +kernel
theorem dX12_waitsFor_5 : decode cX12_waitsFor 5 = .ok (.aload_n 0, 1) := by decide +kernel
theorem dX12_waitsFor_6 : decode cX12_waitsFor 6 = .ok (.iload_n 1, 1) := by decide +kernel
theorem dX12_waitsFor_7 : decode cX12_waitsFor 7 = .ok (.invokevirtual 308, 3) := by decide +kernel
theorem dX12_waitsFor_10 : decode cX12_waitsFor 10 = .ok (.istore_n 3, 1) := by decide +kernel
theorem dX12_waitsFor_11 : decode cX12_waitsFor 11 = .ok (.aload_n 0, 1) := by decide +kernel
theorem dX12_waitsFor_12 : decode cX12_waitsFor 12 = .ok (.dup, 1) := by decide +kernel
theorem dX12_waitsFor_13 : decode cX12_waitsFor 13 = .ok (.getfield 274, 3) := by decide +kernel
theorem dX12_waitsFor_16 : decode cX12_waitsFor 16 = .ok (.iconst 1, 1) := by decide +kernel
theorem dX12_waitsFor_17 : decode cX12_waitsFor 17 = .ok (.iadd, 1) := by decide +kernel
theorem dX12_waitsFor_18 : decode cX12_waitsFor 18 = .ok (.putfield 274, 3) := by decide +kernel
theorem dX12_waitsFor_21 : decode cX12_waitsFor 21 = .ok (.aload_n 0, 1) := by decide +kernel
theorem dX12_waitsFor_22 : decode cX12_waitsFor 22 = .ok (.getfield 119, 3) := by decide +kernel
theorem dX12_waitsFor_25 : decode cX12_waitsFor 25 = .ok (.iload_n 2, 1) := by decide +kernel
theorem dX12_waitsFor_26 : decode cX12_waitsFor 26 = .ok (.aload_n 0, 1) := by decide +kernel
theorem dX12_waitsFor_27 : decode cX12_waitsFor 27 = .ok (.getfield 7, 3) := by decide +kernel
theorem dX12_waitsFor_30 : decode cX12_waitsFor 30 = .ok (.iload_n 3, 1) := by decide +kernel
theorem dX12_waitsFor_31 : decode cX12_waitsFor 31 = .ok (.iaload, 1) := by decide +kernel
theorem dX12_waitsFor_32 : decode cX12_waitsFor 32 = .ok (.iastore, 1) := by decide +kernel
theorem dX12_waitsFor_33 : decode cX12_waitsFor 33 = .ok (.aload_n 0, 1) := by decide +kernel
theorem dX12_waitsFor_34 : decode cX12_waitsFor 34 = .ok (.getfield 128, 3) := by decide +kernel
theorem dX12_waitsFor_37 : decode cX12_waitsFor 37 = .ok (.iload_n 2, 1) := by decide +kernel
theorem dX12_waitsFor_38 : decode cX12_waitsFor 38 = .ok (.iconst (-1), 1) := by decide +kernel
theorem dX12_waitsFor_39 : decode cX12_waitsFor 39 = .ok (.iastore, 1) := by decide +kernel
theorem dX12_waitsFor_40 : decode cX12_waitsFor 40 = .ok (.aload_n 0, 1) := by decide +kernel
theorem dX12_waitsFor_41 : decode cX12_waitsFor 41 = .ok (.getfield 125, 3) := by decide +kernel
theorem dX12_waitsFor_44 : decode cX12_waitsFor 44 = .ok (.iload_n 2, 1) := by decide +kernel
theorem dX12_waitsFor_45 : decode cX12_waitsFor 45 = .ok (.iconst (-1), 1) := by decide +kernel
theorem dX12_waitsFor_46 : decode cX12_waitsFor 46 = .ok (.iastore, 1) := by decide +kernel
theorem dX12_waitsFor_47 : decode cX12_waitsFor 47 = .ok (.aload_n 0, 1) := by decide +kernel
theorem dX12_waitsFor_48 : decode cX12_waitsFor 48 = .ok (.getfield 122, 3) := by decide +kernel
theorem dX12_waitsFor_51 : decode cX12_waitsFor 51 = .ok (.iload_n 2, 1) := by decide +kernel
theorem dX12_waitsFor_52 : decode cX12_waitsFor 52 = .ok (.aload_n 0, 1) := by decide +kernel
theorem dX12_waitsFor_53 : decode cX12_waitsFor 53 = .ok (.getfield 13, 3) := by decide +kernel
theorem dX12_waitsFor_56 : decode cX12_waitsFor 56 = .ok (.iload_n 3, 1) := by decide +kernel
theorem dX12_waitsFor_57 : decode cX12_waitsFor 57 = .ok (.iaload, 1) := by decide +kernel
theorem dX12_waitsFor_58 : decode cX12_waitsFor 58 = .ok (.iastore, 1) := by decide +kernel
theorem dX12_waitsFor_59 : decode cX12_waitsFor 59 = .ok (.aload_n 0, 1) := by decide +kernel
theorem dX12_waitsFor_60 : decode cX12_waitsFor 60 = .ok (.getfield 131, 3) := by decide +kernel
theorem dX12_waitsFor_63 : decode cX12_waitsFor 63 = .ok (.iload_n 2, 1) := by decide +kernel
theorem dX12_waitsFor_64 : decode cX12_waitsFor 64 = .ok (.iconst 0, 1) := by decide +kernel
theorem dX12_waitsFor_65 : decode cX12_waitsFor 65 = .ok (.bastore, 1) := by decide +kernel
theorem dX12_waitsFor_66 : decode cX12_waitsFor 66 = .ok (.aload_n 0, 1) := by decide +kernel
theorem dX12_waitsFor_67 : decode cX12_waitsFor 67 = .ok (.getfield 134, 3) := by decide +kernel
theorem dX12_waitsFor_70 : decode cX12_waitsFor 70 = .ok (.iload_n 2, 1) := by decide +kernel
theorem dX12_waitsFor_71 : decode cX12_waitsFor 71 = .ok (.iconst 0, 1) := by decide +kernel
theorem dX12_waitsFor_72 : decode cX12_waitsFor 72 = .ok (.bastore, 1) := by decide +kernel
theorem dX12_waitsFor_73 : decode cX12_waitsFor 73 = .ok (.aload_n 0, 1) := by decide +kernel
theorem dX12_waitsFor_74 : decode cX12_waitsFor 74 = .ok (.getfield 140, 3) := by decide +kernel
theorem dX12_waitsFor_77 : decode cX12_waitsFor 77 = .ok (.iload_n 2, 1) := by decide +kernel
theorem dX12_waitsFor_78 : decode cX12_waitsFor 78 = .ok (.iconst 0, 1) := by decide +kernel
theorem dX12_waitsFor_79 : decode cX12_waitsFor 79 = .ok (.bastore, 1) := by decide +kernel
theorem dX12_waitsFor_80 : decode cX12_waitsFor 80 = .ok (.aload_n 0, 1) := by decide +kernel
theorem dX12_waitsFor_81 : decode cX12_waitsFor 81 = .ok (.getfield 7, 3) := by decide +kernel
theorem dX12_waitsFor_84 : decode cX12_waitsFor 84 = .ok (.iload_n 3, 1) := by decide +kernel
theorem dX12_waitsFor_85 : decode cX12_waitsFor 85 = .ok (.iaload, 1) := by decide +kernel
theorem dX12_waitsFor_86 : decode cX12_waitsFor 86 = .ok (.tableswitch 126 0 3 #[30, 71, 126, 85], 30) := by decide +kernel
theorem dX12_waitsFor_116 : decode cX12_waitsFor 116 = .ok (.aload_n 0, 1) := by decide +kernel
theorem dX12_waitsFor_117 : decode cX12_waitsFor 117 = .ok (.getfield 125, 3) := by decide +kernel
theorem dX12_waitsFor_120 : decode cX12_waitsFor 120 = .ok (.iload_n 2, 1) := by decide +kernel
theorem dX12_waitsFor_121 : decode cX12_waitsFor 121 = .ok (.aload_n 0, 1) := by decide +kernel
theorem dX12_waitsFor_122 : decode cX12_waitsFor 122 = .ok (.getfield 265, 3) := by decide +kernel
theorem dX12_waitsFor_125 : decode cX12_waitsFor 125 = .ok (.iastore, 1) := by decide +kernel
theorem dX12_waitsFor_126 : decode cX12_waitsFor 126 = .ok (.aload_n 0, 1) := by decide +kernel
theorem dX12_waitsFor_127 : decode cX12_waitsFor 127 = .ok (.dup, 1) := by decide +kernel
theorem dX12_waitsFor_128 : decode cX12_waitsFor 128 = .ok (.getfield 265, 3) := by decide +kernel
theorem dX12_waitsFor_131 : decode cX12_waitsFor 131 = .ok (.iconst 1, 1) := by decide +kernel
theorem dX12_waitsFor_132 : decode cX12_waitsFor 132 = .ok (.iadd, 1) := by decide +kernel
theorem dX12_waitsFor_133 : decode cX12_waitsFor 133 = .ok (.putfield 265, 3) := by decide +kernel
theorem dX12_waitsFor_136 : decode cX12_waitsFor 136 = .ok (.aload_n 0, 1) := by decide +kernel
theorem dX12_waitsFor_137 : decode cX12_waitsFor 137 = .ok (.bipush 8, 2) := by decide +kernel
theorem dX12_waitsFor_139 : decode cX12_waitsFor 139 = .ok (.aload_n 0, 1) := by decide +kernel
theorem dX12_waitsFor_140 : decode cX12_waitsFor 140 = .ok (.getfield 13, 3) := by decide +kernel
theorem dX12_waitsFor_143 : decode cX12_waitsFor 143 = .ok (.iload_n 3, 1) := by decide +kernel
theorem dX12_waitsFor_144 : decode cX12_waitsFor 144 = .ok (.iaload, 1) := by decide +kernel
theorem dX12_waitsFor_145 : decode cX12_waitsFor 145 = .ok (.aload_n 0, 1) := by decide +kernel
theorem dX12_waitsFor_146 : decode cX12_waitsFor 146 = .ok (.getfield 16, 3) := by decide +kernel
theorem dX12_waitsFor_149 : decode cX12_waitsFor 149 = .ok (.iload_n 3, 1) := by decide +kernel
theorem dX12_waitsFor_150 : decode cX12_waitsFor 150 = .ok (.iaload, 1) := by decide +kernel
theorem dX12_waitsFor_151 : decode cX12_waitsFor 151 = .ok (.invokevirtual 292, 3) := by decide +kernel
theorem dX12_waitsFor_154 : decode cX12_waitsFor 154 = .ok (.goto 119, 3) := by decide +kernel
theorem dX12_waitsFor_157 : decode cX12_waitsFor 157 = .ok (.aload_n 0, 1) := by decide +kernel
theorem dX12_waitsFor_158 : decode cX12_waitsFor 158 = .ok (.iload_n 2, 1) := by decide +kernel
theorem dX12_waitsFor_159 : decode cX12_waitsFor 159 = .ok (.aload_n 0, 1) := by decide +kernel
theorem dX12_waitsFor_160 : decode cX12_waitsFor 160 = .ok (.getfield 13, 3) := by decide +kernel
theorem dX12_waitsFor_163 : decode cX12_waitsFor 163 = .ok (.iload_n 3, 1) := by decide +kernel
theorem dX12_waitsFor_164 : decode cX12_waitsFor 164 = .ok (.iaload, 1) := by decide +kernel
theorem dX12_waitsFor_165 : decode cX12_waitsFor 165 = .ok (.invokevirtual 311, 3) := by decide +kernel
theorem dX12_waitsFor_168 : decode cX12_waitsFor 168 = .ok (.goto 105, 3) := by decide +kernel
theorem dX12_waitsFor_171 : decode cX12_waitsFor 171 = .ok (.aload_n 0, 1) := by decide +kernel
theorem dX12_waitsFor_172 : decode cX12_waitsFor 172 = .ok (.getfield 125, 3) := by decide +kernel
theorem dX12_waitsFor_175 : decode cX12_waitsFor 175 = .ok (.iload_n 2, 1) := by decide +kernel
theorem dX12_waitsFor_176 : decode cX12_waitsFor 176 = .ok (.aload_n 0, 1) := by decide +kernel
theorem dX12_waitsFor_177 : decode cX12_waitsFor 177 = .ok (.getfield 271, 3) := by decide +kernel
theorem dX12_waitsFor_180 : decode cX12_waitsFor 180 = .ok (.iastore, 1) := by decide +kernel
theorem dX12_waitsFor_181 : decode cX12_waitsFor 181 = .ok (.aload_n 0, 1) := by decide +kernel
theorem dX12_waitsFor_182 : decode cX12_waitsFor 182 = .ok (.dup, 1) := by decide +kernel
theorem dX12_waitsFor_183 : decode cX12_waitsFor 183 = .ok (.getfield 271, 3) := by decide +kernel
theorem dX12_waitsFor_186 : decode cX12_waitsFor 186 = .ok (.iconst 1, 1) := by decide +kernel
theorem dX12_waitsFor_187 : decode cX12_waitsFor 187 = .ok (.iadd, 1) := by decide +kernel
theorem dX12_waitsFor_188 : decode cX12_waitsFor 188 = .ok (.putfield 271, 3) := by decide +kernel
theorem dX12_waitsFor_191 : decode cX12_waitsFor 191 = .ok (.aload_n 0, 1) := by decide +kernel
theorem dX12_waitsFor_192 : decode cX12_waitsFor 192 = .ok (.bipush 12, 2) := by decide +kernel
theorem dX12_waitsFor_194 : decode cX12_waitsFor 194 = .ok (.aload_n 0, 1) := by decide +kernel
theorem dX12_waitsFor_195 : decode cX12_waitsFor 195 = .ok (.getfield 13, 3) := by decide +kernel
theorem dX12_waitsFor_198 : decode cX12_waitsFor 198 = .ok (.iload_n 3, 1) := by decide +kernel
theorem dX12_waitsFor_199 : decode cX12_waitsFor 199 = .ok (.iaload, 1) := by decide +kernel
theorem dX12_waitsFor_200 : decode cX12_waitsFor 200 = .ok (.aload_n 0, 1) := by decide +kernel
theorem dX12_waitsFor_201 : decode cX12_waitsFor 201 = .ok (.getfield 16, 3) := by decide +kernel
theorem dX12_waitsFor_204 : decode cX12_waitsFor 204 = .ok (.iload_n 3, 1) := by decide +kernel
theorem dX12_waitsFor_205 : decode cX12_waitsFor 205 = .ok (.iaload, 1) := by decide +kernel
theorem dX12_waitsFor_206 : decode cX12_waitsFor 206 = .ok (.invokevirtual 292, 3) := by decide +kernel
theorem dX12_waitsFor_209 : decode cX12_waitsFor 209 = .ok (.goto 64, 3) := by decide +kernel
theorem dX12_waitsFor_212 : decode cX12_waitsFor 212 = .ok (.aload_n 0, 1) := by decide +kernel
theorem dX12_waitsFor_213 : decode cX12_waitsFor 213 = .ok (.aload_n 0, 1) := by decide +kernel
theorem dX12_waitsFor_214 : decode cX12_waitsFor 214 = .ok (.getfield 13, 3) := by decide +kernel
theorem dX12_waitsFor_217 : decode cX12_waitsFor 217 = .ok (.iload_n 3, 1) := by decide +kernel
theorem dX12_waitsFor_218 : decode cX12_waitsFor 218 = .ok (.iaload, 1) := by decide +kernel
theorem dX12_waitsFor_219 : decode cX12_waitsFor 219 = .ok (.invokevirtual 314, 3) := by decide +kernel
theorem dX12_waitsFor_222 : decode cX12_waitsFor 222 = .ok (.istore 4, 2) := by decide +kernel
theorem dX12_waitsFor_224 : decode cX12_waitsFor 224 = .ok (.iload 4, 2) := by decide +kernel
theorem dX12_waitsFor_226 : decode cX12_waitsFor 226 = .ok (.iconst (-1), 1) := by decide +kernel
theorem dX12_waitsFor_227 : decode cX12_waitsFor 227 = .ok (.if_icmp .eq 26, 3) := by decide +kernel
theorem dX12_waitsFor_230 : decode cX12_waitsFor 230 = .ok (.aload_n 0, 1) := by decide +kernel
theorem dX12_waitsFor_231 : decode cX12_waitsFor 231 = .ok (.getfield 149, 3) := by decide +kernel
theorem dX12_waitsFor_234 : decode cX12_waitsFor 234 = .ok (.iload 4, 2) := by decide +kernel
theorem dX12_waitsFor_236 : decode cX12_waitsFor 236 = .ok (.iconst 1, 1) := by decide +kernel
theorem dX12_waitsFor_237 : decode cX12_waitsFor 237 = .ok (.bastore, 1) := by decide +kernel
theorem dX12_waitsFor_238 : decode cX12_waitsFor 238 = .ok (.aload_n 0, 1) := by decide +kernel
theorem dX12_waitsFor_239 : decode cX12_waitsFor 239 = .ok (.iload_n 2, 1) := by decide +kernel
theorem dX12_waitsFor_240 : decode cX12_waitsFor 240 = .ok (.aload_n 0, 1) := by decide +kernel
theorem dX12_waitsFor_241 : decode cX12_waitsFor 241 = .ok (.getfield 146, 3) := by decide +kernel
theorem dX12_waitsFor_244 : decode cX12_waitsFor 244 = .ok (.iload 4, 2) := by decide +kernel
theorem dX12_waitsFor_246 : decode cX12_waitsFor 246 = .ok (.iaload, 1) := by decide +kernel
theorem dX12_waitsFor_247 : decode cX12_waitsFor 247 = .ok (.invokevirtual 317, 3) := by decide +kernel
theorem dX12_waitsFor_250 : decode cX12_waitsFor 250 = .ok (.goto 23, 3) := by decide +kernel
theorem dX12_waitsFor_253 : decode cX12_waitsFor 253 = .ok (.aload_n 0, 1) := by decide +kernel
theorem dX12_waitsFor_254 : decode cX12_waitsFor 254 = .ok (.getfield 16, 3) := by decide +kernel
theorem dX12_waitsFor_257 : decode cX12_waitsFor 257 = .ok (.iload_n 3, 1) := by decide +kernel
theorem dX12_waitsFor_258 : decode cX12_waitsFor 258 = .ok (.iaload, 1) := by decide +kernel
theorem dX12_waitsFor_259 : decode cX12_waitsFor 259 = .ok (.ifCond .le 14, 3) := by decide +kernel
theorem dX12_waitsFor_262 : decode cX12_waitsFor 262 = .ok (.aload_n 0, 1) := by decide +kernel
theorem dX12_waitsFor_263 : decode cX12_waitsFor 263 = .ok (.iload_n 2, 1) := by decide +kernel
theorem dX12_waitsFor_264 : decode cX12_waitsFor 264 = .ok (.aload_n 0, 1) := by decide +kernel
theorem dX12_waitsFor_265 : decode cX12_waitsFor 265 = .ok (.getfield 16, 3) := by decide +kernel
theorem dX12_waitsFor_268 : decode cX12_waitsFor 268 = .ok (.iload_n 3, 1) := by decide +kernel
theorem dX12_waitsFor_269 : decode cX12_waitsFor 269 = .ok (.iaload, 1) := by decide +kernel
theorem dX12_waitsFor_270 : decode cX12_waitsFor 270 = .ok (.invokevirtual 311, 3) := by decide +kernel
theorem dX12_waitsFor_273 : decode cX12_waitsFor 273 = .ok (.return_, 1) := by decide +kernel
theorem e_X12_waitsFor_0 (d : Nat) {l0 l1 : Int} {m : Mem} {v : Int} {m' : Mem} (h : X12_waitsFor_0 l0 l1 m = some (v, m')) : Ex (d + 2) fm_X12_waitsFor 0 [(22, l0), (0, l1), (3, 0), (3, 0), (3, 0)] [] m (.inl (3, 0)) m' := by
  unfold X12_waitsFor_0 at h
  refine x_aload_n dX12_waitsFor_0 rfl rfl (Or.inr (by decide)) (?_ : Ex _ _ 1 _ _ _ _ _)
  obtain ⟨c1, h⟩ := chk_some h
  refine gt_12_55 c1 fl_RX12_274 dX12_waitsFor_1 (?_ : Ex _ _ 4 _ _ _ _ _)
  refine x_istore_n (ls2 := [(22, l0), (0, l1), (0, m l0 55), (3, 0), (3, 0)]) dX12_waitsFor_4 rfl (Nat.le_of_ble_eq_true rfl) rfl (?_ : Ex _ _ 5 _ _ _ _ _)
  refine x_aload_n dX12_waitsFor_5 rfl rfl (Or.inr (by decide)) (?_ : Ex _ _ 6 _ _ _ _ _)
  refine x_iload_n dX12_waitsFor_6 rfl rfl (?_ : Ex _ _ 7 _ _ _ _ _)
  obtain ⟨v2, m3, g4, h⟩ := cal_some h
  refine cV1 (e_X12_stepAt (d + 1) g4) (contN (by decide) (?_ : Ex _ _ 10 _ _ _ _ _)) og_X12_stepAt rfl ml_RX12_308 12 rfl rfl c1 im_X12_stepAt se_X12_stepAt (Nat.le_of_ble_eq_true rfl) dX12_waitsFor_7
  refine x_istore_n (ls2 := [(22, l0), (0, l1), (0, m l0 55), (0, v2), (3, 0)]) dX12_waitsFor_10 rfl (Nat.le_of_ble_eq_true rfl) rfl (?_ : Ex _ _ 11 _ _ _ _ _)
  refine x_aload_n dX12_waitsFor_11 rfl rfl (Or.inr (by decide)) (?_ : Ex _ _ 12 _ _ _ _ _)
  refine x_dup (by decide : (22 : Int) ≠ 2) dX12_waitsFor_12 (?_ : Ex _ _ 13 _ _ _ _ _)
  refine gt_12_55 c1 fl_RX12_274 dX12_waitsFor_13 (?_ : Ex _ _ 16 _ _ _ _ _)
  refine x_iconst dX12_waitsFor_16 rfl (by decide) (?_ : Ex _ _ 17 _ _ _ _ _)
  obtain ⟨c5, h⟩ := chk_some h
  refine x_iadd dX12_waitsFor_17 c5 (?_ : Ex _ _ 18 _ _ _ _ _)
  obtain ⟨m6, hm6, h⟩ := st_some h
  refine pt_12_55  c1 fl_RX12_274 dX12_waitsFor_18 (?_ : Ex _ _ 21 _ _ _ _ _)
  rw [← hm6]
  refine x_aload_n dX12_waitsFor_21 rfl rfl (Or.inr (by decide)) (?_ : Ex _ _ 22 _ _ _ _ _)
  refine gt_12_56 c1 fl_RX12_119 dX12_waitsFor_22 (?_ : Ex _ _ 25 _ _ _ _ _)
  refine x_iload_n dX12_waitsFor_25 rfl rfl (?_ : Ex _ _ 26 _ _ _ _ _)
  refine x_aload_n dX12_waitsFor_26 rfl rfl (Or.inr (by decide)) (?_ : Ex _ _ 27 _ _ _ _ _)
  refine gt_12_2 c1 fl_RX12_7 dX12_waitsFor_27 (?_ : Ex _ _ 30 _ _ _ _ _)
  refine x_iload_n dX12_waitsFor_30 rfl rfl (?_ : Ex _ _ 31 _ _ _ _ _)
  obtain ⟨⟨c7, c8, c9⟩, h⟩ := chk_some h
  refine ld_i_180 c7 c8 c9 dX12_waitsFor_31 (?_ : Ex _ _ 32 _ _ _ _ _)
  obtain ⟨⟨c10, c11, c12⟩, h⟩ := chk_some h
  obtain ⟨m13, hm13, h⟩ := st_some h
  refine sd_i_3 c10 c11 c12 dX12_waitsFor_32 (?_ : Ex _ _ 33 _ _ _ _ _)
  rw [← hm13]
  refine x_aload_n dX12_waitsFor_33 rfl rfl (Or.inr (by decide)) (?_ : Ex _ _ 34 _ _ _ _ _)
  refine gt_12_59 c1 fl_RX12_128 dX12_waitsFor_34 (?_ : Ex _ _ 37 _ _ _ _ _)
  refine x_iload_n dX12_waitsFor_37 rfl rfl (?_ : Ex _ _ 38 _ _ _ _ _)
  refine x_iconst dX12_waitsFor_38 rfl (by decide) (?_ : Ex _ _ 39 _ _ _ _ _)
  obtain ⟨⟨c14, c15, c16⟩, h⟩ := chk_some h
  obtain ⟨m17, hm17, h⟩ := st_some h
  refine sd_i_3 c14 c15 c16 dX12_waitsFor_39 (?_ : Ex _ _ 40 _ _ _ _ _)
  rw [← hm17]
  refine x_aload_n dX12_waitsFor_40 rfl rfl (Or.inr (by decide)) (?_ : Ex _ _ 41 _ _ _ _ _)
  refine gt_12_58 c1 fl_RX12_125 dX12_waitsFor_41 (?_ : Ex _ _ 44 _ _ _ _ _)
  refine x_iload_n dX12_waitsFor_44 rfl rfl (?_ : Ex _ _ 45 _ _ _ _ _)
  refine x_iconst dX12_waitsFor_45 rfl (by decide) (?_ : Ex _ _ 46 _ _ _ _ _)
  obtain ⟨⟨c18, c19, c20⟩, h⟩ := chk_some h
  obtain ⟨m21, hm21, h⟩ := st_some h
  refine sd_i_3 c18 c19 c20 dX12_waitsFor_46 (?_ : Ex _ _ 47 _ _ _ _ _)
  rw [← hm21]
  refine x_aload_n dX12_waitsFor_47 rfl rfl (Or.inr (by decide)) (?_ : Ex _ _ 48 _ _ _ _ _)
  refine gt_12_57 c1 fl_RX12_122 dX12_waitsFor_48 (?_ : Ex _ _ 51 _ _ _ _ _)
  refine x_iload_n dX12_waitsFor_51 rfl rfl (?_ : Ex _ _ 52 _ _ _ _ _)
  refine x_aload_n dX12_waitsFor_52 rfl rfl (Or.inr (by decide)) (?_ : Ex _ _ 53 _ _ _ _ _)
  refine gt_12_3 c1 fl_RX12_13 dX12_waitsFor_53 (?_ : Ex _ _ 56 _ _ _ _ _)
  refine x_iload_n dX12_waitsFor_56 rfl rfl (?_ : Ex _ _ 57 _ _ _ _ _)
  obtain ⟨⟨c22, c23, c24⟩, h⟩ := chk_some h
  refine ld_i_180 c22 c23 c24 dX12_waitsFor_57 (?_ : Ex _ _ 58 _ _ _ _ _)
  obtain ⟨⟨c25, c26, c27⟩, h⟩ := chk_some h
  obtain ⟨m28, hm28, h⟩ := st_some h
  refine sd_i_3 c25 c26 c27 dX12_waitsFor_58 (?_ : Ex _ _ 59 _ _ _ _ _)
  rw [← hm28]
  refine x_aload_n dX12_waitsFor_59 rfl rfl (Or.inr (by decide)) (?_ : Ex _ _ 60 _ _ _ _ _)
  refine gt_12_60 c1 fl_RX12_131 dX12_waitsFor_60 (?_ : Ex _ _ 63 _ _ _ _ _)
  refine x_iload_n dX12_waitsFor_63 rfl rfl (?_ : Ex _ _ 64 _ _ _ _ _)
  refine x_iconst dX12_waitsFor_64 rfl (by decide) (?_ : Ex _ _ 65 _ _ _ _ _)
  obtain ⟨⟨c29, c30, c31⟩, h⟩ := chk_some h
  obtain ⟨m32, hm32, h⟩ := st_some h
  refine sd_b_3 c29 c30 c31 (by decide) dX12_waitsFor_65 (?_ : Ex _ _ 66 _ _ _ _ _)
  rw [← hm32]
  refine x_aload_n dX12_waitsFor_66 rfl rfl (Or.inr (by decide)) (?_ : Ex _ _ 67 _ _ _ _ _)
  refine gt_12_61 c1 fl_RX12_134 dX12_waitsFor_67 (?_ : Ex _ _ 70 _ _ _ _ _)
  refine x_iload_n dX12_waitsFor_70 rfl rfl (?_ : Ex _ _ 71 _ _ _ _ _)
  refine x_iconst dX12_waitsFor_71 rfl (by decide) (?_ : Ex _ _ 72 _ _ _ _ _)
  obtain ⟨⟨c33, c34, c35⟩, h⟩ := chk_some h
  obtain ⟨m36, hm36, h⟩ := st_some h
  refine sd_b_3 c33 c34 c35 (by decide) dX12_waitsFor_72 (?_ : Ex _ _ 73 _ _ _ _ _)
  rw [← hm36]
  refine x_aload_n dX12_waitsFor_73 rfl rfl (Or.inr (by decide)) (?_ : Ex _ _ 74 _ _ _ _ _)
  refine gt_12_63 c1 fl_RX12_140 dX12_waitsFor_74 (?_ : Ex _ _ 77 _ _ _ _ _)
  refine x_iload_n dX12_waitsFor_77 rfl rfl (?_ : Ex _ _ 78 _ _ _ _ _)
  refine x_iconst dX12_waitsFor_78 rfl (by decide) (?_ : Ex _ _ 79 _ _ _ _ _)
  obtain ⟨⟨c37, c38, c39⟩, h⟩ := chk_some h
  obtain ⟨m40, hm40, h⟩ := st_some h
  refine sd_b_3 c37 c38 c39 (by decide) dX12_waitsFor_79 (?_ : Ex _ _ 80 _ _ _ _ _)
  rw [← hm40]
  refine x_aload_n dX12_waitsFor_80 rfl rfl (Or.inr (by decide)) (?_ : Ex _ _ 81 _ _ _ _ _)
  refine gt_12_2 c1 fl_RX12_7 dX12_waitsFor_81 (?_ : Ex _ _ 84 _ _ _ _ _)
  refine x_iload_n dX12_waitsFor_84 rfl rfl (?_ : Ex _ _ 85 _ _ _ _ _)
  obtain ⟨⟨c41, c42, c43⟩, h⟩ := chk_some h
  refine ld_i_180 c41 c42 c43 dX12_waitsFor_85 (?_ : Ex _ _ 86 _ _ _ _ _)
  rcases ite_some h with ⟨b44, h⟩ | ⟨b44, h⟩
  · refine y_tableAt (j := 0) (off := 30) (tgt := 116) b44 dX12_waitsFor_86 (by decide) (by decide) rfl rfl (?_ : Ex _ _ 116 _ _ _ _ _)
    refine x_aload_n dX12_waitsFor_116 rfl rfl (Or.inr (by decide)) (?_ : Ex _ _ 117 _ _ _ _ _)
    refine gt_12_58 c1 fl_RX12_125 dX12_waitsFor_117 (?_ : Ex _ _ 120 _ _ _ _ _)
    refine x_iload_n dX12_waitsFor_120 rfl rfl (?_ : Ex _ _ 121 _ _ _ _ _)
    refine x_aload_n dX12_waitsFor_121 rfl rfl (Or.inr (by decide)) (?_ : Ex _ _ 122 _ _ _ _ _)
    refine gt_12_51 c1 fl_RX12_265 dX12_waitsFor_122 (?_ : Ex _ _ 125 _ _ _ _ _)
    obtain ⟨⟨c45, c46, c47⟩, h⟩ := chk_some h
    obtain ⟨m48, hm48, h⟩ := st_some h
    refine sd_i_3 c45 c46 c47 dX12_waitsFor_125 (?_ : Ex _ _ 126 _ _ _ _ _)
    rw [← hm48]
    refine x_aload_n dX12_waitsFor_126 rfl rfl (Or.inr (by decide)) (?_ : Ex _ _ 127 _ _ _ _ _)
    refine x_dup (by decide : (22 : Int) ≠ 2) dX12_waitsFor_127 (?_ : Ex _ _ 128 _ _ _ _ _)
    refine gt_12_51 c1 fl_RX12_265 dX12_waitsFor_128 (?_ : Ex _ _ 131 _ _ _ _ _)
    refine x_iconst dX12_waitsFor_131 rfl (by decide) (?_ : Ex _ _ 132 _ _ _ _ _)
    obtain ⟨c49, h⟩ := chk_some h
    refine x_iadd dX12_waitsFor_132 c49 (?_ : Ex _ _ 133 _ _ _ _ _)
    obtain ⟨m50, hm50, h⟩ := st_some h
    refine pt_12_51  c1 fl_RX12_265 dX12_waitsFor_133 (?_ : Ex _ _ 136 _ _ _ _ _)
    rw [← hm50]
    refine x_aload_n dX12_waitsFor_136 rfl rfl (Or.inr (by decide)) (?_ : Ex _ _ 137 _ _ _ _ _)
    refine x_bipush dX12_waitsFor_137 kb_8 (by decide) (?_ : Ex _ _ 139 _ _ _ _ _)
    refine x_aload_n dX12_waitsFor_139 rfl rfl (Or.inr (by decide)) (?_ : Ex _ _ 140 _ _ _ _ _)
    refine gt_12_3 c1 fl_RX12_13 dX12_waitsFor_140 (?_ : Ex _ _ 143 _ _ _ _ _)
    refine x_iload_n dX12_waitsFor_143 rfl rfl (?_ : Ex _ _ 144 _ _ _ _ _)
    obtain ⟨⟨c51, c52, c53⟩, h⟩ := chk_some h
    refine ld_i_180 c51 c52 c53 dX12_waitsFor_144 (?_ : Ex _ _ 145 _ _ _ _ _)
    refine x_aload_n dX12_waitsFor_145 rfl rfl (Or.inr (by decide)) (?_ : Ex _ _ 146 _ _ _ _ _)
    refine gt_12_4 c1 fl_RX12_16 dX12_waitsFor_146 (?_ : Ex _ _ 149 _ _ _ _ _)
    refine x_iload_n dX12_waitsFor_149 rfl rfl (?_ : Ex _ _ 150 _ _ _ _ _)
    obtain ⟨⟨c54, c55, c56⟩, h⟩ := chk_some h
    refine ld_i_180 c54 c55 c56 dX12_waitsFor_150 (?_ : Ex _ _ 151 _ _ _ _ _)
    obtain ⟨v57, m58, g59, h⟩ := cal_some h
    refine cV3 (e_X12_decides (d + 1) g59) (contV (?_ : Ex _ _ 154 _ _ _ _ _)) og_X12_decides rfl ml_RX12_292 12 rfl rfl c1 im_X12_decides se_X12_decides (Nat.le_of_ble_eq_true rfl) dX12_waitsFor_151
    refine x_goto (tgt := 273) dX12_waitsFor_154 rfl (?_ : Ex _ _ 273 _ _ _ _ _)
    cases h
    exact x_retv dX12_waitsFor_273
  rcases ite_some h with ⟨b60, h⟩ | ⟨b60, h⟩
  · refine y_tableAt (j := 1) (off := 71) (tgt := 157) b60 dX12_waitsFor_86 (by decide) (by decide) rfl rfl (?_ : Ex _ _ 157 _ _ _ _ _)
    refine x_aload_n dX12_waitsFor_157 rfl rfl (Or.inr (by decide)) (?_ : Ex _ _ 158 _ _ _ _ _)
    refine x_iload_n dX12_waitsFor_158 rfl rfl (?_ : Ex _ _ 159 _ _ _ _ _)
    refine x_aload_n dX12_waitsFor_159 rfl rfl (Or.inr (by decide)) (?_ : Ex _ _ 160 _ _ _ _ _)
    refine gt_12_3 c1 fl_RX12_13 dX12_waitsFor_160 (?_ : Ex _ _ 163 _ _ _ _ _)
    refine x_iload_n dX12_waitsFor_163 rfl rfl (?_ : Ex _ _ 164 _ _ _ _ _)
    obtain ⟨⟨c61, c62, c63⟩, h⟩ := chk_some h
    refine ld_i_180 c61 c62 c63 dX12_waitsFor_164 (?_ : Ex _ _ 165 _ _ _ _ _)
    obtain ⟨v64, m65, g66, h⟩ := cal_some h
    refine cV2 (e_X12_setsTimer d g66) (contV (?_ : Ex _ _ 168 _ _ _ _ _)) og_X12_setsTimer rfl ml_RX12_311 12 rfl rfl c1 im_X12_setsTimer se_X12_setsTimer (Nat.le_of_ble_eq_true rfl) dX12_waitsFor_165
    refine x_goto (tgt := 273) dX12_waitsFor_168 rfl (?_ : Ex _ _ 273 _ _ _ _ _)
    cases h
    exact x_retv dX12_waitsFor_273
  rcases ite_some h with ⟨b67, h⟩ | ⟨b67, h⟩
  · refine y_tableAt (j := 2) (off := 126) (tgt := 212) b67 dX12_waitsFor_86 (by decide) (by decide) rfl rfl (?_ : Ex _ _ 212 _ _ _ _ _)
    refine x_aload_n dX12_waitsFor_212 rfl rfl (Or.inr (by decide)) (?_ : Ex _ _ 213 _ _ _ _ _)
    refine x_aload_n dX12_waitsFor_213 rfl rfl (Or.inr (by decide)) (?_ : Ex _ _ 214 _ _ _ _ _)
    refine gt_12_3 c1 fl_RX12_13 dX12_waitsFor_214 (?_ : Ex _ _ 217 _ _ _ _ _)
    refine x_iload_n dX12_waitsFor_217 rfl rfl (?_ : Ex _ _ 218 _ _ _ _ _)
    obtain ⟨⟨c68, c69, c70⟩, h⟩ := chk_some h
    refine ld_i_180 c68 c69 c70 dX12_waitsFor_218 (?_ : Ex _ _ 219 _ _ _ _ _)
    obtain ⟨v71, m72, g73, h⟩ := cal_some h
    refine cV1 (e_X12_untaken (d + 1) g73) (contN (by decide) (?_ : Ex _ _ 222 _ _ _ _ _)) og_X12_untaken rfl ml_RX12_314 12 rfl rfl c1 im_X12_untaken se_X12_untaken (Nat.le_of_ble_eq_true rfl) dX12_waitsFor_219
    refine x_istore (ls2 := [(22, l0), (0, l1), (0, m l0 55), (0, v2), (0, v71)]) dX12_waitsFor_222 (Nat.le_of_ble_eq_true rfl) rfl (?_ : Ex _ _ 224 _ _ _ _ _)
    refine x_iload dX12_waitsFor_224 rfl (?_ : Ex _ _ 226 _ _ _ _ _)
    refine x_iconst dX12_waitsFor_226 rfl (by decide) (?_ : Ex _ _ 227 _ _ _ _ _)
    rcases ite_some h with ⟨b74, h⟩ | ⟨b74, h⟩
    · refine x_icmp_eq (tgt := 253) dX12_waitsFor_227 rfl b74 (?_ : Ex _ _ 253 _ _ _ _ _)
      refine x_aload_n dX12_waitsFor_253 rfl rfl (Or.inr (by decide)) (?_ : Ex _ _ 254 _ _ _ _ _)
      refine gt_12_4 c1 fl_RX12_16 dX12_waitsFor_254 (?_ : Ex _ _ 257 _ _ _ _ _)
      refine x_iload_n dX12_waitsFor_257 rfl rfl (?_ : Ex _ _ 258 _ _ _ _ _)
      obtain ⟨⟨c75, c76, c77⟩, h⟩ := chk_some h
      refine ld_i_180 c75 c76 c77 dX12_waitsFor_258 (?_ : Ex _ _ 259 _ _ _ _ _)
      rcases ite_some h with ⟨b78, h⟩ | ⟨b78, h⟩
      · refine x_if_le (tgt := 273) dX12_waitsFor_259 rfl b78 (?_ : Ex _ _ 273 _ _ _ _ _)
        cases h
        exact x_retv dX12_waitsFor_273
      · refine x_if_leN dX12_waitsFor_259 (by decide) b78 (?_ : Ex _ _ 262 _ _ _ _ _)
        refine x_aload_n dX12_waitsFor_262 rfl rfl (Or.inr (by decide)) (?_ : Ex _ _ 263 _ _ _ _ _)
        refine x_iload_n dX12_waitsFor_263 rfl rfl (?_ : Ex _ _ 264 _ _ _ _ _)
        refine x_aload_n dX12_waitsFor_264 rfl rfl (Or.inr (by decide)) (?_ : Ex _ _ 265 _ _ _ _ _)
        refine gt_12_4 c1 fl_RX12_16 dX12_waitsFor_265 (?_ : Ex _ _ 268 _ _ _ _ _)
        refine x_iload_n dX12_waitsFor_268 rfl rfl (?_ : Ex _ _ 269 _ _ _ _ _)
        obtain ⟨⟨c79, c80⟩, h⟩ := chk_some h
        refine ld_i_180 c75 c79 c80 dX12_waitsFor_269 (?_ : Ex _ _ 270 _ _ _ _ _)
        obtain ⟨v81, m82, g83, h⟩ := cal_some h
        refine cV2 (e_X12_setsTimer d g83) (contV (?_ : Ex _ _ 273 _ _ _ _ _)) og_X12_setsTimer rfl ml_RX12_311 12 rfl rfl c1 im_X12_setsTimer se_X12_setsTimer (Nat.le_of_ble_eq_true rfl) dX12_waitsFor_270
        cases h
        exact x_retv dX12_waitsFor_273
    · refine x_icmp_eqN dX12_waitsFor_227 (by decide) b74 (?_ : Ex _ _ 230 _ _ _ _ _)
      refine x_aload_n dX12_waitsFor_230 rfl rfl (Or.inr (by decide)) (?_ : Ex _ _ 231 _ _ _ _ _)
      refine gt_12_67 c1 fl_RX12_149 dX12_waitsFor_231 (?_ : Ex _ _ 234 _ _ _ _ _)
      refine x_iload dX12_waitsFor_234 rfl (?_ : Ex _ _ 236 _ _ _ _ _)
      refine x_iconst dX12_waitsFor_236 rfl (by decide) (?_ : Ex _ _ 237 _ _ _ _ _)
      obtain ⟨⟨c84, c85, c86⟩, h⟩ := chk_some h
      obtain ⟨m87, hm87, h⟩ := st_some h
      refine sd_b_80 c84 c85 c86 (by decide) dX12_waitsFor_237 (?_ : Ex _ _ 238 _ _ _ _ _)
      rw [← hm87]
      refine x_aload_n dX12_waitsFor_238 rfl rfl (Or.inr (by decide)) (?_ : Ex _ _ 239 _ _ _ _ _)
      refine x_iload_n dX12_waitsFor_239 rfl rfl (?_ : Ex _ _ 240 _ _ _ _ _)
      refine x_aload_n dX12_waitsFor_240 rfl rfl (Or.inr (by decide)) (?_ : Ex _ _ 241 _ _ _ _ _)
      refine gt_12_66 c1 fl_RX12_146 dX12_waitsFor_241 (?_ : Ex _ _ 244 _ _ _ _ _)
      refine x_iload dX12_waitsFor_244 rfl (?_ : Ex _ _ 246 _ _ _ _ _)
      obtain ⟨⟨c88, c89, c90⟩, h⟩ := chk_some h
      refine ld_i_80 c88 c89 c90 dX12_waitsFor_246 (?_ : Ex _ _ 247 _ _ _ _ _)
      obtain ⟨v91, m92, g93, h⟩ := cal_some h
      refine cV2 (e_X12_gets (d + 1) g93) (contV (?_ : Ex _ _ 250 _ _ _ _ _)) og_X12_gets rfl ml_RX12_317 12 rfl rfl c1 im_X12_gets se_X12_gets (Nat.le_of_ble_eq_true rfl) dX12_waitsFor_247
      refine x_goto (tgt := 273) dX12_waitsFor_250 rfl (?_ : Ex _ _ 273 _ _ _ _ _)
      cases h
      exact x_retv dX12_waitsFor_273
  rcases ite_some h with ⟨b94, h⟩ | ⟨b94, h⟩
  · refine y_tableAt (j := 3) (off := 85) (tgt := 171) b94 dX12_waitsFor_86 (by decide) (by decide) rfl rfl (?_ : Ex _ _ 171 _ _ _ _ _)
    refine x_aload_n dX12_waitsFor_171 rfl rfl (Or.inr (by decide)) (?_ : Ex _ _ 172 _ _ _ _ _)
    refine gt_12_58 c1 fl_RX12_125 dX12_waitsFor_172 (?_ : Ex _ _ 175 _ _ _ _ _)
    refine x_iload_n dX12_waitsFor_175 rfl rfl (?_ : Ex _ _ 176 _ _ _ _ _)
    refine x_aload_n dX12_waitsFor_176 rfl rfl (Or.inr (by decide)) (?_ : Ex _ _ 177 _ _ _ _ _)
    refine gt_12_53 c1 fl_RX12_271 dX12_waitsFor_177 (?_ : Ex _ _ 180 _ _ _ _ _)
    obtain ⟨⟨c95, c96, c97⟩, h⟩ := chk_some h
    obtain ⟨m98, hm98, h⟩ := st_some h
    refine sd_i_3 c95 c96 c97 dX12_waitsFor_180 (?_ : Ex _ _ 181 _ _ _ _ _)
    rw [← hm98]
    refine x_aload_n dX12_waitsFor_181 rfl rfl (Or.inr (by decide)) (?_ : Ex _ _ 182 _ _ _ _ _)
    refine x_dup (by decide : (22 : Int) ≠ 2) dX12_waitsFor_182 (?_ : Ex _ _ 183 _ _ _ _ _)
    refine gt_12_53 c1 fl_RX12_271 dX12_waitsFor_183 (?_ : Ex _ _ 186 _ _ _ _ _)
    refine x_iconst dX12_waitsFor_186 rfl (by decide) (?_ : Ex _ _ 187 _ _ _ _ _)
    obtain ⟨c99, h⟩ := chk_some h
    refine x_iadd dX12_waitsFor_187 c99 (?_ : Ex _ _ 188 _ _ _ _ _)
    obtain ⟨m100, hm100, h⟩ := st_some h
    refine pt_12_53  c1 fl_RX12_271 dX12_waitsFor_188 (?_ : Ex _ _ 191 _ _ _ _ _)
    rw [← hm100]
    refine x_aload_n dX12_waitsFor_191 rfl rfl (Or.inr (by decide)) (?_ : Ex _ _ 192 _ _ _ _ _)
    refine x_bipush dX12_waitsFor_192 kb_12 (by decide) (?_ : Ex _ _ 194 _ _ _ _ _)
    refine x_aload_n dX12_waitsFor_194 rfl rfl (Or.inr (by decide)) (?_ : Ex _ _ 195 _ _ _ _ _)
    refine gt_12_3 c1 fl_RX12_13 dX12_waitsFor_195 (?_ : Ex _ _ 198 _ _ _ _ _)
    refine x_iload_n dX12_waitsFor_198 rfl rfl (?_ : Ex _ _ 199 _ _ _ _ _)
    obtain ⟨⟨c101, c102, c103⟩, h⟩ := chk_some h
    refine ld_i_180 c101 c102 c103 dX12_waitsFor_199 (?_ : Ex _ _ 200 _ _ _ _ _)
    refine x_aload_n dX12_waitsFor_200 rfl rfl (Or.inr (by decide)) (?_ : Ex _ _ 201 _ _ _ _ _)
    refine gt_12_4 c1 fl_RX12_16 dX12_waitsFor_201 (?_ : Ex _ _ 204 _ _ _ _ _)
    refine x_iload_n dX12_waitsFor_204 rfl rfl (?_ : Ex _ _ 205 _ _ _ _ _)
    obtain ⟨⟨c104, c105, c106⟩, h⟩ := chk_some h
    refine ld_i_180 c104 c105 c106 dX12_waitsFor_205 (?_ : Ex _ _ 206 _ _ _ _ _)
    obtain ⟨v107, m108, g109, h⟩ := cal_some h
    refine cV3 (e_X12_decides (d + 1) g109) (contV (?_ : Ex _ _ 209 _ _ _ _ _)) og_X12_decides rfl ml_RX12_292 12 rfl rfl c1 im_X12_decides se_X12_decides (Nat.le_of_ble_eq_true rfl) dX12_waitsFor_206
    refine x_goto (tgt := 273) dX12_waitsFor_209 rfl (?_ : Ex _ _ 273 _ _ _ _ _)
    cases h
    exact x_retv dX12_waitsFor_273
  refine x_tableOut (tgt := 212) dX12_waitsFor_86 (by omega) rfl (?_ : Ex _ _ 212 _ _ _ _ _)
  refine x_aload_n dX12_waitsFor_212 rfl rfl (Or.inr (by decide)) (?_ : Ex _ _ 213 _ _ _ _ _)
  refine x_aload_n dX12_waitsFor_213 rfl rfl (Or.inr (by decide)) (?_ : Ex _ _ 214 _ _ _ _ _)
  refine gt_12_3 c1 fl_RX12_13 dX12_waitsFor_214 (?_ : Ex _ _ 217 _ _ _ _ _)
  refine x_iload_n dX12_waitsFor_217 rfl rfl (?_ : Ex _ _ 218 _ _ _ _ _)
  obtain ⟨⟨c110, c111, c112⟩, h⟩ := chk_some h
  refine ld_i_180 c110 c111 c112 dX12_waitsFor_218 (?_ : Ex _ _ 219 _ _ _ _ _)
  obtain ⟨v113, m114, g115, h⟩ := cal_some h
  refine cV1 (e_X12_untaken (d + 1) g115) (contN (by decide) (?_ : Ex _ _ 222 _ _ _ _ _)) og_X12_untaken rfl ml_RX12_314 12 rfl rfl c1 im_X12_untaken se_X12_untaken (Nat.le_of_ble_eq_true rfl) dX12_waitsFor_219
  refine x_istore (ls2 := [(22, l0), (0, l1), (0, m l0 55), (0, v2), (0, v113)]) dX12_waitsFor_222 (Nat.le_of_ble_eq_true rfl) rfl (?_ : Ex _ _ 224 _ _ _ _ _)
  refine x_iload dX12_waitsFor_224 rfl (?_ : Ex _ _ 226 _ _ _ _ _)
  refine x_iconst dX12_waitsFor_226 rfl (by decide) (?_ : Ex _ _ 227 _ _ _ _ _)
  rcases ite_some h with ⟨b116, h⟩ | ⟨b116, h⟩
  · refine x_icmp_eq (tgt := 253) dX12_waitsFor_227 rfl b116 (?_ : Ex _ _ 253 _ _ _ _ _)
    refine x_aload_n dX12_waitsFor_253 rfl rfl (Or.inr (by decide)) (?_ : Ex _ _ 254 _ _ _ _ _)
    refine gt_12_4 c1 fl_RX12_16 dX12_waitsFor_254 (?_ : Ex _ _ 257 _ _ _ _ _)
    refine x_iload_n dX12_waitsFor_257 rfl rfl (?_ : Ex _ _ 258 _ _ _ _ _)
    obtain ⟨⟨c117, c118, c119⟩, h⟩ := chk_some h
    refine ld_i_180 c117 c118 c119 dX12_waitsFor_258 (?_ : Ex _ _ 259 _ _ _ _ _)
    rcases ite_some h with ⟨b120, h⟩ | ⟨b120, h⟩
    · refine x_if_le (tgt := 273) dX12_waitsFor_259 rfl b120 (?_ : Ex _ _ 273 _ _ _ _ _)
      cases h
      exact x_retv dX12_waitsFor_273
    · refine x_if_leN dX12_waitsFor_259 (by decide) b120 (?_ : Ex _ _ 262 _ _ _ _ _)
      refine x_aload_n dX12_waitsFor_262 rfl rfl (Or.inr (by decide)) (?_ : Ex _ _ 263 _ _ _ _ _)
      refine x_iload_n dX12_waitsFor_263 rfl rfl (?_ : Ex _ _ 264 _ _ _ _ _)
      refine x_aload_n dX12_waitsFor_264 rfl rfl (Or.inr (by decide)) (?_ : Ex _ _ 265 _ _ _ _ _)
      refine gt_12_4 c1 fl_RX12_16 dX12_waitsFor_265 (?_ : Ex _ _ 268 _ _ _ _ _)
      refine x_iload_n dX12_waitsFor_268 rfl rfl (?_ : Ex _ _ 269 _ _ _ _ _)
      obtain ⟨⟨c121, c122⟩, h⟩ := chk_some h
      refine ld_i_180 c117 c121 c122 dX12_waitsFor_269 (?_ : Ex _ _ 270 _ _ _ _ _)
      obtain ⟨v123, m124, g125, h⟩ := cal_some h
      refine cV2 (e_X12_setsTimer d g125) (contV (?_ : Ex _ _ 273 _ _ _ _ _)) og_X12_setsTimer rfl ml_RX12_311 12 rfl rfl c1 im_X12_setsTimer se_X12_setsTimer (Nat.le_of_ble_eq_true rfl) dX12_waitsFor_270
      cases h
      exact x_retv dX12_waitsFor_273
  · refine x_icmp_eqN dX12_waitsFor_227 (by decide) b116 (?_ : Ex _ _ 230 _ _ _ _ _)
    refine x_aload_n dX12_waitsFor_230 rfl rfl (Or.inr (by decide)) (?_ : Ex _ _ 231 _ _ _ _ _)
    refine gt_12_67 c1 fl_RX12_149 dX12_waitsFor_231 (?_ : Ex _ _ 234 _ _ _ _ _)
    refine x_iload dX12_waitsFor_234 rfl (?_ : Ex _ _ 236 _ _ _ _ _)
    refine x_iconst dX12_waitsFor_236 rfl (by decide) (?_ : Ex _ _ 237 _ _ _ _ _)
    obtain ⟨⟨c126, c127, c128⟩, h⟩ := chk_some h
    obtain ⟨m129, hm129, h⟩ := st_some h
    refine sd_b_80 c126 c127 c128 (by decide) dX12_waitsFor_237 (?_ : Ex _ _ 238 _ _ _ _ _)
    rw [← hm129]
    refine x_aload_n dX12_waitsFor_238 rfl rfl (Or.inr (by decide)) (?_ : Ex _ _ 239 _ _ _ _ _)
    refine x_iload_n dX12_waitsFor_239 rfl rfl (?_ : Ex _ _ 240 _ _ _ _ _)
    refine x_aload_n dX12_waitsFor_240 rfl rfl (Or.inr (by decide)) (?_ : Ex _ _ 241 _ _ _ _ _)
    refine gt_12_66 c1 fl_RX12_146 dX12_waitsFor_241 (?_ : Ex _ _ 244 _ _ _ _ _)
    refine x_iload dX12_waitsFor_244 rfl (?_ : Ex _ _ 246 _ _ _ _ _)
    obtain ⟨⟨c130, c131, c132⟩, h⟩ := chk_some h
    refine ld_i_80 c130 c131 c132 dX12_waitsFor_246 (?_ : Ex _ _ 247 _ _ _ _ _)
    obtain ⟨v133, m134, g135, h⟩ := cal_some h
    refine cV2 (e_X12_gets (d + 1) g135) (contV (?_ : Ex _ _ 250 _ _ _ _ _)) og_X12_gets rfl ml_RX12_317 12 rfl rfl c1 im_X12_gets se_X12_gets (Nat.le_of_ble_eq_true rfl) dX12_waitsFor_247
    refine x_goto (tgt := 273) dX12_waitsFor_250 rfl (?_ : Ex _ _ 273 _ _ _ _ _)
    cases h
    exact x_retv dX12_waitsFor_273
theorem e_X12_waitsFor (d : Nat) {a0 a1 : Int} {m : Mem} {v : Int} {m' : Mem} (h : X12_waitsFor a0 a1 m = some (v, m')) : ExM (d + 2) fm_X12_waitsFor [(22, a0), (0, a1)] m (.inl (3, 0)) m' := by
  exact ExM.of (by decide +kernel) (Nat.le_of_ble_eq_true rfl) (cat9 rfl) retV (e_X12_waitsFor_0 d h)
theorem dX12_areDone_0 : decode cX12_areDone 0 = .ok (.iconst 1, 1) := by decide +kernel
theorem dX12_areDone_1 : decode cX12_areDone 1 = .ok (.istore_n 1, 1) := by decide +kernel
theorem dX12_areDone_2 : decode cX12_areDone 2 = .ok (.iconst 0, 1) := by decide +kernel
theorem dX12_areDone_3 : decode cX12_areDone 3 = .ok (.istore_n 2, 1) := by decide +kernel
theorem dX12_areDone_4 : decode cX12_areDone 4 = .ok (.iload_n 2, 1) := by decide +kernel
theorem dX12_areDone_5 : decode cX12_areDone 5 = .ok (.aload_n 0, 1) := by decide +kernel
theorem dX12_areDone_6 : decode cX12_areDone 6 = .ok (.getfield 274, 3) := by decide +kernel
theorem dX12_areDone_9 : decode cX12_areDone 9 = .ok (.if_icmp .ge 28, 3) := by decide +kernel
theorem dX12_areDone_12 : decode cX12_areDone 12 = .ok (.iload_n 1, 1) := by decide +kernel
theorem dX12_areDone_13 : decode cX12_areDone 13 = .ok (.ifCond .eq 16, 3) := by decide +kernel
theorem dX12_areDone_16 : decode cX12_areDone 16 = .ok (.aload_n 0, 1) := by decide +kernel
theorem dX12_areDone_17 : decode cX12_areDone 17 = .ok (.getfield 131, 3) := by decide +kernel
theorem dX12_areDone_20 : decode cX12_areDone 20 = .ok (.iload_n 2, 1) := by decide +kernel
theorem dX12_areDone_21 : decode cX12_areDone 21 = .ok (.baload, 1) := by decide +kernel
theorem dX12_areDone_22 : decode cX12_areDone 22 = .ok (.ifCond .eq 7, 3) := by decide +kernel
theorem dX12_areDone_25 : decode cX12_areDone 25 = .ok (.iconst 1, 1) := by decide +kernel
theorem dX12_areDone_26 : decode cX12_areDone 26 = .ok (.goto 4, 3) := by decide +kernel
theorem dX12_areDone_29 : decode cX12_areDone 29 = .ok (.iconst 0, 1) := by decide +kernel
theorem dX12_areDone_30 : decode cX12_areDone 30 = .ok (.istore_n 1, 1) := by decide +kernel
theorem dX12_areDone_31 : decode cX12_areDone 31 = .ok (.iinc 2 1, 3) := by decide +kernel
theorem dX12_areDone_34 : decode cX12_areDone 34 = .ok (.goto (-30), 3) := by decide +kernel
theorem dX12_areDone_37 : decode cX12_areDone 37 = .ok (.iload_n 1, 1) := by decide +kernel
theorem dX12_areDone_38 : decode cX12_areDone 38 = .ok (.ireturn, 1) := by decide +kernel
theorem e_X12_areDone_4 (d : Nat) : ∀ (n : Nat) {l0 l1 l2 : Int} {m : Mem} {v : Int} {m' : Mem}, X12_areDone_4 n l0 l1 l2 m = some (v, m') → Ex d fm_X12_areDone 4 [(22, l0), (0, l1), (0, l2)] [] m (.inl (0, v)) m' := by
  intro n
  induction n with
  | zero =>
    intro l0 l1 l2 m v m' h
    have h : (none : Option R2) = some _ := h
    cases h
  | succ n ih =>
    intro l0 l1 l2 m v m' h
    rw [X12_areDone_4] at h
    refine x_iload_n dX12_areDone_4 rfl rfl (?_ : Ex _ _ 5 _ _ _ _ _)
    refine x_aload_n dX12_areDone_5 rfl rfl (Or.inr (by decide)) (?_ : Ex _ _ 6 _ _ _ _ _)
    obtain ⟨c1, h⟩ := chk_some h
    refine gt_12_55 c1 fl_RX12_274 dX12_areDone_6 (?_ : Ex _ _ 9 _ _ _ _ _)
    rcases ite_some h with ⟨b2, h⟩ | ⟨b2, h⟩
    · refine x_icmp_ge (tgt := 37) dX12_areDone_9 rfl b2 (?_ : Ex _ _ 37 _ _ _ _ _)
      refine x_iload_n dX12_areDone_37 rfl rfl (?_ : Ex _ _ 38 _ _ _ _ _)
      cases h
      exact x_ret dX12_areDone_38 (by decide : (0 : Int) ≠ 3)
    · refine x_icmp_geN dX12_areDone_9 (by decide) b2 (?_ : Ex _ _ 12 _ _ _ _ _)
      refine x_iload_n dX12_areDone_12 rfl rfl (?_ : Ex _ _ 13 _ _ _ _ _)
      rcases ite_some h with ⟨b3, h⟩ | ⟨b3, h⟩
      · refine x_if_eq (tgt := 29) dX12_areDone_13 rfl b3 (?_ : Ex _ _ 29 _ _ _ _ _)
        refine x_iconst dX12_areDone_29 rfl (by decide) (?_ : Ex _ _ 30 _ _ _ _ _)
        refine x_istore_n (ls2 := [(22, l0), (0, 0), (0, l2)]) dX12_areDone_30 rfl (Nat.le_of_ble_eq_true rfl) rfl (?_ : Ex _ _ 31 _ _ _ _ _)
        obtain ⟨c4, h⟩ := chk_some h
        refine x_iinc (ls2 := [(22, l0), (0, 0), (0, (l2 + 1))]) dX12_areDone_31 rfl c4 rfl (?_ : Ex _ _ 34 _ _ _ _ _)
        refine x_goto (tgt := 4) dX12_areDone_34 rfl (?_ : Ex _ _ 4 _ _ _ _ _)
        exact ih h
      · refine x_if_eqN dX12_areDone_13 (by decide) b3 (?_ : Ex _ _ 16 _ _ _ _ _)
        refine x_aload_n dX12_areDone_16 rfl rfl (Or.inr (by decide)) (?_ : Ex _ _ 17 _ _ _ _ _)
        refine gt_12_60 c1 fl_RX12_131 dX12_areDone_17 (?_ : Ex _ _ 20 _ _ _ _ _)
        refine x_iload_n dX12_areDone_20 rfl rfl (?_ : Ex _ _ 21 _ _ _ _ _)
        obtain ⟨⟨c5, c6, c7⟩, h⟩ := chk_some h
        refine ld_b_3 c5 c6 c7 dX12_areDone_21 (?_ : Ex _ _ 22 _ _ _ _ _)
        rcases ite_some h with ⟨b8, h⟩ | ⟨b8, h⟩
        · refine x_if_eq (tgt := 29) dX12_areDone_22 rfl b8 (?_ : Ex _ _ 29 _ _ _ _ _)
          refine x_iconst dX12_areDone_29 rfl (by decide) (?_ : Ex _ _ 30 _ _ _ _ _)
          refine x_istore_n (ls2 := [(22, l0), (0, 0), (0, l2)]) dX12_areDone_30 rfl (Nat.le_of_ble_eq_true rfl) rfl (?_ : Ex _ _ 31 _ _ _ _ _)
          obtain ⟨c9, h⟩ := chk_some h
          refine x_iinc (ls2 := [(22, l0), (0, 0), (0, (l2 + 1))]) dX12_areDone_31 rfl c9 rfl (?_ : Ex _ _ 34 _ _ _ _ _)
          refine x_goto (tgt := 4) dX12_areDone_34 rfl (?_ : Ex _ _ 4 _ _ _ _ _)
          exact ih h
        · refine x_if_eqN dX12_areDone_22 (by decide) b8 (?_ : Ex _ _ 25 _ _ _ _ _)
          refine x_iconst dX12_areDone_25 rfl (by decide) (?_ : Ex _ _ 26 _ _ _ _ _)
          refine x_goto (tgt := 30) dX12_areDone_26 rfl (?_ : Ex _ _ 30 _ _ _ _ _)
          refine x_istore_n (ls2 := [(22, l0), (0, 1), (0, l2)]) dX12_areDone_30 rfl (Nat.le_of_ble_eq_true rfl) rfl (?_ : Ex _ _ 31 _ _ _ _ _)
          obtain ⟨c10, h⟩ := chk_some h
          refine x_iinc (ls2 := [(22, l0), (0, 1), (0, (l2 + 1))]) dX12_areDone_31 rfl c10 rfl (?_ : Ex _ _ 34 _ _ _ _ _)
          refine x_goto (tgt := 4) dX12_areDone_34 rfl (?_ : Ex _ _ 4 _ _ _ _ _)
          exact ih h
theorem e_X12_areDone_0 (d : Nat) {l0 : Int} {m : Mem} {v : Int} {m' : Mem} (h : X12_areDone_0 l0 m = some (v, m')) : Ex d fm_X12_areDone 0 [(22, l0), (3, 0), (3, 0)] [] m (.inl (0, v)) m' := by
  unfold X12_areDone_0 at h
  refine x_iconst dX12_areDone_0 rfl (by decide) (?_ : Ex _ _ 1 _ _ _ _ _)
  refine x_istore_n (ls2 := [(22, l0), (0, 1), (3, 0)]) dX12_areDone_1 rfl (Nat.le_of_ble_eq_true rfl) rfl (?_ : Ex _ _ 2 _ _ _ _ _)
  refine x_iconst dX12_areDone_2 rfl (by decide) (?_ : Ex _ _ 3 _ _ _ _ _)
  refine x_istore_n (ls2 := [(22, l0), (0, 1), (0, 0)]) dX12_areDone_3 rfl (Nat.le_of_ble_eq_true rfl) rfl (?_ : Ex _ _ 4 _ _ _ _ _)
  exact e_X12_areDone_4 d fuel9 h
theorem e_X12_areDone (d : Nat) {a0 : Int} {m : Mem} {v : Int} {m' : Mem} (h : X12_areDone a0 m = some (v, m')) : ExM d fm_X12_areDone [(22, a0)] m (.inl (0, v)) m' := by
  obtain ⟨hb, h⟩ := boolR_some h
  exact ExM.of (by decide +kernel) (Nat.le_of_ble_eq_true rfl) (cat9 rfl) (retZ hb) (e_X12_areDone_0 d h)
theorem dX12_finishes_0 : decode cX12_finishes 0 = .ok (.iconst 0, 1) := by decide +kernel
theorem dX12_finishes_1 : decode cX12_finishes 1 = .ok (.istore_n 1, 1) := by decide +kernel
theorem dX12_finishes_2 : decode cX12_finishes 2 = .ok (.iconst 0, 1) := by decide +kernel
theorem dX12_finishes_3 : decode cX12_finishes 3 = .ok (.istore_n 2, 1) := by decide +kernel
theorem dX12_finishes_4 : decode cX12_finishes 4 = .ok (.iload_n 2, 1) := by decide +kernel
theorem dX12_finishes_5 : decode cX12_finishes 5 = .ok (.aload_n 0, 1) := by decide +kernel
theorem dX12_finishes_6 : decode cX12_finishes 6 = .ok (.getfield 274, 3) := by decide +kernel
theorem dX12_finishes_9 : decode cX12_finishes 9 = .ok (.if_icmp .ge 54, 3) := by decide +kernel
theorem dX12_finishes_12 : decode cX12_finishes 12 = .ok (.aload_n 0, 1) := by decide +kernel
theorem dX12_finishes_13 : decode cX12_finishes 13 = .ok (.aload_n 0, 1) := by decide +kernel
theorem dX12_finishes_14 : decode cX12_finishes 14 = .ok (.getfield 140, 3) := by decide +kernel
theorem dX12_finishes_17 : decode cX12_finishes 17 = .ok (.iload_n 2, 1) := by decide +kernel
theorem dX12_finishes_18 : decode cX12_finishes 18 = .ok (.baload, 1) := by decide +kernel
theorem dX12_finishes_19 : decode cX12_finishes 19 = .ok (.ifCond .eq 12, 3) := by decide +kernel
theorem dX12_finishes_22 : decode cX12_finishes 22 = .ok (.aload_n 0, 1) := by decide +kernel
theorem dX12_finishes_23 : decode cX12_finishes 23 = .ok (.getfield 137, 3) := by decide +kernel
theorem dX12_finishes_26 : decode cX12_finishes 26 = .ok (.iload_n 2, 1) := by decide +kernel
theorem dX12_finishes_27 : decode cX12_finishes 27 = .ok (.iaload, 1) := by decide +kernel
theorem dX12_finishes_28 : decode cX12_finishes 28 = .ok (.goto 7, 3) := by decide +kernel
theorem dX12_finishes_31 : decode cX12_finishes 31 = .ok (.aload_n 0, 1) := by decide +kernel
theorem dX12_finishes_32 : decode cX12_finishes 32 = .ok (.getfield 240, 3) := by decide +kernel
theorem dX12_finishes_35 : decode cX12_finishes 35 = .ok (.putfield 240, 3) := by decide +kernel
theorem dX12_finishes_38 : decode cX12_finishes 38 = .ok (.iload_n 1, 1) := by decide +kernel
theorem dX12_finishes_39 : decode cX12_finishes 39 = .ok (.ifCond .ne 12, 3) := by decide +kernel
theorem dX12_finishes_42 : decode cX12_finishes 42 = .ok (.aload_n 0, 1) := by decide +kernel
theorem dX12_finishes_43 : decode cX12_finishes 43 = .ok (.getfield 134, 3) := by decide +kernel
theorem dX12_finishes_46 : decode cX12_finishes 46 = .ok (.iload_n 2, 1) := by decide +kernel
theorem dX12_finishes_47 : decode cX12_finishes 47 = .ok (.baload, 1) := by decide +kernel
theorem dX12_finishes_48 : decode cX12_finishes 48 = .ok (.ifCond .eq 7, 3) := by decide +kernel
theorem dX12_finishes_51 : decode cX12_finishes 51 = .ok (.iconst 1, 1) := by decide +kernel
theorem dX12_finishes_52 : decode cX12_finishes 52 = .ok (.goto 4, 3) := by decide +kernel
theorem dX12_finishes_55 : decode cX12_finishes 55 = .ok (.iconst 0, 1) := by decide +kernel
theorem dX12_finishes_56 : decode cX12_finishes 56 = .ok (.istore_n 1, 1) := by decide +kernel
theorem dX12_finishes_57 : decode cX12_finishes 57 = .ok (.iinc 2 1, 3) := by decide +kernel
theorem dX12_finishes_60 : decode cX12_finishes 60 = .ok (.goto (-56), 3) := by decide +kernel
theorem dX12_finishes_63 : decode cX12_finishes 63 = .ok (.aload_n 0, 1) := by decide +kernel
theorem dX12_finishes_64 : decode cX12_finishes 64 = .ok (.iconst 0, 1) := by decide +kernel
theorem dX12_finishes_65 : decode cX12_finishes 65 = .ok (.putfield 274, 3) := by decide +kernel
theorem dX12_finishes_68 : decode cX12_finishes 68 = .ok (.aload_n 0, 1) := by decide +kernel
theorem dX12_finishes_69 : decode cX12_finishes 69 = .ok (.aload_n 0, 1) := by decide +kernel
theorem dX12_finishes_70 : decode cX12_finishes 70 = .ok (.getfield 320, 3) := by decide +kernel
theorem dX12_finishes_73 : decode cX12_finishes 73 = .ok (.putfield 237, 3) := by decide +kernel
theorem dX12_finishes_76 : decode cX12_finishes 76 = .ok (.iload_n 1, 1) := by decide +kernel
theorem dX12_finishes_77 : decode cX12_finishes 77 = .ok (.ifCond .eq 8, 3) := by decide +kernel
theorem dX12_finishes_80 : decode cX12_finishes 80 = .ok (.aload_n 0, 1) := by decide +kernel
theorem dX12_finishes_81 : decode cX12_finishes 81 = .ok (.iconst 1, 1) := by decide +kernel
theorem dX12_finishes_82 : decode cX12_finishes 82 = .ok (.invokevirtual 304, 3) := by decide +kernel
theorem dX12_finishes_85 : decode cX12_finishes 85 = .ok (.return_, 1) := by decide +kernel
theorem e_X12_finishes_63 (d : Nat) {l0 l1 : Int} {m : Mem} {v : Int} {m' : Mem} (h : X12_finishes_63 l0 l1 m = some (v, m')) : Ex (d + 4) fm_X12_finishes 63 [(22, l0), (0, l1), (3, 0)] [] m (.inl (3, 0)) m' := by
  unfold X12_finishes_63 at h
  refine x_aload_n dX12_finishes_63 rfl rfl (Or.inr (by decide)) (?_ : Ex _ _ 64 _ _ _ _ _)
  refine x_iconst dX12_finishes_64 rfl (by decide) (?_ : Ex _ _ 65 _ _ _ _ _)
  obtain ⟨c1, h⟩ := chk_some h
  obtain ⟨m2, hm2, h⟩ := st_some h
  refine pt_12_55  c1 fl_RX12_274 dX12_finishes_65 (?_ : Ex _ _ 68 _ _ _ _ _)
  rw [← hm2]
  refine x_aload_n dX12_finishes_68 rfl rfl (Or.inr (by decide)) (?_ : Ex _ _ 69 _ _ _ _ _)
  refine x_aload_n dX12_finishes_69 rfl rfl (Or.inr (by decide)) (?_ : Ex _ _ 70 _ _ _ _ _)
  refine gt_12_64 c1 fl_RX12_320 dX12_finishes_70 (?_ : Ex _ _ 73 _ _ _ _ _)
  obtain ⟨m3, hm3, h⟩ := st_some h
  refine pt_12_40  c1 fl_RX12_237 dX12_finishes_73 (?_ : Ex _ _ 76 _ _ _ _ _)
  rw [← hm3]
  refine x_iload_n dX12_finishes_76 rfl rfl (?_ : Ex _ _ 77 _ _ _ _ _)
  rcases ite_some h with ⟨b4, h⟩ | ⟨b4, h⟩
  · refine x_if_eq (tgt := 85) dX12_finishes_77 rfl b4 (?_ : Ex _ _ 85 _ _ _ _ _)
    cases h
    exact x_retv dX12_finishes_85
  · refine x_if_eqN dX12_finishes_77 (by decide) b4 (?_ : Ex _ _ 80 _ _ _ _ _)
    refine x_aload_n dX12_finishes_80 rfl rfl (Or.inr (by decide)) (?_ : Ex _ _ 81 _ _ _ _ _)
    refine x_iconst dX12_finishes_81 rfl (by decide) (?_ : Ex _ _ 82 _ _ _ _ _)
    obtain ⟨v5, m6, g7, h⟩ := cal_some h
    refine cV1 (e_X12_fails d g7) (contV (?_ : Ex _ _ 85 _ _ _ _ _)) og_X12_fails rfl ml_RX12_304 12 rfl rfl c1 im_X12_fails se_X12_fails (Nat.le_of_ble_eq_true rfl) dX12_finishes_82
    cases h
    exact x_retv dX12_finishes_85
theorem e_X12_finishes_35 (d : Nat) {k4 : Int → Int → Int → Mem → Option R2} (hk4 : ∀ {l0 l1 l2 : Int} {m : Mem} {v : Int} {m' : Mem}, k4 l0 l1 l2 m = some (v, m') → Ex (d + 4) fm_X12_finishes 4 [(22, l0), (0, l1), (0, l2)] [] m (.inl (3, 0)) m') {l0 l1 l2 s0 s1 : Int} {m : Mem} {v : Int} {m' : Mem} (h : X12_finishes_35 k4 l0 l1 l2 s0 s1 m = some (v, m')) : Ex (d + 4) fm_X12_finishes 35 [(22, l0), (0, l1), (0, l2)] [(0, s0), (22, s1)] m (.inl (3, 0)) m' := by
  unfold X12_finishes_35 at h
  obtain ⟨c1, h⟩ := chk_some h
  obtain ⟨m2, hm2, h⟩ := st_some h
  refine pt_12_41  c1 fl_RX12_240 dX12_finishes_35 (?_ : Ex _ _ 38 _ _ _ _ _)
  rw [← hm2]
  refine x_iload_n dX12_finishes_38 rfl rfl (?_ : Ex _ _ 39 _ _ _ _ _)
  rcases ite_some h with ⟨b3, h⟩ | ⟨b3, h⟩
  · refine x_if_neN dX12_finishes_39 (by decide) (fun hh => hh b3) (?_ : Ex _ _ 42 _ _ _ _ _)
    refine x_aload_n dX12_finishes_42 rfl rfl (Or.inr (by decide)) (?_ : Ex _ _ 43 _ _ _ _ _)
    obtain ⟨c5, h⟩ := chk_some h
    refine gt_12_61 c5 fl_RX12_134 dX12_finishes_43 (?_ : Ex _ _ 46 _ _ _ _ _)
    refine x_iload_n dX12_finishes_46 rfl rfl (?_ : Ex _ _ 47 _ _ _ _ _)
    obtain ⟨⟨c6, c7, c8⟩, h⟩ := chk_some h
    refine ld_b_3 c6 c7 c8 dX12_finishes_47 (?_ : Ex _ _ 48 _ _ _ _ _)
    rcases ite_some h with ⟨b9, h⟩ | ⟨b9, h⟩
    · refine x_if_eq (tgt := 55) dX12_finishes_48 rfl b9 (?_ : Ex _ _ 55 _ _ _ _ _)
      refine x_iconst dX12_finishes_55 rfl (by decide) (?_ : Ex _ _ 56 _ _ _ _ _)
      refine x_istore_n (ls2 := [(22, l0), (0, 0), (0, l2)]) dX12_finishes_56 rfl (Nat.le_of_ble_eq_true rfl) rfl (?_ : Ex _ _ 57 _ _ _ _ _)
      obtain ⟨c10, h⟩ := chk_some h
      refine x_iinc (ls2 := [(22, l0), (0, 0), (0, (l2 + 1))]) dX12_finishes_57 rfl c10 rfl (?_ : Ex _ _ 60 _ _ _ _ _)
      refine x_goto (tgt := 4) dX12_finishes_60 rfl (?_ : Ex _ _ 4 _ _ _ _ _)
      exact hk4 h
    · refine x_if_eqN dX12_finishes_48 (by decide) b9 (?_ : Ex _ _ 51 _ _ _ _ _)
      refine x_iconst dX12_finishes_51 rfl (by decide) (?_ : Ex _ _ 52 _ _ _ _ _)
      refine x_goto (tgt := 56) dX12_finishes_52 rfl (?_ : Ex _ _ 56 _ _ _ _ _)
      refine x_istore_n (ls2 := [(22, l0), (0, 1), (0, l2)]) dX12_finishes_56 rfl (Nat.le_of_ble_eq_true rfl) rfl (?_ : Ex _ _ 57 _ _ _ _ _)
      obtain ⟨c11, h⟩ := chk_some h
      refine x_iinc (ls2 := [(22, l0), (0, 1), (0, (l2 + 1))]) dX12_finishes_57 rfl c11 rfl (?_ : Ex _ _ 60 _ _ _ _ _)
      refine x_goto (tgt := 4) dX12_finishes_60 rfl (?_ : Ex _ _ 4 _ _ _ _ _)
      exact hk4 h
  · refine x_if_ne (tgt := 51) dX12_finishes_39 rfl b3 (?_ : Ex _ _ 51 _ _ _ _ _)
    refine x_iconst dX12_finishes_51 rfl (by decide) (?_ : Ex _ _ 52 _ _ _ _ _)
    refine x_goto (tgt := 56) dX12_finishes_52 rfl (?_ : Ex _ _ 56 _ _ _ _ _)
    refine x_istore_n (ls2 := [(22, l0), (0, 1), (0, l2)]) dX12_finishes_56 rfl (Nat.le_of_ble_eq_true rfl) rfl (?_ : Ex _ _ 57 _ _ _ _ _)
    obtain ⟨c4, h⟩ := chk_some h
    refine x_iinc (ls2 := [(22, l0), (0, 1), (0, (l2 + 1))]) dX12_finishes_57 rfl c4 rfl (?_ : Ex _ _ 60 _ _ _ _ _)
    refine x_goto (tgt := 4) dX12_finishes_60 rfl (?_ : Ex _ _ 4 _ _ _ _ _)
    exact hk4 h
theorem e_X12_finishes_4 (d : Nat) {k63 : Int → Int → Mem → Option R2} (hk63 : ∀ {l0 l1 : Int} {m : Mem} {v : Int} {m' : Mem}, k63 l0 l1 m = some (v, m') → Ex (d + 4) fm_X12_finishes 63 [(22, l0), (0, l1), (3, 0)] [] m (.inl (3, 0)) m') : ∀ (n : Nat) {l0 l1 l2 : Int} {m : Mem} {v : Int} {m' : Mem}, X12_finishes_4 k63 n l0 l1 l2 m = some (v, m') → Ex (d + 4) fm_X12_finishes 4 [(22, l0), (0, l1), (0, l2)] [] m (.inl (3, 0)) m' := by
  intro n
  induction n with
  | zero =>
    intro l0 l1 l2 m v m' h
    have h : (none : Option R2) = some _ := h
    cases h
  | succ n ih =>
    intro l0 l1 l2 m v m' h
    rw [X12_finishes_4] at h
    refine x_iload_n dX12_finishes_4 rfl rfl (?_ : Ex _ _ 5 _ _ _ _ _)
    refine x_aload_n dX12_finishes_5 rfl rfl (Or.inr (by decide)) (?_ : Ex _ _ 6 _ _ _ _ _)
    obtain ⟨c1, h⟩ := chk_some h
    refine gt_12_55 c1 fl_RX12_274 dX12_finishes_6 (?_ : Ex _ _ 9 _ _ _ _ _)
    rcases ite_some h with ⟨b2, h⟩ | ⟨b2, h⟩
    · refine x_icmp_ge (tgt := 63) dX12_finishes_9 rfl b2 (?_ : Ex _ _ 63 _ _ _ _ _)
      refine Ex.wk (ls2 := [(22, l0), (0, l1), (3, 0)]) ⟨Or.inr rfl, Or.inr rfl, Or.inl rfl, trivial⟩ ?_
      exact hk63 h
    · refine x_icmp_geN dX12_finishes_9 (by decide) b2 (?_ : Ex _ _ 12 _ _ _ _ _)
      refine x_aload_n dX12_finishes_12 rfl rfl (Or.inr (by decide)) (?_ : Ex _ _ 13 _ _ _ _ _)
      refine x_aload_n dX12_finishes_13 rfl rfl (Or.inr (by decide)) (?_ : Ex _ _ 14 _ _ _ _ _)
      refine gt_12_63 c1 fl_RX12_140 dX12_finishes_14 (?_ : Ex _ _ 17 _ _ _ _ _)
      refine x_iload_n dX12_finishes_17 rfl rfl (?_ : Ex _ _ 18 _ _ _ _ _)
      obtain ⟨⟨c3, c4, c5⟩, h⟩ := chk_some h
      refine ld_b_3 c3 c4 c5 dX12_finishes_18 (?_ : Ex _ _ 19 _ _ _ _ _)
      rcases ite_some h with ⟨b6, h⟩ | ⟨b6, h⟩
      · refine x_if_eq (tgt := 31) dX12_finishes_19 rfl b6 (?_ : Ex _ _ 31 _ _ _ _ _)
        refine x_aload_n dX12_finishes_31 rfl rfl (Or.inr (by decide)) (?_ : Ex _ _ 32 _ _ _ _ _)
        refine gt_12_41 c1 fl_RX12_240 dX12_finishes_32 (?_ : Ex _ _ 35 _ _ _ _ _)
        exact e_X12_finishes_35 d ih h
      · refine x_if_eqN dX12_finishes_19 (by decide) b6 (?_ : Ex _ _ 22 _ _ _ _ _)
        refine x_aload_n dX12_finishes_22 rfl rfl (Or.inr (by decide)) (?_ : Ex _ _ 23 _ _ _ _ _)
        refine gt_12_62 c1 fl_RX12_137 dX12_finishes_23 (?_ : Ex _ _ 26 _ _ _ _ _)
        refine x_iload_n dX12_finishes_26 rfl rfl (?_ : Ex _ _ 27 _ _ _ _ _)
        obtain ⟨⟨c7, c8, c9⟩, h⟩ := chk_some h
        refine ld_i_3 c7 c8 c9 dX12_finishes_27 (?_ : Ex _ _ 28 _ _ _ _ _)
        refine x_goto (tgt := 35) dX12_finishes_28 rfl (?_ : Ex _ _ 35 _ _ _ _ _)
        exact e_X12_finishes_35 d ih h
theorem e_X12_finishes_0 (d : Nat) {l0 : Int} {m : Mem} {v : Int} {m' : Mem} (h : X12_finishes_0 l0 m = some (v, m')) : Ex (d + 4) fm_X12_finishes 0 [(22, l0), (3, 0), (3, 0)] [] m (.inl (3, 0)) m' := by
  unfold X12_finishes_0 at h
  refine x_iconst dX12_finishes_0 rfl (by decide) (?_ : Ex _ _ 1 _ _ _ _ _)
  refine x_istore_n (ls2 := [(22, l0), (0, 0), (3, 0)]) dX12_finishes_1 rfl (Nat.le_of_ble_eq_true rfl) rfl (?_ : Ex _ _ 2 _ _ _ _ _)
  refine x_iconst dX12_finishes_2 rfl (by decide) (?_ : Ex _ _ 3 _ _ _ _ _)
  refine x_istore_n (ls2 := [(22, l0), (0, 0), (0, 0)]) dX12_finishes_3 rfl (Nat.le_of_ble_eq_true rfl) rfl (?_ : Ex _ _ 4 _ _ _ _ _)
  exact e_X12_finishes_4 d (fun h => e_X12_finishes_63 d h) fuel9 h
theorem e_X12_finishes (d : Nat) {a0 : Int} {m : Mem} {v : Int} {m' : Mem} (h : X12_finishes a0 m = some (v, m')) : ExM (d + 4) fm_X12_finishes [(22, a0)] m (.inl (3, 0)) m' := by
  exact ExM.of (by decide +kernel) (Nat.le_of_ble_eq_true rfl) (cat9 rfl) retV (e_X12_finishes_0 d h)
theorem dX12_waitsAt_0 : decode cX12_waitsAt 0 = .ok (.aload_n 0, 1) := by decide +kernel
theorem dX12_waitsAt_1 : decode cX12_waitsAt 1 = .ok (.getfield 7, 3) := by decide +kernel
theorem dX12_waitsAt_4 : decode cX12_waitsAt 4 = .ok (.aload_n 0, 1) := by decide +kernel
theorem dX12_waitsAt_5 : decode cX12_waitsAt 5 = .ok (.iload_n 1, 1) := by decide +kernel
theorem dX12_waitsAt_6 : decode cX12_waitsAt 6 = .ok (.invokevirtual 308, 3) := by decide +kernel
theorem dX12_waitsAt_9 : decode cX12_waitsAt 9 = .ok (.iaload, 1) := by decide +kernel
theorem dX12_waitsAt_10 : decode cX12_waitsAt 10 = .ok (.iconst 4, 1) := by decide +kernel
theorem dX12_waitsAt_11 : decode cX12_waitsAt 11 = .ok (.if_icmp .ne 16, 3) := by decide +kernel
theorem dX12_waitsAt_14 : decode cX12_waitsAt 14 = .ok (.aload_n 0, 1) := by decide +kernel
theorem dX12_waitsAt_15 : decode cX12_waitsAt 15 = .ok (.getfield 13, 3) := by decide +kernel
theorem dX12_waitsAt_18 : decode cX12_waitsAt 18 = .ok (.aload_n 0, 1) := by decide +kernel
theorem dX12_waitsAt_19 : decode cX12_waitsAt 19 = .ok (.iload_n 1, 1) := by decide +kernel
theorem dX12_waitsAt_20 : decode cX12_waitsAt 20 = .ok (.invokevirtual 308, 3) := by decide +kernel
theorem dX12_waitsAt_23 : decode cX12_waitsAt 23 = .ok (.iaload, 1) := by decide +kernel
theorem dX12_waitsAt_24 : decode cX12_waitsAt 24 = .ok (.goto 4, 3) := by decide +kernel
theorem dX12_waitsAt_27 : decode cX12_waitsAt 27 = .ok (.iconst 0, 1) := by decide +kernel
theorem dX12_waitsAt_28 : decode cX12_waitsAt 28 = .ok (.istore_n 2, 1) := by decide +kernel
theorem dX12_waitsAt_29 : decode cX12_waitsAt 29 = .ok (.aload_n 0, 1) := by decide +kernel
theorem dX12_waitsAt_30 : decode cX12_waitsAt 30 = .ok (.iconst 0, 1) := by decide +kernel
theorem dX12_waitsAt_31 : decode cX12_waitsAt 31 = .ok (.putfield 274, 3) := by decide +kernel
theorem dX12_waitsAt_34 : decode cX12_waitsAt 34 = .ok (.iload_n 2, 1) := by decide +kernel
theorem dX12_waitsAt_35 : decode cX12_waitsAt 35 = .ok (.ifCond .le 7, 3) := by decide +kernel
theorem dX12_waitsAt_38 : decode cX12_waitsAt 38 = .ok (.iconst 1, 1) := by decide +kernel
theorem dX12_waitsAt_39 : decode cX12_waitsAt 39 = .ok (.goto 4, 3) := by decide +kernel
theorem dX12_waitsAt_42 : decode cX12_waitsAt 42 = .ok (.iconst 0, 1) := by decide +kernel
theorem dX12_waitsAt_43 : decode cX12_waitsAt 43 = .ok (.istore_n 3, 1) := by decide +kernel
theorem dX12_waitsAt_44 : decode cX12_waitsAt 44 = .ok (.iload_n 3, 1) := by decide +kernel
theorem dX12_waitsAt_45 : decode cX12_waitsAt 45 = .ok (.iload_n 2, 1) := by decide +kernel
theorem dX12_waitsAt_46 : decode cX12_waitsAt 46 = .ok (.if_icmp .gt 16, 3) := by decide +kernel
theorem dX12_waitsAt_49 : decode cX12_waitsAt 49 = .ok (.aload_n 0, 1) := by decide +kernel
theorem dX12_waitsAt_50 : decode cX12_waitsAt 50 = .ok (.iload_n 1, 1) := by decide +kernel
theorem dX12_waitsAt_51 : decode cX12_waitsAt 51 = .ok (.iload_n 3, 1) := by decide +kernel
theorem dX12_waitsAt_52 : decode cX12_waitsAt 52 = .ok (.iadd, 1) := by decide +kernel
theorem dX12_waitsAt_53 : decode cX12_waitsAt 53 = .ok (.invokevirtual 323, 3) := by decide +kernel
theorem dX12_waitsAt_56 : decode cX12_waitsAt 56 = .ok (.iinc 3 1, 3) := by decide +kernel
theorem dX12_waitsAt_59 : decode cX12_waitsAt 59 = .ok (.goto (-15), 3) := by decide +kernel
theorem dX12_waitsAt_62 : decode cX12_waitsAt 62 = .ok (.aload_n 0, 1) := by decide +kernel
theorem dX12_waitsAt_63 : decode cX12_waitsAt 63 = .ok (.iload_n 1, 1) := by decide +kernel
theorem dX12_waitsAt_64 : decode cX12_waitsAt 64 = .ok (.iload_n 2, 1) := by decide +kernel
theorem dX12_waitsAt_65 : decode cX12_waitsAt 65 = .ok (.iadd, 1) := by decide +kernel
theorem dX12_waitsAt_66 : decode cX12_waitsAt 66 = .ok (.iconst 1, 1) := by decide +kernel
theorem dX12_waitsAt_67 : decode cX12_waitsAt 67 = .ok (.iadd, 1) := by decide +kernel
theorem dX12_waitsAt_68 : decode cX12_waitsAt 68 = .ok (.putfield 320, 3) := by decide +kernel
theorem dX12_waitsAt_71 : decode cX12_waitsAt 71 = .ok (.aload_n 0, 1) := by decide +kernel
theorem dX12_waitsAt_72 : decode cX12_waitsAt 72 = .ok (.invokevirtual 326, 3) := by decide +kernel
theorem dX12_waitsAt_75 : decode cX12_waitsAt 75 = .ok (.ifCond .eq 7, 3) := by decide +kernel
theorem dX12_waitsAt_78 : decode cX12_waitsAt 78 = .ok (.aload_n 0, 1) := by decide +kernel
theorem dX12_waitsAt_79 : decode cX12_waitsAt 79 = .ok (.invokevirtual 330, 3) := by decide +kernel
theorem dX12_waitsAt_82 : decode cX12_waitsAt 82 = .ok (.return_, 1) := by decide +kernel
theorem e_X12_waitsAt_62 (d : Nat) {l0 l1 l2 : Int} {m : Mem} {v : Int} {m' : Mem} (h : X12_waitsAt_62 l0 l1 l2 m = some (v, m')) : Ex (d + 5) fm_X12_waitsAt 62 [(22, l0), (0, l1), (0, l2), (3, 0)] [] m (.inl (3, 0)) m' := by
  unfold X12_waitsAt_62 at h
  refine x_aload_n dX12_waitsAt_62 rfl rfl (Or.inr (by decide)) (?_ : Ex _ _ 63 _ _ _ _ _)
  refine x_iload_n dX12_waitsAt_63 rfl rfl (?_ : Ex _ _ 64 _ _ _ _ _)
  refine x_iload_n dX12_waitsAt_64 rfl rfl (?_ : Ex _ _ 65 _ _ _ _ _)
  obtain ⟨c1, h⟩ := chk_some h
  refine x_iadd dX12_waitsAt_65 c1 (?_ : Ex _ _ 66 _ _ _ _ _)
  refine x_iconst dX12_waitsAt_66 rfl (by decide) (?_ : Ex _ _ 67 _ _ _ _ _)
  obtain ⟨c2, h⟩ := chk_some h
  refine x_iadd dX12_waitsAt_67 c2 (?_ : Ex _ _ 68 _ _ _ _ _)
  obtain ⟨c3, h⟩ := chk_some h
  obtain ⟨m4, hm4, h⟩ := st_some h
  refine pt_12_64  c3 fl_RX12_320 dX12_waitsAt_68 (?_ : Ex _ _ 71 _ _ _ _ _)
  rw [← hm4]
  refine x_aload_n dX12_waitsAt_71 rfl rfl (Or.inr (by decide)) (?_ : Ex _ _ 72 _ _ _ _ _)
  obtain ⟨v5, m6, g7, h⟩ := cal_some h
  refine cV0 (e_X12_areDone (d + 4) g7) (contN (by decide) (?_ : Ex _ _ 75 _ _ _ _ _)) og_X12_areDone rfl ml_RX12_326 12 rfl rfl c3 im_X12_areDone se_X12_areDone (Nat.le_of_ble_eq_true rfl) dX12_waitsAt_72
  rcases ite_some h with ⟨b8, h⟩ | ⟨b8, h⟩
  · refine x_if_eq (tgt := 82) dX12_waitsAt_75 rfl b8 (?_ : Ex _ _ 82 _ _ _ _ _)
    cases h
    exact x_retv dX12_waitsAt_82
  · refine x_if_eqN dX12_waitsAt_75 (by decide) b8 (?_ : Ex _ _ 78 _ _ _ _ _)
    refine x_aload_n dX12_waitsAt_78 rfl rfl (Or.inr (by decide)) (?_ : Ex _ _ 79 _ _ _ _ _)
    obtain ⟨v9, m10, g11, h⟩ := cal_some h
    refine cV0 (e_X12_finishes d g11) (contV (?_ : Ex _ _ 82 _ _ _ _ _)) og_X12_finishes rfl ml_RX12_330 12 rfl rfl c3 im_X12_finishes se_X12_finishes (Nat.le_of_ble_eq_true rfl) dX12_waitsAt_79
    cases h
    exact x_retv dX12_waitsAt_82
theorem e_X12_waitsAt_44 (d : Nat) {k62 : Int → Int → Int → Mem → Option R2} (hk62 : ∀ {l0 l1 l2 : Int} {m : Mem} {v : Int} {m' : Mem}, k62 l0 l1 l2 m = some (v, m') → Ex (d + 5) fm_X12_waitsAt 62 [(22, l0), (0, l1), (0, l2), (3, 0)] [] m (.inl (3, 0)) m') : ∀ (n : Nat) {l0 l1 l2 l3 : Int} {m : Mem} {v : Int} {m' : Mem}, X12_waitsAt_44 k62 n l0 l1 l2 l3 m = some (v, m') → Ex (d + 5) fm_X12_waitsAt 44 [(22, l0), (0, l1), (0, l2), (0, l3)] [] m (.inl (3, 0)) m' := by
  intro n
  induction n with
  | zero =>
    intro l0 l1 l2 l3 m v m' h
    have h : (none : Option R2) = some _ := h
    cases h
  | succ n ih =>
    intro l0 l1 l2 l3 m v m' h
    rw [X12_waitsAt_44] at h
    refine x_iload_n dX12_waitsAt_44 rfl rfl (?_ : Ex _ _ 45 _ _ _ _ _)
    refine x_iload_n dX12_waitsAt_45 rfl rfl (?_ : Ex _ _ 46 _ _ _ _ _)
    rcases ite_some h with ⟨b1, h⟩ | ⟨b1, h⟩
    · refine x_icmp_gt (tgt := 62) dX12_waitsAt_46 rfl b1 (?_ : Ex _ _ 62 _ _ _ _ _)
      refine Ex.wk (ls2 := [(22, l0), (0, l1), (0, l2), (3, 0)]) ⟨Or.inr rfl, Or.inr rfl, Or.inr rfl, Or.inl rfl, trivial⟩ ?_
      exact hk62 h
    · refine x_icmp_gtN dX12_waitsAt_46 (by decide) b1 (?_ : Ex _ _ 49 _ _ _ _ _)
      refine x_aload_n dX12_waitsAt_49 rfl rfl (Or.inr (by decide)) (?_ : Ex _ _ 50 _ _ _ _ _)
      refine x_iload_n dX12_waitsAt_50 rfl rfl (?_ : Ex _ _ 51 _ _ _ _ _)
      refine x_iload_n dX12_waitsAt_51 rfl rfl (?_ : Ex _ _ 52 _ _ _ _ _)
      obtain ⟨c2, h⟩ := chk_some h
      refine x_iadd dX12_waitsAt_52 c2 (?_ : Ex _ _ 53 _ _ _ _ _)
      obtain ⟨c3, h⟩ := chk_some h
      obtain ⟨v4, m5, g6, h⟩ := cal_some h
      refine cV1 (e_X12_waitsFor (d + 2) g6) (contV (?_ : Ex _ _ 56 _ _ _ _ _)) og_X12_waitsFor rfl ml_RX12_323 12 rfl rfl c3 im_X12_waitsFor se_X12_waitsFor (Nat.le_of_ble_eq_true rfl) dX12_waitsAt_53
      obtain ⟨c7, h⟩ := chk_some h
      refine x_iinc (ls2 := [(22, l0), (0, l1), (0, l2), (0, (l3 + 1))]) dX12_waitsAt_56 rfl c7 rfl (?_ : Ex _ _ 59 _ _ _ _ _)
      refine x_goto (tgt := 44) dX12_waitsAt_59 rfl (?_ : Ex _ _ 44 _ _ _ _ _)
      exact ih h
theorem e_X12_waitsAt_28 (d : Nat) {l0 l1 s0 : Int} {m : Mem} {v : Int} {m' : Mem} (h : X12_waitsAt_28 l0 l1 s0 m = some (v, m')) : Ex (d + 5) fm_X12_waitsAt 28 [(22, l0), (0, l1), (3, 0), (3, 0)] [(0, s0)] m (.inl (3, 0)) m' := by
  unfold X12_waitsAt_28 at h
  refine x_istore_n (ls2 := [(22, l0), (0, l1), (0, s0), (3, 0)]) dX12_waitsAt_28 rfl (Nat.le_of_ble_eq_true rfl) rfl (?_ : Ex _ _ 29 _ _ _ _ _)
  refine x_aload_n dX12_waitsAt_29 rfl rfl (Or.inr (by decide)) (?_ : Ex _ _ 30 _ _ _ _ _)
  refine x_iconst dX12_waitsAt_30 rfl (by decide) (?_ : Ex _ _ 31 _ _ _ _ _)
  obtain ⟨c1, h⟩ := chk_some h
  obtain ⟨m2, hm2, h⟩ := st_some h
  refine pt_12_55  c1 fl_RX12_274 dX12_waitsAt_31 (?_ : Ex _ _ 34 _ _ _ _ _)
  rw [← hm2]
  refine x_iload_n dX12_waitsAt_34 rfl rfl (?_ : Ex _ _ 35 _ _ _ _ _)
  rcases ite_some h with ⟨b3, h⟩ | ⟨b3, h⟩
  · refine x_if_le (tgt := 42) dX12_waitsAt_35 rfl b3 (?_ : Ex _ _ 42 _ _ _ _ _)
    refine x_iconst dX12_waitsAt_42 rfl (by decide) (?_ : Ex _ _ 43 _ _ _ _ _)
    refine x_istore_n (ls2 := [(22, l0), (0, l1), (0, s0), (0, 0)]) dX12_waitsAt_43 rfl (Nat.le_of_ble_eq_true rfl) rfl (?_ : Ex _ _ 44 _ _ _ _ _)
    exact e_X12_waitsAt_44 d (fun h => e_X12_waitsAt_62 d h) fuel9 h
  · refine x_if_leN dX12_waitsAt_35 (by decide) b3 (?_ : Ex _ _ 38 _ _ _ _ _)
    refine x_iconst dX12_waitsAt_38 rfl (by decide) (?_ : Ex _ _ 39 _ _ _ _ _)
    refine x_goto (tgt := 43) dX12_waitsAt_39 rfl (?_ : Ex _ _ 43 _ _ _ _ _)
    refine x_istore_n (ls2 := [(22, l0), (0, l1), (0, s0), (0, 1)]) dX12_waitsAt_43 rfl (Nat.le_of_ble_eq_true rfl) rfl (?_ : Ex _ _ 44 _ _ _ _ _)
    exact e_X12_waitsAt_44 d (fun h => e_X12_waitsAt_62 d h) fuel9 h
theorem e_X12_waitsAt_0 (d : Nat) {l0 l1 : Int} {m : Mem} {v : Int} {m' : Mem} (h : X12_waitsAt_0 l0 l1 m = some (v, m')) : Ex (d + 5) fm_X12_waitsAt 0 [(22, l0), (0, l1), (3, 0), (3, 0)] [] m (.inl (3, 0)) m' := by
  unfold X12_waitsAt_0 at h
  refine x_aload_n dX12_waitsAt_0 rfl rfl (Or.inr (by decide)) (?_ : Ex _ _ 1 _ _ _ _ _)
  obtain ⟨c1, h⟩ := chk_some h
  refine gt_12_2 c1 fl_RX12_7 dX12_waitsAt_1 (?_ : Ex _ _ 4 _ _ _ _ _)
  refine x_aload_n dX12_waitsAt_4 rfl rfl (Or.inr (by decide)) (?_ : Ex _ _ 5 _ _ _ _ _)
  refine x_iload_n dX12_waitsAt_5 rfl rfl (?_ : Ex _ _ 6 _ _ _ _ _)
  obtain ⟨v2, m3, g4, h⟩ := cal_some h
  refine cV1 (e_X12_stepAt (d + 4) g4) (contN (by decide) (?_ : Ex _ _ 9 _ _ _ _ _)) og_X12_stepAt rfl ml_RX12_308 12 rfl rfl c1 im_X12_stepAt se_X12_stepAt (Nat.le_of_ble_eq_true rfl) dX12_waitsAt_6
  obtain ⟨⟨c5, c6, c7⟩, h⟩ := chk_some h
  refine ld_i_180 c5 c6 c7 dX12_waitsAt_9 (?_ : Ex _ _ 10 _ _ _ _ _)
  refine x_iconst dX12_waitsAt_10 rfl (by decide) (?_ : Ex _ _ 11 _ _ _ _ _)
  rcases ite_some h with ⟨b8, h⟩ | ⟨b8, h⟩
  · refine x_icmp_neN dX12_waitsAt_11 (by decide) (fun hh => hh b8) (?_ : Ex _ _ 14 _ _ _ _ _)
    refine x_aload_n dX12_waitsAt_14 rfl rfl (Or.inr (by decide)) (?_ : Ex _ _ 15 _ _ _ _ _)
    refine gt_12_3 c1 fl_RX12_13 dX12_waitsAt_15 (?_ : Ex _ _ 18 _ _ _ _ _)
    refine x_aload_n dX12_waitsAt_18 rfl rfl (Or.inr (by decide)) (?_ : Ex _ _ 19 _ _ _ _ _)
    refine x_iload_n dX12_waitsAt_19 rfl rfl (?_ : Ex _ _ 20 _ _ _ _ _)
    obtain ⟨v9, m10, g11, h⟩ := cal_some h
    refine cV1 (e_X12_stepAt (d + 4) g11) (contN (by decide) (?_ : Ex _ _ 23 _ _ _ _ _)) og_X12_stepAt rfl ml_RX12_308 12 rfl rfl c1 im_X12_stepAt se_X12_stepAt (Nat.le_of_ble_eq_true rfl) dX12_waitsAt_20
    obtain ⟨⟨c12, c13, c14⟩, h⟩ := chk_some h
    refine ld_i_180 c12 c13 c14 dX12_waitsAt_23 (?_ : Ex _ _ 24 _ _ _ _ _)
    refine x_goto (tgt := 28) dX12_waitsAt_24 rfl (?_ : Ex _ _ 28 _ _ _ _ _)
    exact e_X12_waitsAt_28 d h
  · refine x_icmp_ne (tgt := 27) dX12_waitsAt_11 rfl b8 (?_ : Ex _ _ 27 _ _ _ _ _)
    refine x_iconst dX12_waitsAt_27 rfl (by decide) (?_ : Ex _ _ 28 _ _ _ _ _)
    exact e_X12_waitsAt_28 d h
theorem e_X12_waitsAt (d : Nat) {a0 a1 : Int} {m : Mem} {v : Int} {m' : Mem} (h : X12_waitsAt a0 a1 m = some (v, m')) : ExM (d + 5) fm_X12_waitsAt [(22, a0), (0, a1)] m (.inl (3, 0)) m' := by
  exact ExM.of (by decide +kernel) (Nat.le_of_ble_eq_true rfl) (cat9 rfl) retV (e_X12_waitsAt_0 d h)
theorem dX12_isMarked_0 : decode cX12_isMarked 0 = .ok (.aload_n 0, 1) := by decide +kernel
theorem dX12_isMarked_1 : decode cX12_isMarked 1 = .ok (.getfield 262, 3) := by decide +kernel
theorem dX12_isMarked_4 : decode cX12_isMarked 4 = .ok (.iload_n 1, 1) := by decide +kernel
theorem dX12_isMarked_5 : decode cX12_isMarked 5 = .ok (.ishr, 1) := by decide +kernel
theorem dX12_isMarked_6 : decode cX12_isMarked 6 = .ok (.iconst 1, 1) := by decide +kernel
theorem dX12_isMarked_7 : decode cX12_isMarked 7 = .ok (.iand, 1) := by decide +kernel
theorem dX12_isMarked_8 : decode cX12_isMarked 8 = .ok (.iconst 1, 1) := by decide +kernel
theorem dX12_isMarked_9 : decode cX12_isMarked 9 = .ok (.if_icmp .ne 5, 3) := by decide +kernel
theorem dX12_isMarked_12 : decode cX12_isMarked 12 = .ok (.iconst 1, 1) := by decide +kernel
theorem dX12_isMarked_13 : decode cX12_isMarked 13 = .ok (.ireturn, 1) := by decide +kernel
theorem dX12_isMarked_14 : decode cX12_isMarked 14 = .ok (.aload_n 0, 1) := by decide +kernel
theorem dX12_isMarked_15 : decode cX12_isMarked 15 = .ok (.getfield 333, 3) := by decide +kernel
theorem dX12_isMarked_18 : decode cX12_isMarked 18 = .ok (.aload_n 0, 1) := by decide +kernel
theorem dX12_isMarked_19 : decode cX12_isMarked 19 = .ok (.getfield 283, 3) := by decide +kernel
theorem dX12_isMarked_22 : decode cX12_isMarked 22 = .ok (.iadd, 1) := by decide +kernel
theorem dX12_isMarked_23 : decode cX12_isMarked 23 = .ok (.istore_n 2, 1) := by decide +kernel
theorem dX12_isMarked_24 : decode cX12_isMarked 24 = .ok (.aload_n 0, 1) := by decide +kernel
theorem dX12_isMarked_25 : decode cX12_isMarked 25 = .ok (.getfield 336, 3) := by decide +kernel
theorem dX12_isMarked_28 : decode cX12_isMarked 28 = .ok (.ifCond .ne 32, 3) := by decide +kernel
theorem dX12_isMarked_31 : decode cX12_isMarked 31 = .ok (.iload_n 2, 1) := by decide +kernel
theorem dX12_isMarked_32 : decode cX12_isMarked 32 = .ok (.aload_n 0, 1) := by decide +kernel
theorem dX12_isMarked_33 : decode cX12_isMarked 33 = .ok (.getfield 339, 3) := by decide +kernel
theorem dX12_isMarked_36 : decode cX12_isMarked 36 = .ok (.if_icmp .ge 28, 3) := by decide +kernel
theorem dX12_isMarked_39 : decode cX12_isMarked 39 = .ok (.aload_n 0, 1) := by decide +kernel
theorem dX12_isMarked_40 : decode cX12_isMarked 40 = .ok (.getfield 58, 3) := by decide +kernel
theorem dX12_isMarked_43 : decode cX12_isMarked 43 = .ok (.iload_n 2, 1) := by decide +kernel
theorem dX12_isMarked_44 : decode cX12_isMarked 44 = .ok (.iaload, 1) := by decide +kernel
theorem dX12_isMarked_45 : decode cX12_isMarked 45 = .ok (.bipush 13, 2) := by decide +kernel
theorem dX12_isMarked_47 : decode cX12_isMarked 47 = .ok (.if_icmp .ne 17, 3) := by decide +kernel
theorem dX12_isMarked_50 : decode cX12_isMarked 50 = .ok (.aload_n 0, 1) := by decide +kernel
theorem dX12_isMarked_51 : decode cX12_isMarked 51 = .ok (.getfield 61, 3) := by decide +kernel
theorem dX12_isMarked_54 : decode cX12_isMarked 54 = .ok (.iload_n 2, 1) := by decide +kernel
theorem dX12_isMarked_55 : decode cX12_isMarked 55 = .ok (.iaload, 1) := by decide +kernel
theorem dX12_isMarked_56 : decode cX12_isMarked 56 = .ok (.iload_n 1, 1) := by decide +kernel
theorem dX12_isMarked_57 : decode cX12_isMarked 57 = .ok (.if_icmp .ne 7, 3) := by decide +kernel
theorem dX12_isMarked_60 : decode cX12_isMarked 60 = .ok (.iconst 1, 1) := by decide +kernel
theorem dX12_isMarked_61 : decode cX12_isMarked 61 = .ok (.goto 4, 3) := by decide +kernel
theorem dX12_isMarked_64 : decode cX12_isMarked 64 = .ok (.iconst 0, 1) := by decide +kernel
theorem dX12_isMarked_65 : decode cX12_isMarked 65 = .ok (.istore_n 3, 1) := by decide +kernel
theorem dX12_isMarked_66 : decode cX12_isMarked 66 = .ok (.iload_n 3, 1) := by decide +kernel
theorem dX12_isMarked_67 : decode cX12_isMarked 67 = .ok (.ifCond .eq 23, 3) := by decide +kernel
theorem dX12_isMarked_70 : decode cX12_isMarked 70 = .ok (.aload_n 0, 1) := by decide +kernel
theorem dX12_isMarked_71 : decode cX12_isMarked 71 = .ok (.dup, 1) := by decide +kernel
theorem dX12_isMarked_72 : decode cX12_isMarked 72 = .ok (.getfield 262, 3) := by decide +kernel
theorem dX12_isMarked_75 : decode cX12_isMarked 75 = .ok (.iconst 1, 1) := by decide +kernel
theorem dX12_isMarked_76 : decode cX12_isMarked 76 = .ok (.iload_n 1, 1) := by decide +kernel
theorem dX12_isMarked_77 : decode cX12_isMarked 77 = .ok (.ishl, 1) := by decide +kernel
theorem dX12_isMarked_78 : decode cX12_isMarked 78 = .ok (.ior, 1) := by decide +kernel
theorem dX12_isMarked_79 : decode cX12_isMarked 79 = .ok (.putfield 262, 3) := by decide +kernel
theorem dX12_isMarked_82 : decode cX12_isMarked 82 = .ok (.aload_n 0, 1) := by decide +kernel
theorem dX12_isMarked_83 : decode cX12_isMarked 83 = .ok (.bipush 13, 2) := by decide +kernel
theorem dX12_isMarked_85 : decode cX12_isMarked 85 = .ok (.iload_n 1, 1) := by decide +kernel
theorem dX12_isMarked_86 : decode cX12_isMarked 86 = .ok (.iconst 0, 1) := by decide +kernel
theorem dX12_isMarked_87 : decode cX12_isMarked 87 = .ok (.invokevirtual 292, 3) := by decide +kernel
theorem dX12_isMarked_90 : decode cX12_isMarked 90 = .ok (.iload_n 3, 1) := by decide +kernel
theorem dX12_isMarked_91 : decode cX12_isMarked 91 = .ok (.ireturn, 1) := by decide +kernel
theorem e_X12_isMarked_65 (d : Nat) {l0 l1 s0 : Int} {m : Mem} {v : Int} {m' : Mem} (h : X12_isMarked_65 l0 l1 s0 m = some (v, m')) : Ex (d + 1) fm_X12_isMarked 65 [(22, l0), (0, l1), (3, 0), (3, 0)] [(0, s0)] m (.inl (0, v)) m' := by
  unfold X12_isMarked_65 at h
  refine x_istore_n (ls2 := [(22, l0), (0, l1), (3, 0), (0, s0)]) dX12_isMarked_65 rfl (Nat.le_of_ble_eq_true rfl) rfl (?_ : Ex _ _ 66 _ _ _ _ _)
  refine x_iload_n dX12_isMarked_66 rfl rfl (?_ : Ex _ _ 67 _ _ _ _ _)
  rcases ite_some h with ⟨b1, h⟩ | ⟨b1, h⟩
  · refine x_if_eq (tgt := 90) dX12_isMarked_67 rfl b1 (?_ : Ex _ _ 90 _ _ _ _ _)
    refine x_iload_n dX12_isMarked_90 rfl rfl (?_ : Ex _ _ 91 _ _ _ _ _)
    cases h
    exact x_ret dX12_isMarked_91 (by decide : (0 : Int) ≠ 3)
  · refine x_if_eqN dX12_isMarked_67 (by decide) b1 (?_ : Ex _ _ 70 _ _ _ _ _)
    refine x_aload_n dX12_isMarked_70 rfl rfl (Or.inr (by decide)) (?_ : Ex _ _ 71 _ _ _ _ _)
    refine x_dup (by decide : (22 : Int) ≠ 2) dX12_isMarked_71 (?_ : Ex _ _ 72 _ _ _ _ _)
    obtain ⟨c2, h⟩ := chk_some h
    refine gt_12_48 c2 fl_RX12_262 dX12_isMarked_72 (?_ : Ex _ _ 75 _ _ _ _ _)
    refine x_iconst dX12_isMarked_75 rfl (by decide) (?_ : Ex _ _ 76 _ _ _ _ _)
    refine x_iload_n dX12_isMarked_76 rfl rfl (?_ : Ex _ _ 77 _ _ _ _ _)
    refine x_ishl dX12_isMarked_77 (?_ : Ex _ _ 78 _ _ _ _ _)
    refine x_ior dX12_isMarked_78 (?_ : Ex _ _ 79 _ _ _ _ _)
    obtain ⟨m3, hm3, h⟩ := st_some h
    refine pt_12_48  c2 fl_RX12_262 dX12_isMarked_79 (?_ : Ex _ _ 82 _ _ _ _ _)
    rw [← hm3]
    refine x_aload_n dX12_isMarked_82 rfl rfl (Or.inr (by decide)) (?_ : Ex _ _ 83 _ _ _ _ _)
    refine x_bipush dX12_isMarked_83 kb_13 (by decide) (?_ : Ex _ _ 85 _ _ _ _ _)
    refine x_iload_n dX12_isMarked_85 rfl rfl (?_ : Ex _ _ 86 _ _ _ _ _)
    refine x_iconst dX12_isMarked_86 rfl (by decide) (?_ : Ex _ _ 87 _ _ _ _ _)
    obtain ⟨v4, m5, g6, h⟩ := cal_some h
    refine cV3 (e_X12_decides d g6) (contV (?_ : Ex _ _ 90 _ _ _ _ _)) og_X12_decides rfl ml_RX12_292 12 rfl rfl c2 im_X12_decides se_X12_decides (Nat.le_of_ble_eq_true rfl) dX12_isMarked_87
    refine x_iload_n dX12_isMarked_90 rfl rfl (?_ : Ex _ _ 91 _ _ _ _ _)
    cases h
    exact x_ret dX12_isMarked_91 (by decide : (0 : Int) ≠ 3)
theorem e_X12_isMarked_0 (d : Nat) {l0 l1 : Int} {m : Mem} {v : Int} {m' : Mem} (h : X12_isMarked_0 l0 l1 m = some (v, m')) : Ex (d + 1) fm_X12_isMarked 0 [(22, l0), (0, l1), (3, 0), (3, 0)] [] m (.inl (0, v)) m' := by
  unfold X12_isMarked_0 at h
  refine x_aload_n dX12_isMarked_0 rfl rfl (Or.inr (by decide)) (?_ : Ex _ _ 1 _ _ _ _ _)
  obtain ⟨c1, h⟩ := chk_some h
  refine gt_12_48 c1 fl_RX12_262 dX12_isMarked_1 (?_ : Ex _ _ 4 _ _ _ _ _)
  refine x_iload_n dX12_isMarked_4 rfl rfl (?_ : Ex _ _ 5 _ _ _ _ _)
  refine x_ishr dX12_isMarked_5 (?_ : Ex _ _ 6 _ _ _ _ _)
  refine x_iconst dX12_isMarked_6 rfl (by decide) (?_ : Ex _ _ 7 _ _ _ _ _)
  refine x_iand dX12_isMarked_7 (?_ : Ex _ _ 8 _ _ _ _ _)
  refine x_iconst dX12_isMarked_8 rfl (by decide) (?_ : Ex _ _ 9 _ _ _ _ _)
  rcases ite_some h with ⟨b2, h⟩ | ⟨b2, h⟩
  · refine x_icmp_neN dX12_isMarked_9 (by decide) (fun hh => hh b2) (?_ : Ex _ _ 12 _ _ _ _ _)
    refine x_iconst dX12_isMarked_12 rfl (by decide) (?_ : Ex _ _ 13 _ _ _ _ _)
    cases h
    exact x_ret dX12_isMarked_13 (by decide : (0 : Int) ≠ 3)
  · refine x_icmp_ne (tgt := 14) dX12_isMarked_9 rfl b2 (?_ : Ex _ _ 14 _ _ _ _ _)
    refine x_aload_n dX12_isMarked_14 rfl rfl (Or.inr (by decide)) (?_ : Ex _ _ 15 _ _ _ _ _)
    refine gt_12_78 c1 fl_RX12_333 dX12_isMarked_15 (?_ : Ex _ _ 18 _ _ _ _ _)
    refine x_aload_n dX12_isMarked_18 rfl rfl (Or.inr (by decide)) (?_ : Ex _ _ 19 _ _ _ _ _)
    refine gt_12_76 c1 fl_RX12_283 dX12_isMarked_19 (?_ : Ex _ _ 22 _ _ _ _ _)
    obtain ⟨c3, h⟩ := chk_some h
    refine x_iadd dX12_isMarked_22 c3 (?_ : Ex _ _ 23 _ _ _ _ _)
    refine x_istore_n (ls2 := [(22, l0), (0, l1), (0, (m l0 78 + m l0 76)), (3, 0)]) dX12_isMarked_23 rfl (Nat.le_of_ble_eq_true rfl) rfl (?_ : Ex _ _ 24 _ _ _ _ _)
    refine x_aload_n dX12_isMarked_24 rfl rfl (Or.inr (by decide)) (?_ : Ex _ _ 25 _ _ _ _ _)
    refine gt_12_80 c1 fl_RX12_336 dX12_isMarked_25 (?_ : Ex _ _ 28 _ _ _ _ _)
    rcases ite_some h with ⟨b4, h⟩ | ⟨b4, h⟩
    · refine x_if_neN dX12_isMarked_28 (by decide) (fun hh => hh b4) (?_ : Ex _ _ 31 _ _ _ _ _)
      refine x_iload_n dX12_isMarked_31 rfl rfl (?_ : Ex _ _ 32 _ _ _ _ _)
      refine x_aload_n dX12_isMarked_32 rfl rfl (Or.inr (by decide)) (?_ : Ex _ _ 33 _ _ _ _ _)
      refine gt_12_79 c1 fl_RX12_339 dX12_isMarked_33 (?_ : Ex _ _ 36 _ _ _ _ _)
      rcases ite_some h with ⟨b5, h⟩ | ⟨b5, h⟩
      · refine x_icmp_ge (tgt := 64) dX12_isMarked_36 rfl b5 (?_ : Ex _ _ 64 _ _ _ _ _)
        refine x_iconst dX12_isMarked_64 rfl (by decide) (?_ : Ex _ _ 65 _ _ _ _ _)
        refine Ex.wk (ls2 := [(22, l0), (0, l1), (3, 0), (3, 0)]) ⟨Or.inr rfl, Or.inr rfl, Or.inl rfl, Or.inl rfl, trivial⟩ ?_
        exact e_X12_isMarked_65 d h
      · refine x_icmp_geN dX12_isMarked_36 (by decide) b5 (?_ : Ex _ _ 39 _ _ _ _ _)
        refine x_aload_n dX12_isMarked_39 rfl rfl (Or.inr (by decide)) (?_ : Ex _ _ 40 _ _ _ _ _)
        refine gt_12_19 c1 fl_RX12_58 dX12_isMarked_40 (?_ : Ex _ _ 43 _ _ _ _ _)
        refine x_iload_n dX12_isMarked_43 rfl rfl (?_ : Ex _ _ 44 _ _ _ _ _)
        obtain ⟨⟨c6, c7, c8⟩, h⟩ := chk_some h
        refine ld_i_7200 c6 c7 c8 dX12_isMarked_44 (?_ : Ex _ _ 45 _ _ _ _ _)
        refine x_bipush dX12_isMarked_45 kb_13 (by decide) (?_ : Ex _ _ 47 _ _ _ _ _)
        rcases ite_some h with ⟨b9, h⟩ | ⟨b9, h⟩
        · refine x_icmp_neN dX12_isMarked_47 (by decide) (fun hh => hh b9) (?_ : Ex _ _ 50 _ _ _ _ _)
          refine x_aload_n dX12_isMarked_50 rfl rfl (Or.inr (by decide)) (?_ : Ex _ _ 51 _ _ _ _ _)
          refine gt_12_20 c1 fl_RX12_61 dX12_isMarked_51 (?_ : Ex _ _ 54 _ _ _ _ _)
          refine x_iload_n dX12_isMarked_54 rfl rfl (?_ : Ex _ _ 55 _ _ _ _ _)
          obtain ⟨⟨c10, c11, c12⟩, h⟩ := chk_some h
          refine ld_i_7200 c10 c11 c12 dX12_isMarked_55 (?_ : Ex _ _ 56 _ _ _ _ _)
          refine x_iload_n dX12_isMarked_56 rfl rfl (?_ : Ex _ _ 57 _ _ _ _ _)
          rcases ite_some h with ⟨b13, h⟩ | ⟨b13, h⟩
          · refine x_icmp_neN dX12_isMarked_57 (by decide) (fun hh => hh b13) (?_ : Ex _ _ 60 _ _ _ _ _)
            refine x_iconst dX12_isMarked_60 rfl (by decide) (?_ : Ex _ _ 61 _ _ _ _ _)
            refine x_goto (tgt := 65) dX12_isMarked_61 rfl (?_ : Ex _ _ 65 _ _ _ _ _)
            refine Ex.wk (ls2 := [(22, l0), (0, l1), (3, 0), (3, 0)]) ⟨Or.inr rfl, Or.inr rfl, Or.inl rfl, Or.inl rfl, trivial⟩ ?_
            exact e_X12_isMarked_65 d h
          · refine x_icmp_ne (tgt := 64) dX12_isMarked_57 rfl b13 (?_ : Ex _ _ 64 _ _ _ _ _)
            refine x_iconst dX12_isMarked_64 rfl (by decide) (?_ : Ex _ _ 65 _ _ _ _ _)
            refine Ex.wk (ls2 := [(22, l0), (0, l1), (3, 0), (3, 0)]) ⟨Or.inr rfl, Or.inr rfl, Or.inl rfl, Or.inl rfl, trivial⟩ ?_
            exact e_X12_isMarked_65 d h
        · refine x_icmp_ne (tgt := 64) dX12_isMarked_47 rfl b9 (?_ : Ex _ _ 64 _ _ _ _ _)
          refine x_iconst dX12_isMarked_64 rfl (by decide) (?_ : Ex _ _ 65 _ _ _ _ _)
          refine Ex.wk (ls2 := [(22, l0), (0, l1), (3, 0), (3, 0)]) ⟨Or.inr rfl, Or.inr rfl, Or.inl rfl, Or.inl rfl, trivial⟩ ?_
          exact e_X12_isMarked_65 d h
    · refine x_if_ne (tgt := 60) dX12_isMarked_28 rfl b4 (?_ : Ex _ _ 60 _ _ _ _ _)
      refine x_iconst dX12_isMarked_60 rfl (by decide) (?_ : Ex _ _ 61 _ _ _ _ _)
      refine x_goto (tgt := 65) dX12_isMarked_61 rfl (?_ : Ex _ _ 65 _ _ _ _ _)
      refine Ex.wk (ls2 := [(22, l0), (0, l1), (3, 0), (3, 0)]) ⟨Or.inr rfl, Or.inr rfl, Or.inl rfl, Or.inl rfl, trivial⟩ ?_
      exact e_X12_isMarked_65 d h
theorem e_X12_isMarked (d : Nat) {a0 a1 : Int} {m : Mem} {v : Int} {m' : Mem} (h : X12_isMarked a0 a1 m = some (v, m')) : ExM (d + 1) fm_X12_isMarked [(22, a0), (0, a1)] m (.inl (0, v)) m' := by
  obtain ⟨hb, h⟩ := boolR_some h
  exact ExM.of (by decide +kernel) (Nat.le_of_ble_eq_true rfl) (cat9 rfl) (retZ hb) (e_X12_isMarked_0 d h)
theorem dX12_held_0 : decode cX12_held 0 = .ok (.iload_n 0, 1) := by decide +kernel
theorem dX12_held_1 : decode cX12_held 1 = .ok (.sipush 999, 3) := by decide +kernel
theorem dX12_held_4 : decode cX12_held 4 = .ok (.if_icmp .le 9, 3) := by decide +kernel
theorem dX12_held_7 : decode cX12_held 7 = .ok (.sipush 999, 3) := by decide +kernel
theorem dX12_held_10 : decode cX12_held 10 = .ok (.goto 17, 3) := by decide +kernel
theorem dX12_held_13 : decode cX12_held 13 = .ok (.iload_n 0, 1) := by decide +kernel
theorem dX12_held_14 : decode cX12_held 14 = .ok (.sipush (-999), 3) := by decide +kernel
theorem dX12_held_17 : decode cX12_held 17 = .ok (.if_icmp .ge 9, 3) := by decide +kernel
theorem dX12_held_20 : decode cX12_held 20 = .ok (.sipush (-999), 3) := by decide +kernel
theorem dX12_held_23 : decode cX12_held 23 = .ok (.goto 4, 3) := by decide +kernel
theorem dX12_held_26 : decode cX12_held 26 = .ok (.iload_n 0, 1) := by decide +kernel
theorem dX12_held_27 : decode cX12_held 27 = .ok (.ireturn, 1) := by decide +kernel
theorem e_X12_held_0 (d : Nat) {l0 : Int} {m : Mem} {v : Int} {m' : Mem} (h : X12_held_0 l0 m = some (v, m')) : Ex d fm_X12_held 0 [(0, l0)] [] m (.inl (0, v)) m' := by
  unfold X12_held_0 at h
  refine x_iload_n dX12_held_0 rfl rfl (?_ : Ex _ _ 1 _ _ _ _ _)
  refine x_sipush dX12_held_1 ks_999 (by decide) (?_ : Ex _ _ 4 _ _ _ _ _)
  rcases ite_some h with ⟨b1, h⟩ | ⟨b1, h⟩
  · refine x_icmp_le (tgt := 13) dX12_held_4 rfl b1 (?_ : Ex _ _ 13 _ _ _ _ _)
    refine x_iload_n dX12_held_13 rfl rfl (?_ : Ex _ _ 14 _ _ _ _ _)
    refine x_sipush dX12_held_14 ks_n999 (by decide) (?_ : Ex _ _ 17 _ _ _ _ _)
    rcases ite_some h with ⟨b2, h⟩ | ⟨b2, h⟩
    · refine x_icmp_ge (tgt := 26) dX12_held_17 rfl b2 (?_ : Ex _ _ 26 _ _ _ _ _)
      refine x_iload_n dX12_held_26 rfl rfl (?_ : Ex _ _ 27 _ _ _ _ _)
      cases h
      exact x_ret dX12_held_27 (by decide : (0 : Int) ≠ 3)
    · refine x_icmp_geN dX12_held_17 (by decide) b2 (?_ : Ex _ _ 20 _ _ _ _ _)
      refine x_sipush dX12_held_20 ks_n999 (by decide) (?_ : Ex _ _ 23 _ _ _ _ _)
      refine x_goto (tgt := 27) dX12_held_23 rfl (?_ : Ex _ _ 27 _ _ _ _ _)
      cases h
      exact x_ret dX12_held_27 (by decide : (0 : Int) ≠ 3)
  · refine x_icmp_leN dX12_held_4 (by decide) b1 (?_ : Ex _ _ 7 _ _ _ _ _)
    refine x_sipush dX12_held_7 ks_999 (by decide) (?_ : Ex _ _ 10 _ _ _ _ _)
    refine x_goto (tgt := 27) dX12_held_10 rfl (?_ : Ex _ _ 27 _ _ _ _ _)
    cases h
    exact x_ret dX12_held_27 (by decide : (0 : Int) ≠ 3)
theorem e_X12_held (d : Nat) {a0 : Int} {m : Mem} {v : Int} {m' : Mem} (h : X12_held a0 m = some (v, m')) : ExM d fm_X12_held [(0, a0)] m (.inl (0, v)) m' := by
  exact ExM.of (by decide +kernel) (Nat.le_of_ble_eq_true rfl) (cat9 rfl) retI (e_X12_held_0 d h)
theorem dX12_againOrFails_0 : decode cX12_againOrFails 0 = .ok (.aload_n 0, 1) := by decide +kernel
theorem dX12_againOrFails_1 : decode cX12_againOrFails 1 = .ok (.getfield 354, 3) := by decide +kernel
theorem dX12_againOrFails_4 : decode cX12_againOrFails 4 = .ok (.bipush 9, 2) := by decide +kernel
theorem dX12_againOrFails_6 : decode cX12_againOrFails 6 = .ok (.if_icmp .ne 12, 3) := by decide +kernel
theorem dX12_againOrFails_9 : decode cX12_againOrFails 9 = .ok (.aload_n 0, 1) := by decide +kernel
theorem dX12_againOrFails_10 : decode cX12_againOrFails 10 = .ok (.bipush 7, 2) := by decide +kernel
theorem dX12_againOrFails_12 : decode cX12_againOrFails 12 = .ok (.invokevirtual 304, 3) := by decide +kernel
theorem dX12_againOrFails_15 : decode cX12_againOrFails 15 = .ok (.goto 13, 3) := by decide +kernel
theorem dX12_againOrFails_18 : decode cX12_againOrFails 18 = .ok (.aload_n 0, 1) := by decide +kernel
theorem dX12_againOrFails_19 : decode cX12_againOrFails 19 = .ok (.bipush 14, 2) := by decide +kernel
theorem dX12_againOrFails_21 : decode cX12_againOrFails 21 = .ok (.aload_n 0, 1) := by decide +kernel
theorem dX12_againOrFails_22 : decode cX12_againOrFails 22 = .ok (.getfield 240, 3) := by decide +kernel
theorem dX12_againOrFails_25 : decode cX12_againOrFails 25 = .ok (.invokevirtual 299, 3) := by decide +kernel
theorem dX12_againOrFails_28 : decode cX12_againOrFails 28 = .ok (.return_, 1) := by decide +kernel
theorem e_X12_againOrFails_0 (d : Nat) {l0 : Int} {m : Mem} {v : Int} {m' : Mem} (h : X12_againOrFails_0 l0 m = some (v, m')) : Ex (d + 4) fm_X12_againOrFails 0 [(22, l0)] [] m (.inl (3, 0)) m' := by
  unfold X12_againOrFails_0 at h
  refine x_aload_n dX12_againOrFails_0 rfl rfl (Or.inr (by decide)) (?_ : Ex _ _ 1 _ _ _ _ _)
  obtain ⟨c1, h⟩ := chk_some h
  refine gt_12_83 c1 fl_RX12_354 dX12_againOrFails_1 (?_ : Ex _ _ 4 _ _ _ _ _)
  refine x_bipush dX12_againOrFails_4 kb_9 (by decide) (?_ : Ex _ _ 6 _ _ _ _ _)
  rcases ite_some h with ⟨b2, h⟩ | ⟨b2, h⟩
  · refine x_icmp_neN dX12_againOrFails_6 (by decide) (fun hh => hh b2) (?_ : Ex _ _ 9 _ _ _ _ _)
    refine x_aload_n dX12_againOrFails_9 rfl rfl (Or.inr (by decide)) (?_ : Ex _ _ 10 _ _ _ _ _)
    refine x_bipush dX12_againOrFails_10 kb_7 (by decide) (?_ : Ex _ _ 12 _ _ _ _ _)
    obtain ⟨v6, m7, g8, h⟩ := cal_some h
    refine cV1 (e_X12_fails d g8) (contV (?_ : Ex _ _ 15 _ _ _ _ _)) og_X12_fails rfl ml_RX12_304 12 rfl rfl c1 im_X12_fails se_X12_fails (Nat.le_of_ble_eq_true rfl) dX12_againOrFails_12
    refine x_goto (tgt := 28) dX12_againOrFails_15 rfl (?_ : Ex _ _ 28 _ _ _ _ _)
    cases h
    exact x_retv dX12_againOrFails_28
  · refine x_icmp_ne (tgt := 18) dX12_againOrFails_6 rfl b2 (?_ : Ex _ _ 18 _ _ _ _ _)
    refine x_aload_n dX12_againOrFails_18 rfl rfl (Or.inr (by decide)) (?_ : Ex _ _ 19 _ _ _ _ _)
    refine x_bipush dX12_againOrFails_19 kb_14 (by decide) (?_ : Ex _ _ 21 _ _ _ _ _)
    refine x_aload_n dX12_againOrFails_21 rfl rfl (Or.inr (by decide)) (?_ : Ex _ _ 22 _ _ _ _ _)
    refine gt_12_41 c1 fl_RX12_240 dX12_againOrFails_22 (?_ : Ex _ _ 25 _ _ _ _ _)
    obtain ⟨v3, m4, g5, h⟩ := cal_some h
    refine cV2 (e_X12_ends (d + 2) g5) (contV (?_ : Ex _ _ 28 _ _ _ _ _)) og_X12_ends rfl ml_RX12_299 12 rfl rfl c1 im_X12_ends se_X12_ends (Nat.le_of_ble_eq_true rfl) dX12_againOrFails_25
    cases h
    exact x_retv dX12_againOrFails_28
theorem e_X12_againOrFails (d : Nat) {a0 : Int} {m : Mem} {v : Int} {m' : Mem} (h : X12_againOrFails a0 m = some (v, m')) : ExM (d + 4) fm_X12_againOrFails [(22, a0)] m (.inl (3, 0)) m' := by
  exact ExM.of (by decide +kernel) (Nat.le_of_ble_eq_true rfl) (cat9 rfl) retV (e_X12_againOrFails_0 d h)
