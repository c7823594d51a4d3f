/-! the machine does what the functions say, printed -/
theorem dX4_hearSignal_0 : decode cX4_hearSignal 0 = .ok (.iconst 0, 1) := by decide +kernel
theorem dX4_hearSignal_1 : decode cX4_hearSignal 1 = .ok (.istore_n 3, 1) := by decide +kernel
theorem dX4_hearSignal_2 : decode cX4_hearSignal 2 = .ok (.iload_n 3, 1) := by decide +kernel
theorem dX4_hearSignal_3 : decode cX4_hearSignal 3 = .ok (.aload_n 0, 1) := by decide +kernel
theorem dX4_hearSignal_4 : decode cX4_hearSignal 4 = .ok (.getfield 103, 3) := by decide +kernel
theorem dX4_hearSignal_7 : decode cX4_hearSignal 7 = .ok (.if_icmp .ge 76, 3) := by decide +kernel
theorem dX4_hearSignal_10 : decode cX4_hearSignal 10 = .ok (.aload_n 0, 1) := by decide +kernel
theorem dX4_hearSignal_11 : decode cX4_hearSignal 11 = .ok (.getfield 24, 3) := by decide +kernel
theorem dX4_hearSignal_14 : decode cX4_hearSignal 14 = .ok (.iload_n 3, 1) := by decide +kernel
theorem dX4_hearSignal_15 : decode cX4_hearSignal 15 = .ok (.aaload, 1) := by decide +kernel
theorem dX4_hearSignal_16 : decode cX4_hearSignal 16 = .ok (.astore 4, 2) := by decide +kernel
theorem dX4_hearSignal_18 : decode cX4_hearSignal 18 = .ok (.aload 4, 2) := by decide +kernel
theorem dX4_hearSignal_20 : decode cX4_hearSignal 20 = .ok (.getfield 155, 3) := by decide +kernel
theorem dX4_hearSignal_23 : decode cX4_hearSignal 23 = .ok (.iload_n 1, 1) := by decide +kernel
theorem dX4_hearSignal_24 : decode cX4_hearSignal 24 = .ok (.if_icmp .ne 53, 3) := by decide +kernel
theorem dX4_hearSignal_27 : decode cX4_hearSignal 27 = .ok (.aload 4, 2) := by decide +kernel
theorem dX4_hearSignal_29 : decode cX4_hearSignal 29 = .ok (.getfield 152, 3) := by decide +kernel
theorem dX4_hearSignal_32 : decode cX4_hearSignal 32 = .ok (.ifCond .ne 45, 3) := by decide +kernel
theorem dX4_hearSignal_35 : decode cX4_hearSignal 35 = .ok (.aload 4, 2) := by decide +kernel
theorem dX4_hearSignal_37 : decode cX4_hearSignal 37 = .ok (.iload_n 2, 1) := by decide +kernel
theorem dX4_hearSignal_38 : decode cX4_hearSignal 38 = .ok (.iconst 0, 1) := by decide +kernel
theorem dX4_hearSignal_39 : decode cX4_hearSignal 39 = .ok (.invokevirtual 145, 3) := by decide +kernel
theorem dX4_hearSignal_42 : decode cX4_hearSignal 42 = .ok (.aload_n 0, 1) := by decide +kernel
theorem dX4_hearSignal_43 : decode cX4_hearSignal 43 = .ok (.aload_n 0, 1) := by decide +kernel
theorem dX4_hearSignal_44 : decode cX4_hearSignal 44 = .ok (.getfield 72, 3) := by decide +kernel
theorem dX4_hearSignal_47 : decode cX4_hearSignal 47 = .ok (.iconst 1, 1) := by decide +kernel
theorem dX4_hearSignal_48 : decode cX4_hearSignal 48 = .ok (.isub, 1) := by decide +kernel
theorem dX4_hearSignal_49 : decode cX4_hearSignal 49 = .ok (.invokevirtual 158, 3) := by decide +kernel
theorem dX4_hearSignal_52 : decode cX4_hearSignal 52 = .ok (.aload 4, 2) := by decide +kernel
theorem dX4_hearSignal_54 : decode cX4_hearSignal 54 = .ok (.getfield 149, 3) := by decide +kernel
theorem dX4_hearSignal_57 : decode cX4_hearSignal 57 = .ok (.iconst (-1), 1) := by decide +kernel
theorem dX4_hearSignal_58 : decode cX4_hearSignal 58 = .ok (.if_icmp .eq 18, 3) := by decide +kernel
theorem dX4_hearSignal_61 : decode cX4_hearSignal 61 = .ok (.aload_n 0, 1) := by decide +kernel
theorem dX4_hearSignal_62 : decode cX4_hearSignal 62 = .ok (.getfield 12, 3) := by decide +kernel
theorem dX4_hearSignal_65 : decode cX4_hearSignal 65 = .ok (.bipush 11, 2) := by decide +kernel
theorem dX4_hearSignal_67 : decode cX4_hearSignal 67 = .ok (.aload 4, 2) := by decide +kernel
theorem dX4_hearSignal_69 : decode cX4_hearSignal 69 = .ok (.getfield 149, 3) := by decide +kernel
theorem dX4_hearSignal_72 : decode cX4_hearSignal 72 = .ok (.iconst 0, 1) := by decide +kernel
theorem dX4_hearSignal_73 : decode cX4_hearSignal 73 = .ok (.invokevirtual 161, 3) := by decide +kernel
theorem dX4_hearSignal_76 : decode cX4_hearSignal 76 = .ok (.return_, 1) := by decide +kernel
theorem dX4_hearSignal_77 : decode cX4_hearSignal 77 = .ok (.iinc 3 1, 3) := by decide +kernel
theorem dX4_hearSignal_80 : decode cX4_hearSignal 80 = .ok (.goto (-78), 3) := by decide +kernel
theorem dX4_hearSignal_83 : decode cX4_hearSignal 83 = .ok (.return_, 1) := by decide +kernel
theorem e_X4_hearSignal_35 (d : Nat) {l0 l2 l4 : Int} {m : Mem} {v : Int} {m' : Mem} (h : X4_hearSignal_35 l0 l2 l4 m = some (v, m')) : Ex (d + 1) fm_X4_hearSignal 35 [(14, l0), (3, 0), (0, l2), (3, 0), (18, l4)] [] m (.inl (3, 0)) m' := by
  unfold X4_hearSignal_35 at h
  refine x_aload dX4_hearSignal_35 rfl (Or.inr (by decide)) (?_ : Ex _ _ 37 _ _ _ _ _)
  refine x_iload_n dX4_hearSignal_37 rfl rfl (?_ : Ex _ _ 38 _ _ _ _ _)
  refine x_iconst dX4_hearSignal_38 rfl (by decide) (?_ : Ex _ _ 39 _ _ _ _ _)
  obtain ⟨c1, h⟩ := chk_some h
  obtain ⟨v2, m3, g4, h⟩ := cal_some h
  refine cV2 (e_X8_become d g4) (contV (?_ : Ex _ _ 42 _ _ _ _ _)) og_X8_become rfl ml_RX4_145 8 rfl rfl c1 im_X8_become se_X8_become (Nat.le_of_ble_eq_true rfl) dX4_hearSignal_39
  refine x_aload_n dX4_hearSignal_42 rfl rfl (Or.inr (by decide)) (?_ : Ex _ _ 43 _ _ _ _ _)
  refine x_aload_n dX4_hearSignal_43 rfl rfl (Or.inr (by decide)) (?_ : Ex _ _ 44 _ _ _ _ _)
  obtain ⟨c5, h⟩ := chk_some h
  refine gt_4_19 c5 fl_RX4_72 dX4_hearSignal_44 (?_ : Ex _ _ 47 _ _ _ _ _)
  refine x_iconst dX4_hearSignal_47 rfl (by decide) (?_ : Ex _ _ 48 _ _ _ _ _)
  obtain ⟨c6, h⟩ := chk_some h
  refine x_isub dX4_hearSignal_48 c6 (?_ : Ex _ _ 49 _ _ _ _ _)
  obtain ⟨v7, m8, g9, h⟩ := cal_some h
  refine cV1 (e_X4_noteTaken d g9) (contV (?_ : Ex _ _ 52 _ _ _ _ _)) og_X4_noteTaken rfl ml_RX4_158 4 rfl rfl c5 im_X4_noteTaken se_X4_noteTaken (Nat.le_of_ble_eq_true rfl) dX4_hearSignal_49
  refine x_aload dX4_hearSignal_52 rfl (Or.inr (by decide)) (?_ : Ex _ _ 54 _ _ _ _ _)
  refine gt_8_2 c1 fl_RX4_149 dX4_hearSignal_54 (?_ : Ex _ _ 57 _ _ _ _ _)
  refine x_iconst dX4_hearSignal_57 rfl (by decide) (?_ : Ex _ _ 58 _ _ _ _ _)
  rcases ite_some h with ⟨b10, h⟩ | ⟨b10, h⟩
  · refine x_icmp_eq (tgt := 76) dX4_hearSignal_58 rfl b10 (?_ : Ex _ _ 76 _ _ _ _ _)
    cases h
    exact x_retv dX4_hearSignal_76
  · refine x_icmp_eqN dX4_hearSignal_58 (by decide) b10 (?_ : Ex _ _ 61 _ _ _ _ _)
    refine x_aload_n dX4_hearSignal_61 rfl rfl (Or.inr (by decide)) (?_ : Ex _ _ 62 _ _ _ _ _)
    refine gt_4_0 c5 fl_RX4_12 dX4_hearSignal_62 (?_ : Ex _ _ 65 _ _ _ _ _)
    refine x_bipush dX4_hearSignal_65 kb_11 (by decide) (?_ : Ex _ _ 67 _ _ _ _ _)
    refine x_aload dX4_hearSignal_67 rfl (Or.inr (by decide)) (?_ : Ex _ _ 69 _ _ _ _ _)
    refine gt_8_2 c1 fl_RX4_149 dX4_hearSignal_69 (?_ : Ex _ _ 72 _ _ _ _ _)
    refine x_iconst dX4_hearSignal_72 rfl (by decide) (?_ : Ex _ _ 73 _ _ _ _ _)
    obtain ⟨c11, h⟩ := chk_some h
    obtain ⟨v12, m13, g14, h⟩ := cal_some h
    refine cV3 (e_X1_put d g14) (contV (?_ : Ex _ _ 76 _ _ _ _ _)) og_X1_put rfl ml_RX4_161 1 rfl rfl c11 im_X1_put se_X1_put (Nat.le_of_ble_eq_true rfl) dX4_hearSignal_73
    cases h
    exact x_retv dX4_hearSignal_76
theorem e_X4_hearSignal_2 (d : Nat) {k35 : Int → Int → Int → Mem → Option R2} (hk35 : ∀ {l0 l2 l4 : Int} {m : Mem} {v : Int} {m' : Mem}, k35 l0 l2 l4 m = some (v, m') → Ex (d + 1) fm_X4_hearSignal 35 [(14, l0), (3, 0), (0, l2), (3, 0), (18, l4)] [] m (.inl (3, 0)) m') : ∀ (n : Nat) {l0 l1 l2 l3 : Int} {m : Mem} {v : Int} {m' : Mem}, X4_hearSignal_2 k35 n l0 l1 l2 l3 m = some (v, m') → Ex (d + 1) fm_X4_hearSignal 2 [(14, l0), (0, l1), (0, l2), (0, l3), (3, 0)] [] m (.inl (3, 0)) m' := by
  intro n
  induction n with
  | zero =>
    intro l0 l1 l2 l3 m v m' h
    have h : (none : Option R2) = some _ := h
    cases h
  | succ n ih =>
    intro l0 l1 l2 l3 m v m' h
    rw [X4_hearSignal_2] at h
    refine x_iload_n dX4_hearSignal_2 rfl rfl (?_ : Ex _ _ 3 _ _ _ _ _)
    refine x_aload_n dX4_hearSignal_3 rfl rfl (Or.inr (by decide)) (?_ : Ex _ _ 4 _ _ _ _ _)
    obtain ⟨c1, h⟩ := chk_some h
    refine gt_4_12 c1 fl_RX4_103 dX4_hearSignal_4 (?_ : Ex _ _ 7 _ _ _ _ _)
    rcases ite_some h with ⟨b2, h⟩ | ⟨b2, h⟩
    · refine x_icmp_ge (tgt := 83) dX4_hearSignal_7 rfl b2 (?_ : Ex _ _ 83 _ _ _ _ _)
      cases h
      exact x_retv dX4_hearSignal_83
    · refine x_icmp_geN dX4_hearSignal_7 (by decide) b2 (?_ : Ex _ _ 10 _ _ _ _ _)
      refine x_aload_n dX4_hearSignal_10 rfl rfl (Or.inr (by decide)) (?_ : Ex _ _ 11 _ _ _ _ _)
      refine gt_4_3 c1 fl_RX4_24 dX4_hearSignal_11 (?_ : Ex _ _ 14 _ _ _ _ _)
      refine x_iload_n dX4_hearSignal_14 rfl rfl (?_ : Ex _ _ 15 _ _ _ _ _)
      obtain ⟨⟨c3, c4, c5⟩, h⟩ := chk_some h
      refine ad_8_3 c3 c4 c5 dX4_hearSignal_15 (?_ : Ex _ _ 16 _ _ _ _ _)
      refine x_astore (ls2 := [(14, l0), (0, l1), (0, l2), (0, l3), (18, m (m l0 3) l3)]) dX4_hearSignal_16 (Nat.le_of_ble_eq_true rfl) (Or.inr (by decide)) rfl (?_ : Ex _ _ 18 _ _ _ _ _)
      refine x_aload dX4_hearSignal_18 rfl (Or.inr (by decide)) (?_ : Ex _ _ 20 _ _ _ _ _)
      obtain ⟨c6, h⟩ := chk_some h
      refine gt_8_4 c6 fl_RX4_155 dX4_hearSignal_20 (?_ : Ex _ _ 23 _ _ _ _ _)
      refine x_iload_n dX4_hearSignal_23 rfl rfl (?_ : Ex _ _ 24 _ _ _ _ _)
      rcases ite_some h with ⟨b7, h⟩ | ⟨b7, h⟩
      · refine x_icmp_neN dX4_hearSignal_24 (by decide) (fun hh => hh b7) (?_ : Ex _ _ 27 _ _ _ _ _)
        refine x_aload dX4_hearSignal_27 rfl (Or.inr (by decide)) (?_ : Ex _ _ 29 _ _ _ _ _)
        refine gt_8_6 c6 fl_RX4_152 dX4_hearSignal_29 (?_ : Ex _ _ 32 _ _ _ _ _)
        rcases ite_some h with ⟨b9, h⟩ | ⟨b9, h⟩
        · refine x_if_neN dX4_hearSignal_32 (by decide) (fun hh => hh b9) (?_ : Ex _ _ 35 _ _ _ _ _)
          refine Ex.wk (ls2 := [(14, l0), (3, 0), (0, l2), (3, 0), (18, m (m l0 3) l3)]) ⟨Or.inr rfl, Or.inl rfl, Or.inr rfl, Or.inl rfl, Or.inr rfl, trivial⟩ ?_
          exact hk35 h
        · refine x_if_ne (tgt := 77) dX4_hearSignal_32 rfl b9 (?_ : Ex _ _ 77 _ _ _ _ _)
          obtain ⟨c10, h⟩ := chk_some h
          refine x_iinc (ls2 := [(14, l0), (0, l1), (0, l2), (0, (l3 + 1)), (18, m (m l0 3) l3)]) dX4_hearSignal_77 rfl c10 rfl (?_ : Ex _ _ 80 _ _ _ _ _)
          refine x_goto (tgt := 2) dX4_hearSignal_80 rfl (?_ : Ex _ _ 2 _ _ _ _ _)
          refine Ex.wk (ls2 := [(14, l0), (0, l1), (0, l2), (0, (l3 + 1)), (3, 0)]) ⟨Or.inr rfl, Or.inr rfl, Or.inr rfl, Or.inr rfl, Or.inl rfl, trivial⟩ ?_
          exact ih h
      · refine x_icmp_ne (tgt := 77) dX4_hearSignal_24 rfl b7 (?_ : Ex _ _ 77 _ _ _ _ _)
        obtain ⟨c8, h⟩ := chk_some h
        refine x_iinc (ls2 := [(14, l0), (0, l1), (0, l2), (0, (l3 + 1)), (18, m (m l0 3) l3)]) dX4_hearSignal_77 rfl c8 rfl (?_ : Ex _ _ 80 _ _ _ _ _)
        refine x_goto (tgt := 2) dX4_hearSignal_80 rfl (?_ : Ex _ _ 2 _ _ _ _ _)
        refine Ex.wk (ls2 := [(14, l0), (0, l1), (0, l2), (0, (l3 + 1)), (3, 0)]) ⟨Or.inr rfl, Or.inr rfl, Or.inr rfl, Or.inr rfl, Or.inl rfl, trivial⟩ ?_
        exact ih h
theorem e_X4_hearSignal_0 (d : Nat) {l0 l1 l2 : Int} {m : Mem} {v : Int} {m' : Mem} (h : X4_hearSignal_0 l0 l1 l2 m = some (v, m')) : Ex (d + 1) fm_X4_hearSignal 0 [(14, l0), (0, l1), (0, l2), (3, 0), (3, 0)] [] m (.inl (3, 0)) m' := by
  unfold X4_hearSignal_0 at h
  refine x_iconst dX4_hearSignal_0 rfl (by decide) (?_ : Ex _ _ 1 _ _ _ _ _)
  refine x_istore_n (ls2 := [(14, l0), (0, l1), (0, l2), (0, 0), (3, 0)]) dX4_hearSignal_1 rfl (Nat.le_of_ble_eq_true rfl) rfl (?_ : Ex _ _ 2 _ _ _ _ _)
  exact e_X4_hearSignal_2 d (fun h => e_X4_hearSignal_35 d h) fuel9 h
theorem e_X4_hearSignal (d : Nat) {a0 a1 a2 : Int} {m : Mem} {v : Int} {m' : Mem} (h : X4_hearSignal a0 a1 a2 m = some (v, m')) : ExM (d + 1) fm_X4_hearSignal [(14, a0), (0, a1), (0, a2)] m (.inl (3, 0)) m' := by
  exact ExM.of (by decide +kernel) (Nat.le_of_ble_eq_true rfl) (cat9 rfl) retV (e_X4_hearSignal_0 d h)
theorem dX4_hearChild_0 : decode cX4_hearChild 0 = .ok (.iconst 0, 1) := by decide +kernel
theorem dX4_hearChild_1 : decode cX4_hearChild 1 = .ok (.istore_n 3, 1) := by decide +kernel
theorem dX4_hearChild_2 : decode cX4_hearChild 2 = .ok (.iload_n 3, 1) := by decide +kernel
theorem dX4_hearChild_3 : decode cX4_hearChild 3 = .ok (.aload_n 0, 1) := by decide +kernel
theorem dX4_hearChild_4 : decode cX4_hearChild 4 = .ok (.getfield 103, 3) := by decide +kernel
theorem dX4_hearChild_7 : decode cX4_hearChild 7 = .ok (.if_icmp .ge 33, 3) := by decide +kernel
theorem dX4_hearChild_10 : decode cX4_hearChild 10 = .ok (.aload_n 0, 1) := by decide +kernel
theorem dX4_hearChild_11 : decode cX4_hearChild 11 = .ok (.getfield 24, 3) := by decide +kernel
theorem dX4_hearChild_14 : decode cX4_hearChild 14 = .ok (.iload_n 3, 1) := by decide +kernel
theorem dX4_hearChild_15 : decode cX4_hearChild 15 = .ok (.aaload, 1) := by decide +kernel
theorem dX4_hearChild_16 : decode cX4_hearChild 16 = .ok (.getfield 164, 3) := by decide +kernel
theorem dX4_hearChild_19 : decode cX4_hearChild 19 = .ok (.iload_n 1, 1) := by decide +kernel
theorem dX4_hearChild_20 : decode cX4_hearChild 20 = .ok (.if_icmp .ne 14, 3) := by decide +kernel
theorem dX4_hearChild_23 : decode cX4_hearChild 23 = .ok (.aload_n 0, 1) := by decide +kernel
theorem dX4_hearChild_24 : decode cX4_hearChild 24 = .ok (.getfield 24, 3) := by decide +kernel
theorem dX4_hearChild_27 : decode cX4_hearChild 27 = .ok (.iload_n 3, 1) := by decide +kernel
theorem dX4_hearChild_28 : decode cX4_hearChild 28 = .ok (.aaload, 1) := by decide +kernel
theorem dX4_hearChild_29 : decode cX4_hearChild 29 = .ok (.iload_n 2, 1) := by decide +kernel
theorem dX4_hearChild_30 : decode cX4_hearChild 30 = .ok (.iconst 0, 1) := by decide +kernel
theorem dX4_hearChild_31 : decode cX4_hearChild 31 = .ok (.invokevirtual 145, 3) := by decide +kernel
theorem dX4_hearChild_34 : decode cX4_hearChild 34 = .ok (.iinc 3 1, 3) := by decide +kernel
theorem dX4_hearChild_37 : decode cX4_hearChild 37 = .ok (.goto (-35), 3) := by decide +kernel
theorem dX4_hearChild_40 : decode cX4_hearChild 40 = .ok (.return_, 1) := by decide +kernel
theorem e_X4_hearChild_2 (d : Nat) : ∀ (n : Nat) {l0 l1 l2 l3 : Int} {m : Mem} {v : Int} {m' : Mem}, X4_hearChild_2 n l0 l1 l2 l3 m = some (v, m') → Ex (d + 1) fm_X4_hearChild 2 [(14, l0), (0, l1), (0, l2), (0, l3)] [] m (.inl (3, 0)) m' := by
  intro n
  induction n with
  | zero =>
    intro l0 l1 l2 l3 m v m' h
    have h : (none : Option R2) = some _ := h
    cases h
  | succ n ih =>
    intro l0 l1 l2 l3 m v m' h
    rw [X4_hearChild_2] at h
    refine x_iload_n dX4_hearChild_2 rfl rfl (?_ : Ex _ _ 3 _ _ _ _ _)
    refine x_aload_n dX4_hearChild_3 rfl rfl (Or.inr (by decide)) (?_ : Ex _ _ 4 _ _ _ _ _)
    obtain ⟨c1, h⟩ := chk_some h
    refine gt_4_12 c1 fl_RX4_103 dX4_hearChild_4 (?_ : Ex _ _ 7 _ _ _ _ _)
    rcases ite_some h with ⟨b2, h⟩ | ⟨b2, h⟩
    · refine x_icmp_ge (tgt := 40) dX4_hearChild_7 rfl b2 (?_ : Ex _ _ 40 _ _ _ _ _)
      cases h
      exact x_retv dX4_hearChild_40
    · refine x_icmp_geN dX4_hearChild_7 (by decide) b2 (?_ : Ex _ _ 10 _ _ _ _ _)
      refine x_aload_n dX4_hearChild_10 rfl rfl (Or.inr (by decide)) (?_ : Ex _ _ 11 _ _ _ _ _)
      refine gt_4_3 c1 fl_RX4_24 dX4_hearChild_11 (?_ : Ex _ _ 14 _ _ _ _ _)
      refine x_iload_n dX4_hearChild_14 rfl rfl (?_ : Ex _ _ 15 _ _ _ _ _)
      obtain ⟨⟨c3, c4, c5⟩, h⟩ := chk_some h
      refine ad_8_3 c3 c4 c5 dX4_hearChild_15 (?_ : Ex _ _ 16 _ _ _ _ _)
      obtain ⟨c6, h⟩ := chk_some h
      refine gt_8_3 c6 fl_RX4_164 dX4_hearChild_16 (?_ : Ex _ _ 19 _ _ _ _ _)
      refine x_iload_n dX4_hearChild_19 rfl rfl (?_ : Ex _ _ 20 _ _ _ _ _)
      rcases ite_some h with ⟨b7, h⟩ | ⟨b7, h⟩
      · refine x_icmp_neN dX4_hearChild_20 (by decide) (fun hh => hh b7) (?_ : Ex _ _ 23 _ _ _ _ _)
        refine x_aload_n dX4_hearChild_23 rfl rfl (Or.inr (by decide)) (?_ : Ex _ _ 24 _ _ _ _ _)
        refine gt_4_3 c1 fl_RX4_24 dX4_hearChild_24 (?_ : Ex _ _ 27 _ _ _ _ _)
        refine x_iload_n dX4_hearChild_27 rfl rfl (?_ : Ex _ _ 28 _ _ _ _ _)
        obtain ⟨⟨c9, c10⟩, h⟩ := chk_some h
        refine ad_8_3 c3 c9 c10 dX4_hearChild_28 (?_ : Ex _ _ 29 _ _ _ _ _)
        refine x_iload_n dX4_hearChild_29 rfl rfl (?_ : Ex _ _ 30 _ _ _ _ _)
        refine x_iconst dX4_hearChild_30 rfl (by decide) (?_ : Ex _ _ 31 _ _ _ _ _)
        obtain ⟨v11, m12, g13, h⟩ := cal_some h
        refine cV2 (e_X8_become d g13) (contV (?_ : Ex _ _ 34 _ _ _ _ _)) og_X8_become rfl ml_RX4_145 8 rfl rfl c6 im_X8_become se_X8_become (Nat.le_of_ble_eq_true rfl) dX4_hearChild_31
        obtain ⟨c14, h⟩ := chk_some h
        refine x_iinc (ls2 := [(14, l0), (0, l1), (0, l2), (0, (l3 + 1))]) dX4_hearChild_34 rfl c14 rfl (?_ : Ex _ _ 37 _ _ _ _ _)
        refine x_goto (tgt := 2) dX4_hearChild_37 rfl (?_ : Ex _ _ 2 _ _ _ _ _)
        exact ih h
      · refine x_icmp_ne (tgt := 34) dX4_hearChild_20 rfl b7 (?_ : Ex _ _ 34 _ _ _ _ _)
        obtain ⟨c8, h⟩ := chk_some h
        refine x_iinc (ls2 := [(14, l0), (0, l1), (0, l2), (0, (l3 + 1))]) dX4_hearChild_34 rfl c8 rfl (?_ : Ex _ _ 37 _ _ _ _ _)
        refine x_goto (tgt := 2) dX4_hearChild_37 rfl (?_ : Ex _ _ 2 _ _ _ _ _)
        exact ih h
theorem e_X4_hearChild_0 (d : Nat) {l0 l1 l2 : Int} {m : Mem} {v : Int} {m' : Mem} (h : X4_hearChild_0 l0 l1 l2 m = some (v, m')) : Ex (d + 1) fm_X4_hearChild 0 [(14, l0), (0, l1), (0, l2), (3, 0)] [] m (.inl (3, 0)) m' := by
  unfold X4_hearChild_0 at h
  refine x_iconst dX4_hearChild_0 rfl (by decide) (?_ : Ex _ _ 1 _ _ _ _ _)
  refine x_istore_n (ls2 := [(14, l0), (0, l1), (0, l2), (0, 0)]) dX4_hearChild_1 rfl (Nat.le_of_ble_eq_true rfl) rfl (?_ : Ex _ _ 2 _ _ _ _ _)
  exact e_X4_hearChild_2 d fuel9 h
theorem e_X4_hearChild (d : Nat) {a0 a1 a2 : Int} {m : Mem} {v : Int} {m' : Mem} (h : X4_hearChild a0 a1 a2 m = some (v, m')) : ExM (d + 1) fm_X4_hearChild [(14, a0), (0, a1), (0, a2)] m (.inl (3, 0)) m' := by
  exact ExM.of (by decide +kernel) (Nat.le_of_ble_eq_true rfl) (cat9 rfl) retV (e_X4_hearChild_0 d h)
theorem dX4_backOut_0 : decode cX4_backOut 0 = .ok (.aload_n 0, 1) := by decide +kernel
theorem dX4_backOut_1 : decode cX4_backOut 1 = .ok (.iload_n 1, 1) := by decide +kernel
theorem dX4_backOut_2 : decode cX4_backOut 2 = .ok (.putfield 121, 3) := by decide +kernel
theorem dX4_backOut_5 : decode cX4_backOut 5 = .ok (.aload_n 0, 1) := by decide +kernel
theorem dX4_backOut_6 : decode cX4_backOut 6 = .ok (.iconst 0, 1) := by decide +kernel
theorem dX4_backOut_7 : decode cX4_backOut 7 = .ok (.putfield 103, 3) := by decide +kernel
theorem dX4_backOut_10 : decode cX4_backOut 10 = .ok (.aload_n 0, 1) := by decide +kernel
theorem dX4_backOut_11 : decode cX4_backOut 11 = .ok (.iconst 2, 1) := by decide +kernel
theorem dX4_backOut_12 : decode cX4_backOut 12 = .ok (.putfield 43, 3) := by decide +kernel
theorem dX4_backOut_15 : decode cX4_backOut 15 = .ok (.return_, 1) := by decide +kernel
theorem e_X4_backOut_0 (d : Nat) {l0 l1 : Int} {m : Mem} {v : Int} {m' : Mem} (h : X4_backOut_0 l0 l1 m = some (v, m')) : Ex d fm_X4_backOut 0 [(14, l0), (0, l1)] [] m (.inl (3, 0)) m' := by
  unfold X4_backOut_0 at h
  refine x_aload_n dX4_backOut_0 rfl rfl (Or.inr (by decide)) (?_ : Ex _ _ 1 _ _ _ _ _)
  refine x_iload_n dX4_backOut_1 rfl rfl (?_ : Ex _ _ 2 _ _ _ _ _)
  obtain ⟨c1, h⟩ := chk_some h
  obtain ⟨m2, hm2, h⟩ := st_some h
  refine pt_4_18  c1 fl_RX4_121 dX4_backOut_2 (?_ : Ex _ _ 5 _ _ _ _ _)
  rw [← hm2]
  refine x_aload_n dX4_backOut_5 rfl rfl (Or.inr (by decide)) (?_ : Ex _ _ 6 _ _ _ _ _)
  refine x_iconst dX4_backOut_6 rfl (by decide) (?_ : Ex _ _ 7 _ _ _ _ _)
  obtain ⟨m3, hm3, h⟩ := st_some h
  refine pt_4_12  c1 fl_RX4_103 dX4_backOut_7 (?_ : Ex _ _ 10 _ _ _ _ _)
  rw [← hm3]
  refine x_aload_n dX4_backOut_10 rfl rfl (Or.inr (by decide)) (?_ : Ex _ _ 11 _ _ _ _ _)
  refine x_iconst dX4_backOut_11 rfl (by decide) (?_ : Ex _ _ 12 _ _ _ _ _)
  obtain ⟨m4, hm4, h⟩ := st_some h
  refine pt_4_9  c1 fl_RX4_43 dX4_backOut_12 (?_ : Ex _ _ 15 _ _ _ _ _)
  rw [← hm4]
  cases h
  exact x_retv dX4_backOut_15
theorem e_X4_backOut (d : Nat) {a0 a1 : Int} {m : Mem} {v : Int} {m' : Mem} (h : X4_backOut a0 a1 m = some (v, m')) : ExM d fm_X4_backOut [(14, a0), (0, a1)] m (.inl (3, 0)) m' := by
  exact ExM.of (by decide +kernel) (Nat.le_of_ble_eq_true rfl) (cat9 rfl) retV (e_X4_backOut_0 d h)
theorem dX4_cut_0 : decode cX4_cut 0 = .ok (.iconst 0, 1) := by decide +kernel
theorem dX4_cut_1 : decode cX4_cut 1 = .ok (.istore_n 1, 1) := by decide +kernel
theorem dX4_cut_2 : decode cX4_cut 2 = .ok (.iload_n 1, 1) := by decide +kernel
theorem dX4_cut_3 : decode cX4_cut 3 = .ok (.aload_n 0, 1) := by decide +kernel
theorem dX4_cut_4 : decode cX4_cut 4 = .ok (.getfield 103, 3) := by decide +kernel
theorem dX4_cut_7 : decode cX4_cut 7 = .ok (.if_icmp .ge 53, 3) := by decide +kernel
theorem dX4_cut_10 : decode cX4_cut 10 = .ok (.aload_n 0, 1) := by decide +kernel
theorem dX4_cut_11 : decode cX4_cut 11 = .ok (.getfield 24, 3) := by decide +kernel
theorem dX4_cut_14 : decode cX4_cut 14 = .ok (.iload_n 1, 1) := by decide +kernel
theorem dX4_cut_15 : decode cX4_cut 15 = .ok (.aaload, 1) := by decide +kernel
theorem dX4_cut_16 : decode cX4_cut 16 = .ok (.getfield 142, 3) := by decide +kernel
theorem dX4_cut_19 : decode cX4_cut 19 = .ok (.iconst (-1), 1) := by decide +kernel
theorem dX4_cut_20 : decode cX4_cut 20 = .ok (.if_icmp .eq 34, 3) := by decide +kernel
theorem dX4_cut_23 : decode cX4_cut 23 = .ok (.aload_n 0, 1) := by decide +kernel
theorem dX4_cut_24 : decode cX4_cut 24 = .ok (.getfield 24, 3) := by decide +kernel
theorem dX4_cut_27 : decode cX4_cut 27 = .ok (.iload_n 1, 1) := by decide +kernel
theorem dX4_cut_28 : decode cX4_cut 28 = .ok (.aaload, 1) := by decide +kernel
theorem dX4_cut_29 : decode cX4_cut 29 = .ok (.getfield 152, 3) := by decide +kernel
theorem dX4_cut_32 : decode cX4_cut 32 = .ok (.ifCond .ne 22, 3) := by decide +kernel
theorem dX4_cut_35 : decode cX4_cut 35 = .ok (.aload_n 0, 1) := by decide +kernel
theorem dX4_cut_36 : decode cX4_cut 36 = .ok (.getfield 12, 3) := by decide +kernel
theorem dX4_cut_39 : decode cX4_cut 39 = .ok (.bipush 9, 2) := by decide +kernel
theorem dX4_cut_41 : decode cX4_cut 41 = .ok (.aload_n 0, 1) := by decide +kernel
theorem dX4_cut_42 : decode cX4_cut 42 = .ok (.getfield 24, 3) := by decide +kernel
theorem dX4_cut_45 : decode cX4_cut 45 = .ok (.iload_n 1, 1) := by decide +kernel
theorem dX4_cut_46 : decode cX4_cut 46 = .ok (.aaload, 1) := by decide +kernel
theorem dX4_cut_47 : decode cX4_cut 47 = .ok (.getfield 142, 3) := by decide +kernel
theorem dX4_cut_50 : decode cX4_cut 50 = .ok (.iconst 0, 1) := by decide +kernel
theorem dX4_cut_51 : decode cX4_cut 51 = .ok (.invokevirtual 161, 3) := by decide +kernel
theorem dX4_cut_54 : decode cX4_cut 54 = .ok (.iinc 1 1, 3) := by decide +kernel
theorem dX4_cut_57 : decode cX4_cut 57 = .ok (.goto (-55), 3) := by decide +kernel
theorem dX4_cut_60 : decode cX4_cut 60 = .ok (.iconst 0, 1) := by decide +kernel
theorem dX4_cut_61 : decode cX4_cut 61 = .ok (.istore_n 1, 1) := by decide +kernel
theorem dX4_cut_62 : decode cX4_cut 62 = .ok (.iload_n 1, 1) := by decide +kernel
theorem dX4_cut_63 : decode cX4_cut 63 = .ok (.aload_n 0, 1) := by decide +kernel
theorem dX4_cut_64 : decode cX4_cut 64 = .ok (.getfield 103, 3) := by decide +kernel
theorem dX4_cut_67 : decode cX4_cut 67 = .ok (.if_icmp .ge 53, 3) := by decide +kernel
theorem dX4_cut_70 : decode cX4_cut 70 = .ok (.aload_n 0, 1) := by decide +kernel
theorem dX4_cut_71 : decode cX4_cut 71 = .ok (.getfield 24, 3) := by decide +kernel
theorem dX4_cut_74 : decode cX4_cut 74 = .ok (.iload_n 1, 1) := by decide +kernel
theorem dX4_cut_75 : decode cX4_cut 75 = .ok (.aaload, 1) := by decide +kernel
theorem dX4_cut_76 : decode cX4_cut 76 = .ok (.getfield 149, 3) := by decide +kernel
theorem dX4_cut_79 : decode cX4_cut 79 = .ok (.iconst (-1), 1) := by decide +kernel
theorem dX4_cut_80 : decode cX4_cut 80 = .ok (.if_icmp .eq 34, 3) := by decide +kernel
theorem dX4_cut_83 : decode cX4_cut 83 = .ok (.aload_n 0, 1) := by decide +kernel
theorem dX4_cut_84 : decode cX4_cut 84 = .ok (.getfield 24, 3) := by decide +kernel
theorem dX4_cut_87 : decode cX4_cut 87 = .ok (.iload_n 1, 1) := by decide +kernel
theorem dX4_cut_88 : decode cX4_cut 88 = .ok (.aaload, 1) := by decide +kernel
theorem dX4_cut_89 : decode cX4_cut 89 = .ok (.getfield 152, 3) := by decide +kernel
theorem dX4_cut_92 : decode cX4_cut 92 = .ok (.ifCond .ne 22, 3) := by decide +kernel
theorem dX4_cut_95 : decode cX4_cut 95 = .ok (.aload_n 0, 1) := by decide +kernel
theorem dX4_cut_96 : decode cX4_cut 96 = .ok (.getfield 12, 3) := by decide +kernel
theorem dX4_cut_99 : decode cX4_cut 99 = .ok (.bipush 11, 2) := by decide +kernel
theorem dX4_cut_101 : decode cX4_cut 101 = .ok (.aload_n 0, 1) := by decide +kernel
theorem dX4_cut_102 : decode cX4_cut 102 = .ok (.getfield 24, 3) := by decide +kernel
theorem dX4_cut_105 : decode cX4_cut 105 = .ok (.iload_n 1, 1) := by decide +kernel
theorem dX4_cut_106 : decode cX4_cut 106 = .ok (.aaload, 1) := by decide +kernel
theorem dX4_cut_107 : decode cX4_cut 107 = .ok (.getfield 149, 3) := by decide +kernel
theorem dX4_cut_110 : decode cX4_cut 110 = .ok (.iconst 0, 1) := by decide +kernel
theorem dX4_cut_111 : decode cX4_cut 111 = .ok (.invokevirtual 161, 3) := by decide +kernel
theorem dX4_cut_114 : decode cX4_cut 114 = .ok (.iinc 1 1, 3) := by decide +kernel
theorem dX4_cut_117 : decode cX4_cut 117 = .ok (.goto (-55), 3) := by decide +kernel
theorem dX4_cut_120 : decode cX4_cut 120 = .ok (.aload_n 0, 1) := by decide +kernel
theorem dX4_cut_121 : decode cX4_cut 121 = .ok (.iconst 0, 1) := by decide +kernel
theorem dX4_cut_122 : decode cX4_cut 122 = .ok (.invokevirtual 170, 3) := by decide +kernel
theorem dX4_cut_125 : decode cX4_cut 125 = .ok (.return_, 1) := by decide +kernel
theorem e_X4_cut_120 (d : Nat) {l0 : Int} {m : Mem} {v : Int} {m' : Mem} (h : X4_cut_120 l0 m = some (v, m')) : Ex (d + 1) fm_X4_cut 120 [(14, l0), (3, 0)] [] m (.inl (3, 0)) m' := by
  unfold X4_cut_120 at h
  refine x_aload_n dX4_cut_120 rfl rfl (Or.inr (by decide)) (?_ : Ex _ _ 121 _ _ _ _ _)
  refine x_iconst dX4_cut_121 rfl (by decide) (?_ : Ex _ _ 122 _ _ _ _ _)
  obtain ⟨c1, h⟩ := chk_some h
  obtain ⟨v2, m3, g4, h⟩ := cal_some h
  refine cV1 (e_X4_backOut d g4) (contV (?_ : Ex _ _ 125 _ _ _ _ _)) og_X4_backOut rfl ml_RX4_170 4 rfl rfl c1 im_X4_backOut se_X4_backOut (Nat.le_of_ble_eq_true rfl) dX4_cut_122
  cases h
  exact x_retv dX4_cut_125
theorem e_X4_cut_62 (d : Nat) {k120 : Int → Mem → Option R2} (hk120 : ∀ {l0 : Int} {m : Mem} {v : Int} {m' : Mem}, k120 l0 m = some (v, m') → Ex (d + 1) fm_X4_cut 120 [(14, l0), (3, 0)] [] m (.inl (3, 0)) m') : ∀ (n : Nat) {l0 l1 : Int} {m : Mem} {v : Int} {m' : Mem}, X4_cut_62 k120 n l0 l1 m = some (v, m') → Ex (d + 1) fm_X4_cut 62 [(14, l0), (0, l1)] [] m (.inl (3, 0)) m' := by
  intro n
  induction n with
  | zero =>
    intro l0 l1 m v m' h
    have h : (none : Option R2) = some _ := h
    cases h
  | succ n ih =>
    intro l0 l1 m v m' h
    rw [X4_cut_62] at h
    refine x_iload_n dX4_cut_62 rfl rfl (?_ : Ex _ _ 63 _ _ _ _ _)
    refine x_aload_n dX4_cut_63 rfl rfl (Or.inr (by decide)) (?_ : Ex _ _ 64 _ _ _ _ _)
    obtain ⟨c1, h⟩ := chk_some h
    refine gt_4_12 c1 fl_RX4_103 dX4_cut_64 (?_ : Ex _ _ 67 _ _ _ _ _)
    rcases ite_some h with ⟨b2, h⟩ | ⟨b2, h⟩
    · refine x_icmp_ge (tgt := 120) dX4_cut_67 rfl b2 (?_ : Ex _ _ 120 _ _ _ _ _)
      refine Ex.wk (ls2 := [(14, l0), (3, 0)]) ⟨Or.inr rfl, Or.inl rfl, trivial⟩ ?_
      exact hk120 h
    · refine x_icmp_geN dX4_cut_67 (by decide) b2 (?_ : Ex _ _ 70 _ _ _ _ _)
      refine x_aload_n dX4_cut_70 rfl rfl (Or.inr (by decide)) (?_ : Ex _ _ 71 _ _ _ _ _)
      refine gt_4_3 c1 fl_RX4_24 dX4_cut_71 (?_ : Ex _ _ 74 _ _ _ _ _)
      refine x_iload_n dX4_cut_74 rfl rfl (?_ : Ex _ _ 75 _ _ _ _ _)
      obtain ⟨⟨c3, c4, c5⟩, h⟩ := chk_some h
      refine ad_8_3 c3 c4 c5 dX4_cut_75 (?_ : Ex _ _ 76 _ _ _ _ _)
      obtain ⟨c6, h⟩ := chk_some h
      refine gt_8_2 c6 fl_RX4_149 dX4_cut_76 (?_ : Ex _ _ 79 _ _ _ _ _)
      refine x_iconst dX4_cut_79 rfl (by decide) (?_ : Ex _ _ 80 _ _ _ _ _)
      rcases ite_some h with ⟨b7, h⟩ | ⟨b7, h⟩
      · refine x_icmp_eq (tgt := 114) dX4_cut_80 rfl b7 (?_ : Ex _ _ 114 _ _ _ _ _)
        obtain ⟨c8, h⟩ := chk_some h
        refine x_iinc (ls2 := [(14, l0), (0, (l1 + 1))]) dX4_cut_114 rfl c8 rfl (?_ : Ex _ _ 117 _ _ _ _ _)
        refine x_goto (tgt := 62) dX4_cut_117 rfl (?_ : Ex _ _ 62 _ _ _ _ _)
        exact ih h
      · refine x_icmp_eqN dX4_cut_80 (by decide) b7 (?_ : Ex _ _ 83 _ _ _ _ _)
        refine x_aload_n dX4_cut_83 rfl rfl (Or.inr (by decide)) (?_ : Ex _ _ 84 _ _ _ _ _)
        refine gt_4_3 c1 fl_RX4_24 dX4_cut_84 (?_ : Ex _ _ 87 _ _ _ _ _)
        refine x_iload_n dX4_cut_87 rfl rfl (?_ : Ex _ _ 88 _ _ _ _ _)
        obtain ⟨⟨c9, c10⟩, h⟩ := chk_some h
        refine ad_8_3 c3 c9 c10 dX4_cut_88 (?_ : Ex _ _ 89 _ _ _ _ _)
        refine gt_8_6 c6 fl_RX4_152 dX4_cut_89 (?_ : Ex _ _ 92 _ _ _ _ _)
        rcases ite_some h with ⟨b11, h⟩ | ⟨b11, h⟩
        · refine x_if_neN dX4_cut_92 (by decide) (fun hh => hh b11) (?_ : Ex _ _ 95 _ _ _ _ _)
          refine x_aload_n dX4_cut_95 rfl rfl (Or.inr (by decide)) (?_ : Ex _ _ 96 _ _ _ _ _)
          refine gt_4_0 c1 fl_RX4_12 dX4_cut_96 (?_ : Ex _ _ 99 _ _ _ _ _)
          refine x_bipush dX4_cut_99 kb_11 (by decide) (?_ : Ex _ _ 101 _ _ _ _ _)
          refine x_aload_n dX4_cut_101 rfl rfl (Or.inr (by decide)) (?_ : Ex _ _ 102 _ _ _ _ _)
          refine gt_4_3 c1 fl_RX4_24 dX4_cut_102 (?_ : Ex _ _ 105 _ _ _ _ _)
          refine x_iload_n dX4_cut_105 rfl rfl (?_ : Ex _ _ 106 _ _ _ _ _)
          obtain ⟨⟨c13, c14⟩, h⟩ := chk_some h
          refine ad_8_3 c3 c13 c14 dX4_cut_106 (?_ : Ex _ _ 107 _ _ _ _ _)
          refine gt_8_2 c6 fl_RX4_149 dX4_cut_107 (?_ : Ex _ _ 110 _ _ _ _ _)
          refine x_iconst dX4_cut_110 rfl (by decide) (?_ : Ex _ _ 111 _ _ _ _ _)
          obtain ⟨c15, h⟩ := chk_some h
          obtain ⟨v16, m17, g18, h⟩ := cal_some h
          refine cV3 (e_X1_put d g18) (contV (?_ : Ex _ _ 114 _ _ _ _ _)) og_X1_put rfl ml_RX4_161 1 rfl rfl c15 im_X1_put se_X1_put (Nat.le_of_ble_eq_true rfl) dX4_cut_111
          obtain ⟨c19, h⟩ := chk_some h
          refine x_iinc (ls2 := [(14, l0), (0, (l1 + 1))]) dX4_cut_114 rfl c19 rfl (?_ : Ex _ _ 117 _ _ _ _ _)
          refine x_goto (tgt := 62) dX4_cut_117 rfl (?_ : Ex _ _ 62 _ _ _ _ _)
          exact ih h
        · refine x_if_ne (tgt := 114) dX4_cut_92 rfl b11 (?_ : Ex _ _ 114 _ _ _ _ _)
          obtain ⟨c12, h⟩ := chk_some h
          refine x_iinc (ls2 := [(14, l0), (0, (l1 + 1))]) dX4_cut_114 rfl c12 rfl (?_ : Ex _ _ 117 _ _ _ _ _)
          refine x_goto (tgt := 62) dX4_cut_117 rfl (?_ : Ex _ _ 62 _ _ _ _ _)
          exact ih h
theorem e_X4_cut_2 (d : Nat) {k62 : Int → Int → Mem → Option R2} (hk62 : ∀ {l0 l1 : Int} {m : Mem} {v : Int} {m' : Mem}, k62 l0 l1 m = some (v, m') → Ex (d + 1) fm_X4_cut 62 [(14, l0), (0, l1)] [] m (.inl (3, 0)) m') : ∀ (n : Nat) {l0 l1 : Int} {m : Mem} {v : Int} {m' : Mem}, X4_cut_2 k62 n l0 l1 m = some (v, m') → Ex (d + 1) fm_X4_cut 2 [(14, l0), (0, l1)] [] m (.inl (3, 0)) m' := by
  intro n
  induction n with
  | zero =>
    intro l0 l1 m v m' h
    have h : (none : Option R2) = some _ := h
    cases h
  | succ n ih =>
    intro l0 l1 m v m' h
    rw [X4_cut_2] at h
    refine x_iload_n dX4_cut_2 rfl rfl (?_ : Ex _ _ 3 _ _ _ _ _)
    refine x_aload_n dX4_cut_3 rfl rfl (Or.inr (by decide)) (?_ : Ex _ _ 4 _ _ _ _ _)
    obtain ⟨c1, h⟩ := chk_some h
    refine gt_4_12 c1 fl_RX4_103 dX4_cut_4 (?_ : Ex _ _ 7 _ _ _ _ _)
    rcases ite_some h with ⟨b2, h⟩ | ⟨b2, h⟩
    · refine x_icmp_ge (tgt := 60) dX4_cut_7 rfl b2 (?_ : Ex _ _ 60 _ _ _ _ _)
      refine x_iconst dX4_cut_60 rfl (by decide) (?_ : Ex _ _ 61 _ _ _ _ _)
      refine x_istore_n (ls2 := [(14, l0), (0, 0)]) dX4_cut_61 rfl (Nat.le_of_ble_eq_true rfl) rfl (?_ : Ex _ _ 62 _ _ _ _ _)
      exact hk62 h
    · refine x_icmp_geN dX4_cut_7 (by decide) b2 (?_ : Ex _ _ 10 _ _ _ _ _)
      refine x_aload_n dX4_cut_10 rfl rfl (Or.inr (by decide)) (?_ : Ex _ _ 11 _ _ _ _ _)
      refine gt_4_3 c1 fl_RX4_24 dX4_cut_11 (?_ : Ex _ _ 14 _ _ _ _ _)
      refine x_iload_n dX4_cut_14 rfl rfl (?_ : Ex _ _ 15 _ _ _ _ _)
      obtain ⟨⟨c3, c4, c5⟩, h⟩ := chk_some h
      refine ad_8_3 c3 c4 c5 dX4_cut_15 (?_ : Ex _ _ 16 _ _ _ _ _)
      obtain ⟨c6, h⟩ := chk_some h
      refine gt_8_1 c6 fl_RX4_142 dX4_cut_16 (?_ : Ex _ _ 19 _ _ _ _ _)
      refine x_iconst dX4_cut_19 rfl (by decide) (?_ : Ex _ _ 20 _ _ _ _ _)
      rcases ite_some h with ⟨b7, h⟩ | ⟨b7, h⟩
      · refine x_icmp_eq (tgt := 54) dX4_cut_20 rfl b7 (?_ : Ex _ _ 54 _ _ _ _ _)
        obtain ⟨c8, h⟩ := chk_some h
        refine x_iinc (ls2 := [(14, l0), (0, (l1 + 1))]) dX4_cut_54 rfl c8 rfl (?_ : Ex _ _ 57 _ _ _ _ _)
        refine x_goto (tgt := 2) dX4_cut_57 rfl (?_ : Ex _ _ 2 _ _ _ _ _)
        exact ih h
      · refine x_icmp_eqN dX4_cut_20 (by decide) b7 (?_ : Ex _ _ 23 _ _ _ _ _)
        refine x_aload_n dX4_cut_23 rfl rfl (Or.inr (by decide)) (?_ : Ex _ _ 24 _ _ _ _ _)
        refine gt_4_3 c1 fl_RX4_24 dX4_cut_24 (?_ : Ex _ _ 27 _ _ _ _ _)
        refine x_iload_n dX4_cut_27 rfl rfl (?_ : Ex _ _ 28 _ _ _ _ _)
        obtain ⟨⟨c9, c10⟩, h⟩ := chk_some h
        refine ad_8_3 c3 c9 c10 dX4_cut_28 (?_ : Ex _ _ 29 _ _ _ _ _)
        refine gt_8_6 c6 fl_RX4_152 dX4_cut_29 (?_ : Ex _ _ 32 _ _ _ _ _)
        rcases ite_some h with ⟨b11, h⟩ | ⟨b11, h⟩
        · refine x_if_neN dX4_cut_32 (by decide) (fun hh => hh b11) (?_ : Ex _ _ 35 _ _ _ _ _)
          refine x_aload_n dX4_cut_35 rfl rfl (Or.inr (by decide)) (?_ : Ex _ _ 36 _ _ _ _ _)
          refine gt_4_0 c1 fl_RX4_12 dX4_cut_36 (?_ : Ex _ _ 39 _ _ _ _ _)
          refine x_bipush dX4_cut_39 kb_9 (by decide) (?_ : Ex _ _ 41 _ _ _ _ _)
          refine x_aload_n dX4_cut_41 rfl rfl (Or.inr (by decide)) (?_ : Ex _ _ 42 _ _ _ _ _)
          refine gt_4_3 c1 fl_RX4_24 dX4_cut_42 (?_ : Ex _ _ 45 _ _ _ _ _)
          refine x_iload_n dX4_cut_45 rfl rfl (?_ : Ex _ _ 46 _ _ _ _ _)
          obtain ⟨⟨c13, c14⟩, h⟩ := chk_some h
          refine ad_8_3 c3 c13 c14 dX4_cut_46 (?_ : Ex _ _ 47 _ _ _ _ _)
          refine gt_8_1 c6 fl_RX4_142 dX4_cut_47 (?_ : Ex _ _ 50 _ _ _ _ _)
          refine x_iconst dX4_cut_50 rfl (by decide) (?_ : Ex _ _ 51 _ _ _ _ _)
          obtain ⟨c15, h⟩ := chk_some h
          obtain ⟨v16, m17, g18, h⟩ := cal_some h
          refine cV3 (e_X1_put d g18) (contV (?_ : Ex _ _ 54 _ _ _ _ _)) og_X1_put rfl ml_RX4_161 1 rfl rfl c15 im_X1_put se_X1_put (Nat.le_of_ble_eq_true rfl) dX4_cut_51
          obtain ⟨c19, h⟩ := chk_some h
          refine x_iinc (ls2 := [(14, l0), (0, (l1 + 1))]) dX4_cut_54 rfl c19 rfl (?_ : Ex _ _ 57 _ _ _ _ _)
          refine x_goto (tgt := 2) dX4_cut_57 rfl (?_ : Ex _ _ 2 _ _ _ _ _)
          exact ih h
        · refine x_if_ne (tgt := 54) dX4_cut_32 rfl b11 (?_ : Ex _ _ 54 _ _ _ _ _)
          obtain ⟨c12, h⟩ := chk_some h
          refine x_iinc (ls2 := [(14, l0), (0, (l1 + 1))]) dX4_cut_54 rfl c12 rfl (?_ : Ex _ _ 57 _ _ _ _ _)
          refine x_goto (tgt := 2) dX4_cut_57 rfl (?_ : Ex _ _ 2 _ _ _ _ _)
          exact ih h
theorem e_X4_cut_0 (d : Nat) {l0 : Int} {m : Mem} {v : Int} {m' : Mem} (h : X4_cut_0 l0 m = some (v, m')) : Ex (d + 1) fm_X4_cut 0 [(14, l0), (3, 0)] [] m (.inl (3, 0)) m' := by
  unfold X4_cut_0 at h
  refine x_iconst dX4_cut_0 rfl (by decide) (?_ : Ex _ _ 1 _ _ _ _ _)
  refine x_istore_n (ls2 := [(14, l0), (0, 0)]) dX4_cut_1 rfl (Nat.le_of_ble_eq_true rfl) rfl (?_ : Ex _ _ 2 _ _ _ _ _)
  exact e_X4_cut_2 d (fun h => e_X4_cut_62 d (fun h => e_X4_cut_120 d h) fuel9 h) fuel9 h
theorem e_X4_cut (d : Nat) {a0 : Int} {m : Mem} {v : Int} {m' : Mem} (h : X4_cut a0 m = some (v, m')) : ExM (d + 1) fm_X4_cut [(14, a0)] m (.inl (3, 0)) m' := by
  exact ExM.of (by decide +kernel) (Nat.le_of_ble_eq_true rfl) (cat9 rfl) retV (e_X4_cut_0 d h)
theorem dX4_hearCancel_0 : decode cX4_hearCancel 0 = .ok (.aload_n 0, 1) := by decide +kernel
theorem dX4_hearCancel_1 : decode cX4_hearCancel 1 = .ok (.getfield 43, 3) := by decide +kernel
theorem dX4_hearCancel_4 : decode cX4_hearCancel 4 = .ok (.iconst 1, 1) := by decide +kernel
theorem dX4_hearCancel_5 : decode cX4_hearCancel 5 = .ok (.if_icmp .ne 19, 3) := by decide +kernel
theorem dX4_hearCancel_8 : decode cX4_hearCancel 8 = .ok (.aload_n 0, 1) := by decide +kernel
theorem dX4_hearCancel_9 : decode cX4_hearCancel 9 = .ok (.iconst 1, 1) := by decide +kernel
theorem dX4_hearCancel_10 : decode cX4_hearCancel 10 = .ok (.putfield 112, 3) := by decide +kernel
theorem dX4_hearCancel_13 : decode cX4_hearCancel 13 = .ok (.aload_n 0, 1) := by decide +kernel
theorem dX4_hearCancel_14 : decode cX4_hearCancel 14 = .ok (.getfield 109, 3) := by decide +kernel
theorem dX4_hearCancel_17 : decode cX4_hearCancel 17 = .ok (.ifCond .ne 7, 3) := by decide +kernel
theorem dX4_hearCancel_20 : decode cX4_hearCancel 20 = .ok (.aload_n 0, 1) := by decide +kernel
theorem dX4_hearCancel_21 : decode cX4_hearCancel 21 = .ok (.invokevirtual 167, 3) := by decide +kernel
theorem dX4_hearCancel_24 : decode cX4_hearCancel 24 = .ok (.return_, 1) := by decide +kernel
theorem e_X4_hearCancel_0 (d : Nat) {l0 : Int} {m : Mem} {v : Int} {m' : Mem} (h : X4_hearCancel_0 l0 m = some (v, m')) : Ex (d + 2) fm_X4_hearCancel 0 [(14, l0)] [] m (.inl (3, 0)) m' := by
  unfold X4_hearCancel_0 at h
  refine x_aload_n dX4_hearCancel_0 rfl rfl (Or.inr (by decide)) (?_ : Ex _ _ 1 _ _ _ _ _)
  obtain ⟨c1, h⟩ := chk_some h
  refine gt_4_9 c1 fl_RX4_43 dX4_hearCancel_1 (?_ : Ex _ _ 4 _ _ _ _ _)
  refine x_iconst dX4_hearCancel_4 rfl (by decide) (?_ : Ex _ _ 5 _ _ _ _ _)
  rcases ite_some h with ⟨b2, h⟩ | ⟨b2, h⟩
  · refine x_icmp_neN dX4_hearCancel_5 (by decide) (fun hh => hh b2) (?_ : Ex _ _ 8 _ _ _ _ _)
    refine x_aload_n dX4_hearCancel_8 rfl rfl (Or.inr (by decide)) (?_ : Ex _ _ 9 _ _ _ _ _)
    refine x_iconst dX4_hearCancel_9 rfl (by decide) (?_ : Ex _ _ 10 _ _ _ _ _)
    obtain ⟨m3, hm3, h⟩ := st_some h
    refine pt_4_15  c1 (by decide) fl_RX4_112 dX4_hearCancel_10 (?_ : Ex _ _ 13 _ _ _ _ _)
    rw [← hm3]
    refine x_aload_n dX4_hearCancel_13 rfl rfl (Or.inr (by decide)) (?_ : Ex _ _ 14 _ _ _ _ _)
    refine gt_4_14 c1 fl_RX4_109 dX4_hearCancel_14 (?_ : Ex _ _ 17 _ _ _ _ _)
    rcases ite_some h with ⟨b4, h⟩ | ⟨b4, h⟩
    · refine x_if_neN dX4_hearCancel_17 (by decide) (fun hh => hh b4) (?_ : Ex _ _ 20 _ _ _ _ _)
      refine x_aload_n dX4_hearCancel_20 rfl rfl (Or.inr (by decide)) (?_ : Ex _ _ 21 _ _ _ _ _)
      obtain ⟨v5, m6, g7, h⟩ := cal_some h
      refine cV0 (e_X4_cut d g7) (contV (?_ : Ex _ _ 24 _ _ _ _ _)) og_X4_cut rfl ml_RX4_167 4 rfl rfl c1 im_X4_cut se_X4_cut (Nat.le_of_ble_eq_true rfl) dX4_hearCancel_21
      cases h
      exact x_retv dX4_hearCancel_24
    · refine x_if_ne (tgt := 24) dX4_hearCancel_17 rfl b4 (?_ : Ex _ _ 24 _ _ _ _ _)
      cases h
      exact x_retv dX4_hearCancel_24
  · refine x_icmp_ne (tgt := 24) dX4_hearCancel_5 rfl b2 (?_ : Ex _ _ 24 _ _ _ _ _)
    cases h
    exact x_retv dX4_hearCancel_24
theorem e_X4_hearCancel (d : Nat) {a0 : Int} {m : Mem} {v : Int} {m' : Mem} (h : X4_hearCancel a0 m = some (v, m')) : ExM (d + 2) fm_X4_hearCancel [(14, a0)] m (.inl (3, 0)) m' := by
  exact ExM.of (by decide +kernel) (Nat.le_of_ble_eq_true rfl) (cat9 rfl) retV (e_X4_hearCancel_0 d h)
theorem dX4_hear_0 : decode cX4_hear 0 = .ok (.iload_n 1, 1) := by decide +kernel
theorem dX4_hear_1 : decode cX4_hear 1 = .ok (.tableswitch 103 0 6 #[43, 51, 51, 70, 78, 87, 96], 43) := by decide +kernel
theorem dX4_hear_44 : decode cX4_hear 44 = .ok (.aload_n 0, 1) := by decide +kernel
theorem dX4_hear_45 : decode cX4_hear 45 = .ok (.iload_n 2, 1) := by decide +kernel
theorem dX4_hear_46 : decode cX4_hear 46 = .ok (.putfield 94, 3) := by decide +kernel
theorem dX4_hear_49 : decode cX4_hear 49 = .ok (.goto 55, 3) := by decide +kernel
theorem dX4_hear_52 : decode cX4_hear 52 = .ok (.aload_n 0, 1) := by decide +kernel
theorem dX4_hear_53 : decode cX4_hear 53 = .ok (.iload_n 2, 1) := by decide +kernel
theorem dX4_hear_54 : decode cX4_hear 54 = .ok (.iload_n 3, 1) := by decide +kernel
theorem dX4_hear_55 : decode cX4_hear 55 = .ok (.iload_n 1, 1) := by decide +kernel
theorem dX4_hear_56 : decode cX4_hear 56 = .ok (.iconst 2, 1) := by decide +kernel
theorem dX4_hear_57 : decode cX4_hear 57 = .ok (.if_icmp .ne 7, 3) := by decide +kernel
theorem dX4_hear_60 : decode cX4_hear 60 = .ok (.iconst 1, 1) := by decide +kernel
theorem dX4_hear_61 : decode cX4_hear 61 = .ok (.goto 4, 3) := by decide +kernel
theorem dX4_hear_64 : decode cX4_hear 64 = .ok (.iconst 0, 1) := by decide +kernel
theorem dX4_hear_65 : decode cX4_hear 65 = .ok (.invokevirtual 124, 3) := by decide +kernel
theorem dX4_hear_68 : decode cX4_hear 68 = .ok (.goto 36, 3) := by decide +kernel
theorem dX4_hear_71 : decode cX4_hear 71 = .ok (.aload_n 0, 1) := by decide +kernel
theorem dX4_hear_72 : decode cX4_hear 72 = .ok (.iload_n 2, 1) := by decide +kernel
theorem dX4_hear_73 : decode cX4_hear 73 = .ok (.invokevirtual 128, 3) := by decide +kernel
theorem dX4_hear_76 : decode cX4_hear 76 = .ok (.goto 28, 3) := by decide +kernel
theorem dX4_hear_79 : decode cX4_hear 79 = .ok (.aload_n 0, 1) := by decide +kernel
theorem dX4_hear_80 : decode cX4_hear 80 = .ok (.iload_n 2, 1) := by decide +kernel
theorem dX4_hear_81 : decode cX4_hear 81 = .ok (.iload_n 3, 1) := by decide +kernel
theorem dX4_hear_82 : decode cX4_hear 82 = .ok (.invokevirtual 132, 3) := by decide +kernel
theorem dX4_hear_85 : decode cX4_hear 85 = .ok (.goto 19, 3) := by decide +kernel
theorem dX4_hear_88 : decode cX4_hear 88 = .ok (.aload_n 0, 1) := by decide +kernel
theorem dX4_hear_89 : decode cX4_hear 89 = .ok (.iload_n 2, 1) := by decide +kernel
theorem dX4_hear_90 : decode cX4_hear 90 = .ok (.iload_n 3, 1) := by decide +kernel
theorem dX4_hear_91 : decode cX4_hear 91 = .ok (.invokevirtual 136, 3) := by decide +kernel
theorem dX4_hear_94 : decode cX4_hear 94 = .ok (.goto 10, 3) := by decide +kernel
theorem dX4_hear_97 : decode cX4_hear 97 = .ok (.aload_n 0, 1) := by decide +kernel
theorem dX4_hear_98 : decode cX4_hear 98 = .ok (.invokevirtual 139, 3) := by decide +kernel
theorem dX4_hear_101 : decode cX4_hear 101 = .ok (.goto 3, 3) := by decide +kernel
theorem dX4_hear_104 : decode cX4_hear 104 = .ok (.return_, 1) := by decide +kernel
theorem e_X4_hear_65 (d : Nat) {s0 s1 s2 s3 : Int} {m : Mem} {v : Int} {m' : Mem} (h : X4_hear_65 s0 s1 s2 s3 m = some (v, m')) : Ex (d + 3) fm_X4_hear 65 [(3, 0), (3, 0), (3, 0), (3, 0)] [(0, s0), (0, s1), (0, s2), (14, s3)] m (.inl (3, 0)) m' := by
  unfold X4_hear_65 at h
  obtain ⟨c1, h⟩ := chk_some h
  obtain ⟨v2, m3, g4, h⟩ := cal_some h
  refine cV3 (e_X4_hearActivity (d + 1) g4) (contV (?_ : Ex _ _ 68 _ _ _ _ _)) og_X4_hearActivity rfl ml_RX4_124 4 rfl rfl c1 im_X4_hearActivity se_X4_hearActivity (Nat.le_of_ble_eq_true rfl) dX4_hear_65
  refine x_goto (tgt := 104) dX4_hear_68 rfl (?_ : Ex _ _ 104 _ _ _ _ _)
  cases h
  exact x_retv dX4_hear_104
theorem e_X4_hear_0 (d : Nat) {l0 l1 l2 l3 : Int} {m : Mem} {v : Int} {m' : Mem} (h : X4_hear_0 l0 l1 l2 l3 m = some (v, m')) : Ex (d + 3) fm_X4_hear 0 [(14, l0), (0, l1), (0, l2), (0, l3)] [] m (.inl (3, 0)) m' := by
  unfold X4_hear_0 at h
  refine x_iload_n dX4_hear_0 rfl rfl (?_ : Ex _ _ 1 _ _ _ _ _)
  rcases ite_some h with ⟨b1, h⟩ | ⟨b1, h⟩
  · refine y_tableAt (j := 0) (off := 43) (tgt := 44) b1 dX4_hear_1 (by decide) (by decide) rfl rfl (?_ : Ex _ _ 44 _ _ _ _ _)
    refine x_aload_n dX4_hear_44 rfl rfl (Or.inr (by decide)) (?_ : Ex _ _ 45 _ _ _ _ _)
    refine x_iload_n dX4_hear_45 rfl rfl (?_ : Ex _ _ 46 _ _ _ _ _)
    obtain ⟨c2, h⟩ := chk_some h
    obtain ⟨m3, hm3, h⟩ := st_some h
    refine pt_4_2  c2 fl_RX4_94 dX4_hear_46 (?_ : Ex _ _ 49 _ _ _ _ _)
    rw [← hm3]
    refine x_goto (tgt := 104) dX4_hear_49 rfl (?_ : Ex _ _ 104 _ _ _ _ _)
    cases h
    exact x_retv dX4_hear_104
  rcases ite_some h with ⟨b4, h⟩ | ⟨b4, h⟩
  · refine y_tableAt (j := 1) (off := 51) (tgt := 52) b4 dX4_hear_1 (by decide) (by decide) rfl rfl (?_ : Ex _ _ 52 _ _ _ _ _)
    refine x_aload_n dX4_hear_52 rfl rfl (Or.inr (by decide)) (?_ : Ex _ _ 53 _ _ _ _ _)
    refine x_iload_n dX4_hear_53 rfl rfl (?_ : Ex _ _ 54 _ _ _ _ _)
    refine x_iload_n dX4_hear_54 rfl rfl (?_ : Ex _ _ 55 _ _ _ _ _)
    refine x_iload_n dX4_hear_55 rfl rfl (?_ : Ex _ _ 56 _ _ _ _ _)
    refine x_iconst dX4_hear_56 rfl (by decide) (?_ : Ex _ _ 57 _ _ _ _ _)
    rcases ite_some h with ⟨b5, h⟩ | ⟨b5, h⟩
    · refine x_icmp_neN dX4_hear_57 (by decide) (fun hh => hh b5) (?_ : Ex _ _ 60 _ _ _ _ _)
      refine x_iconst dX4_hear_60 rfl (by decide) (?_ : Ex _ _ 61 _ _ _ _ _)
      refine x_goto (tgt := 65) dX4_hear_61 rfl (?_ : Ex _ _ 65 _ _ _ _ _)
      refine Ex.wk (ls2 := [(3, 0), (3, 0), (3, 0), (3, 0)]) ⟨Or.inl rfl, Or.inl rfl, Or.inl rfl, Or.inl rfl, trivial⟩ ?_
      exact e_X4_hear_65 d h
    · refine x_icmp_ne (tgt := 64) dX4_hear_57 rfl b5 (?_ : Ex _ _ 64 _ _ _ _ _)
      refine x_iconst dX4_hear_64 rfl (by decide) (?_ : Ex _ _ 65 _ _ _ _ _)
      refine Ex.wk (ls2 := [(3, 0), (3, 0), (3, 0), (3, 0)]) ⟨Or.inl rfl, Or.inl rfl, Or.inl rfl, Or.inl rfl, trivial⟩ ?_
      exact e_X4_hear_65 d h
  rcases ite_some h with ⟨b6, h⟩ | ⟨b6, h⟩
  · refine y_tableAt (j := 2) (off := 51) (tgt := 52) b6 dX4_hear_1 (by decide) (by decide) rfl rfl (?_ : Ex _ _ 52 _ _ _ _ _)
    refine x_aload_n dX4_hear_52 rfl rfl (Or.inr (by decide)) (?_ : Ex _ _ 53 _ _ _ _ _)
    refine x_iload_n dX4_hear_53 rfl rfl (?_ : Ex _ _ 54 _ _ _ _ _)
    refine x_iload_n dX4_hear_54 rfl rfl (?_ : Ex _ _ 55 _ _ _ _ _)
    refine x_iload_n dX4_hear_55 rfl rfl (?_ : Ex _ _ 56 _ _ _ _ _)
    refine x_iconst dX4_hear_56 rfl (by decide) (?_ : Ex _ _ 57 _ _ _ _ _)
    rcases ite_some h with ⟨b7, h⟩ | ⟨b7, h⟩
    · refine x_icmp_neN dX4_hear_57 (by decide) (fun hh => hh b7) (?_ : Ex _ _ 60 _ _ _ _ _)
      refine x_iconst dX4_hear_60 rfl (by decide) (?_ : Ex _ _ 61 _ _ _ _ _)
      refine x_goto (tgt := 65) dX4_hear_61 rfl (?_ : Ex _ _ 65 _ _ _ _ _)
      refine Ex.wk (ls2 := [(3, 0), (3, 0), (3, 0), (3, 0)]) ⟨Or.inl rfl, Or.inl rfl, Or.inl rfl, Or.inl rfl, trivial⟩ ?_
      exact e_X4_hear_65 d h
    · refine x_icmp_ne (tgt := 64) dX4_hear_57 rfl b7 (?_ : Ex _ _ 64 _ _ _ _ _)
      refine x_iconst dX4_hear_64 rfl (by decide) (?_ : Ex _ _ 65 _ _ _ _ _)
      refine Ex.wk (ls2 := [(3, 0), (3, 0), (3, 0), (3, 0)]) ⟨Or.inl rfl, Or.inl rfl, Or.inl rfl, Or.inl rfl, trivial⟩ ?_
      exact e_X4_hear_65 d h
  rcases ite_some h with ⟨b8, h⟩ | ⟨b8, h⟩
  · refine y_tableAt (j := 3) (off := 70) (tgt := 71) b8 dX4_hear_1 (by decide) (by decide) rfl rfl (?_ : Ex _ _ 71 _ _ _ _ _)
    refine x_aload_n dX4_hear_71 rfl rfl (Or.inr (by decide)) (?_ : Ex _ _ 72 _ _ _ _ _)
    refine x_iload_n dX4_hear_72 rfl rfl (?_ : Ex _ _ 73 _ _ _ _ _)
    obtain ⟨c9, h⟩ := chk_some h
    obtain ⟨v10, m11, g12, h⟩ := cal_some h
    refine cV1 (e_X4_hearTimer (d + 1) g12) (contV (?_ : Ex _ _ 76 _ _ _ _ _)) og_X4_hearTimer rfl ml_RX4_128 4 rfl rfl c9 im_X4_hearTimer se_X4_hearTimer (Nat.le_of_ble_eq_true rfl) dX4_hear_73
    refine x_goto (tgt := 104) dX4_hear_76 rfl (?_ : Ex _ _ 104 _ _ _ _ _)
    cases h
    exact x_retv dX4_hear_104
  rcases ite_some h with ⟨b13, h⟩ | ⟨b13, h⟩
  · refine y_tableAt (j := 4) (off := 78) (tgt := 79) b13 dX4_hear_1 (by decide) (by decide) rfl rfl (?_ : Ex _ _ 79 _ _ _ _ _)
    refine x_aload_n dX4_hear_79 rfl rfl (Or.inr (by decide)) (?_ : Ex _ _ 80 _ _ _ _ _)
    refine x_iload_n dX4_hear_80 rfl rfl (?_ : Ex _ _ 81 _ _ _ _ _)
    refine x_iload_n dX4_hear_81 rfl rfl (?_ : Ex _ _ 82 _ _ _ _ _)
    obtain ⟨c14, h⟩ := chk_some h
    obtain ⟨v15, m16, g17, h⟩ := cal_some h
    refine cV2 (e_X4_hearSignal (d + 1) g17) (contV (?_ : Ex _ _ 85 _ _ _ _ _)) og_X4_hearSignal rfl ml_RX4_132 4 rfl rfl c14 im_X4_hearSignal se_X4_hearSignal (Nat.le_of_ble_eq_true rfl) dX4_hear_82
    refine x_goto (tgt := 104) dX4_hear_85 rfl (?_ : Ex _ _ 104 _ _ _ _ _)
    cases h
    exact x_retv dX4_hear_104
  rcases ite_some h with ⟨b18, h⟩ | ⟨b18, h⟩
  · refine y_tableAt (j := 5) (off := 87) (tgt := 88) b18 dX4_hear_1 (by decide) (by decide) rfl rfl (?_ : Ex _ _ 88 _ _ _ _ _)
    refine x_aload_n dX4_hear_88 rfl rfl (Or.inr (by decide)) (?_ : Ex _ _ 89 _ _ _ _ _)
    refine x_iload_n dX4_hear_89 rfl rfl (?_ : Ex _ _ 90 _ _ _ _ _)
    refine x_iload_n dX4_hear_90 rfl rfl (?_ : Ex _ _ 91 _ _ _ _ _)
    obtain ⟨c19, h⟩ := chk_some h
    obtain ⟨v20, m21, g22, h⟩ := cal_some h
    refine cV2 (e_X4_hearChild (d + 1) g22) (contV (?_ : Ex _ _ 94 _ _ _ _ _)) og_X4_hearChild rfl ml_RX4_136 4 rfl rfl c19 im_X4_hearChild se_X4_hearChild (Nat.le_of_ble_eq_true rfl) dX4_hear_91
    refine x_goto (tgt := 104) dX4_hear_94 rfl (?_ : Ex _ _ 104 _ _ _ _ _)
    cases h
    exact x_retv dX4_hear_104
  rcases ite_some h with ⟨b23, h⟩ | ⟨b23, h⟩
  · refine y_tableAt (j := 6) (off := 96) (tgt := 97) b23 dX4_hear_1 (by decide) (by decide) rfl rfl (?_ : Ex _ _ 97 _ _ _ _ _)
    refine x_aload_n dX4_hear_97 rfl rfl (Or.inr (by decide)) (?_ : Ex _ _ 98 _ _ _ _ _)
    obtain ⟨c24, h⟩ := chk_some h
    obtain ⟨v25, m26, g27, h⟩ := cal_some h
    refine cV0 (e_X4_hearCancel d g27) (contV (?_ : Ex _ _ 101 _ _ _ _ _)) og_X4_hearCancel rfl ml_RX4_139 4 rfl rfl c24 im_X4_hearCancel se_X4_hearCancel (Nat.le_of_ble_eq_true rfl) dX4_hear_98
    refine x_goto (tgt := 104) dX4_hear_101 rfl (?_ : Ex _ _ 104 _ _ _ _ _)
    cases h
    exact x_retv dX4_hear_104
  refine x_tableOut (tgt := 104) dX4_hear_1 (by omega) rfl (?_ : Ex _ _ 104 _ _ _ _ _)
  cases h
  exact x_retv dX4_hear_104
theorem e_X4_hear (d : Nat) {a0 a1 a2 a3 : Int} {m : Mem} {v : Int} {m' : Mem} (h : X4_hear a0 a1 a2 a3 m = some (v, m')) : ExM (d + 3) fm_X4_hear [(14, a0), (0, a1), (0, a2), (0, a3)] m (.inl (3, 0)) m' := by
  exact ExM.of (by decide +kernel) (Nat.le_of_ble_eq_true rfl) (cat9 rfl) retV (e_X4_hear_0 d h)
theorem dX4_settle_0 : decode cX4_settle 0 = .ok (.aload_n 0, 1) := by decide +kernel
theorem dX4_settle_1 : decode cX4_settle 1 = .ok (.getfield 43, 3) := by decide +kernel
theorem dX4_settle_4 : decode cX4_settle 4 = .ok (.iconst 1, 1) := by decide +kernel
theorem dX4_settle_5 : decode cX4_settle 5 = .ok (.if_icmp .eq 4, 3) := by decide +kernel
theorem dX4_settle_8 : decode cX4_settle 8 = .ok (.return_, 1) := by decide +kernel
theorem dX4_settle_9 : decode cX4_settle 9 = .ok (.iconst 0, 1) := by decide +kernel
theorem dX4_settle_10 : decode cX4_settle 10 = .ok (.istore_n 1, 1) := by decide +kernel
theorem dX4_settle_11 : decode cX4_settle 11 = .ok (.aload_n 0, 1) := by decide +kernel
theorem dX4_settle_12 : decode cX4_settle 12 = .ok (.getfield 94, 3) := by decide +kernel
theorem dX4_settle_15 : decode cX4_settle 15 = .ok (.istore_n 2, 1) := by decide +kernel
theorem dX4_settle_16 : decode cX4_settle 16 = .ok (.iconst 0, 1) := by decide +kernel
theorem dX4_settle_17 : decode cX4_settle 17 = .ok (.istore_n 3, 1) := by decide +kernel
theorem dX4_settle_18 : decode cX4_settle 18 = .ok (.iload_n 3, 1) := by decide +kernel
theorem dX4_settle_19 : decode cX4_settle 19 = .ok (.aload_n 0, 1) := by decide +kernel
theorem dX4_settle_20 : decode cX4_settle 20 = .ok (.getfield 103, 3) := by decide +kernel
theorem dX4_settle_23 : decode cX4_settle 23 = .ok (.if_icmp .ge 54, 3) := by decide +kernel
theorem dX4_settle_26 : decode cX4_settle 26 = .ok (.aload_n 0, 1) := by decide +kernel
theorem dX4_settle_27 : decode cX4_settle 27 = .ok (.getfield 24, 3) := by decide +kernel
theorem dX4_settle_30 : decode cX4_settle 30 = .ok (.iload_n 3, 1) := by decide +kernel
theorem dX4_settle_31 : decode cX4_settle 31 = .ok (.aaload, 1) := by decide +kernel
theorem dX4_settle_32 : decode cX4_settle 32 = .ok (.astore 4, 2) := by decide +kernel
theorem dX4_settle_34 : decode cX4_settle 34 = .ok (.aload 4, 2) := by decide +kernel
theorem dX4_settle_36 : decode cX4_settle 36 = .ok (.getfield 152, 3) := by decide +kernel
theorem dX4_settle_39 : decode cX4_settle 39 = .ok (.ifCond .ne 4, 3) := by decide +kernel
theorem dX4_settle_42 : decode cX4_settle 42 = .ok (.return_, 1) := by decide +kernel
theorem dX4_settle_43 : decode cX4_settle 43 = .ok (.aload 4, 2) := by decide +kernel
theorem dX4_settle_45 : decode cX4_settle 45 = .ok (.getfield 202, 3) := by decide +kernel
theorem dX4_settle_48 : decode cX4_settle 48 = .ok (.ifCond .eq 8, 3) := by decide +kernel
theorem dX4_settle_51 : decode cX4_settle 51 = .ok (.iconst 1, 1) := by decide +kernel
theorem dX4_settle_52 : decode cX4_settle 52 = .ok (.istore_n 1, 1) := by decide +kernel
theorem dX4_settle_53 : decode cX4_settle 53 = .ok (.goto 18, 3) := by decide +kernel
theorem dX4_settle_56 : decode cX4_settle 56 = .ok (.aload 4, 2) := by decide +kernel
theorem dX4_settle_58 : decode cX4_settle 58 = .ok (.getfield 205, 3) := by decide +kernel
theorem dX4_settle_61 : decode cX4_settle 61 = .ok (.iconst 1, 1) := by decide +kernel
theorem dX4_settle_62 : decode cX4_settle 62 = .ok (.if_icmp .eq 9, 3) := by decide +kernel
theorem dX4_settle_65 : decode cX4_settle 65 = .ok (.aload 4, 2) := by decide +kernel
theorem dX4_settle_67 : decode cX4_settle 67 = .ok (.getfield 208, 3) := by decide +kernel
theorem dX4_settle_70 : decode cX4_settle 70 = .ok (.istore_n 2, 1) := by decide +kernel
theorem dX4_settle_71 : decode cX4_settle 71 = .ok (.iinc 3 1, 3) := by decide +kernel
theorem dX4_settle_74 : decode cX4_settle 74 = .ok (.goto (-56), 3) := by decide +kernel
theorem dX4_settle_77 : decode cX4_settle 77 = .ok (.aload_n 0, 1) := by decide +kernel
theorem dX4_settle_78 : decode cX4_settle 78 = .ok (.iload_n 2, 1) := by decide +kernel
theorem dX4_settle_79 : decode cX4_settle 79 = .ok (.putfield 94, 3) := by decide +kernel
theorem dX4_settle_82 : decode cX4_settle 82 = .ok (.iload_n 1, 1) := by decide +kernel
theorem dX4_settle_83 : decode cX4_settle 83 = .ok (.ifCond .eq 11, 3) := by decide +kernel
theorem dX4_settle_86 : decode cX4_settle 86 = .ok (.aload_n 0, 1) := by decide +kernel
theorem dX4_settle_87 : decode cX4_settle 87 = .ok (.iconst 1, 1) := by decide +kernel
theorem dX4_settle_88 : decode cX4_settle 88 = .ok (.invokevirtual 170, 3) := by decide +kernel
theorem dX4_settle_91 : decode cX4_settle 91 = .ok (.goto 21, 3) := by decide +kernel
theorem dX4_settle_94 : decode cX4_settle 94 = .ok (.aload_n 0, 1) := by decide +kernel
theorem dX4_settle_95 : decode cX4_settle 95 = .ok (.iconst 0, 1) := by decide +kernel
theorem dX4_settle_96 : decode cX4_settle 96 = .ok (.putfield 103, 3) := by decide +kernel
theorem dX4_settle_99 : decode cX4_settle 99 = .ok (.aload_n 0, 1) := by decide +kernel
theorem dX4_settle_100 : decode cX4_settle 100 = .ok (.aload_n 0, 1) := by decide +kernel
theorem dX4_settle_101 : decode cX4_settle 101 = .ok (.getfield 100, 3) := by decide +kernel
theorem dX4_settle_104 : decode cX4_settle 104 = .ok (.putfield 47, 3) := by decide +kernel
theorem dX4_settle_107 : decode cX4_settle 107 = .ok (.aload_n 0, 1) := by decide +kernel
theorem dX4_settle_108 : decode cX4_settle 108 = .ok (.iconst 0, 1) := by decide +kernel
theorem dX4_settle_109 : decode cX4_settle 109 = .ok (.putfield 43, 3) := by decide +kernel
theorem dX4_settle_112 : decode cX4_settle 112 = .ok (.return_, 1) := by decide +kernel
theorem e_X4_settle_77 (d : Nat) {l0 l1 l2 : Int} {m : Mem} {v : Int} {m' : Mem} (h : X4_settle_77 l0 l1 l2 m = some (v, m')) : Ex (d + 1) fm_X4_settle 77 [(14, l0), (0, l1), (0, l2), (3, 0), (3, 0)] [] m (.inl (3, 0)) m' := by
  unfold X4_settle_77 at h
  refine x_aload_n dX4_settle_77 rfl rfl (Or.inr (by decide)) (?_ : Ex _ _ 78 _ _ _ _ _)
  refine x_iload_n dX4_settle_78 rfl rfl (?_ : Ex _ _ 79 _ _ _ _ _)
  obtain ⟨c1, h⟩ := chk_some h
  obtain ⟨m2, hm2, h⟩ := st_some h
  refine pt_4_2  c1 fl_RX4_94 dX4_settle_79 (?_ : Ex _ _ 82 _ _ _ _ _)
  rw [← hm2]
  refine x_iload_n dX4_settle_82 rfl rfl (?_ : Ex _ _ 83 _ _ _ _ _)
  rcases ite_some h with ⟨b3, h⟩ | ⟨b3, h⟩
  · refine x_if_eq (tgt := 94) dX4_settle_83 rfl b3 (?_ : Ex _ _ 94 _ _ _ _ _)
    refine x_aload_n dX4_settle_94 rfl rfl (Or.inr (by decide)) (?_ : Ex _ _ 95 _ _ _ _ _)
    refine x_iconst dX4_settle_95 rfl (by decide) (?_ : Ex _ _ 96 _ _ _ _ _)
    obtain ⟨m4, hm4, h⟩ := st_some h
    refine pt_4_12  c1 fl_RX4_103 dX4_settle_96 (?_ : Ex _ _ 99 _ _ _ _ _)
    rw [← hm4]
    refine x_aload_n dX4_settle_99 rfl rfl (Or.inr (by decide)) (?_ : Ex _ _ 100 _ _ _ _ _)
    refine x_aload_n dX4_settle_100 rfl rfl (Or.inr (by decide)) (?_ : Ex _ _ 101 _ _ _ _ _)
    refine gt_4_11 c1 fl_RX4_100 dX4_settle_101 (?_ : Ex _ _ 104 _ _ _ _ _)
    obtain ⟨m5, hm5, h⟩ := st_some h
    refine pt_4_10  c1 fl_RX4_47 dX4_settle_104 (?_ : Ex _ _ 107 _ _ _ _ _)
    rw [← hm5]
    refine x_aload_n dX4_settle_107 rfl rfl (Or.inr (by decide)) (?_ : Ex _ _ 108 _ _ _ _ _)
    refine x_iconst dX4_settle_108 rfl (by decide) (?_ : Ex _ _ 109 _ _ _ _ _)
    obtain ⟨m6, hm6, h⟩ := st_some h
    refine pt_4_9  c1 fl_RX4_43 dX4_settle_109 (?_ : Ex _ _ 112 _ _ _ _ _)
    rw [← hm6]
    cases h
    exact x_retv dX4_settle_112
  · refine x_if_eqN dX4_settle_83 (by decide) b3 (?_ : Ex _ _ 86 _ _ _ _ _)
    refine x_aload_n dX4_settle_86 rfl rfl (Or.inr (by decide)) (?_ : Ex _ _ 87 _ _ _ _ _)
    refine x_iconst dX4_settle_87 rfl (by decide) (?_ : Ex _ _ 88 _ _ _ _ _)
    obtain ⟨v7, m8, g9, h⟩ := cal_some h
    refine cV1 (e_X4_backOut d g9) (contV (?_ : Ex _ _ 91 _ _ _ _ _)) og_X4_backOut rfl ml_RX4_170 4 rfl rfl c1 im_X4_backOut se_X4_backOut (Nat.le_of_ble_eq_true rfl) dX4_settle_88
    refine x_goto (tgt := 112) dX4_settle_91 rfl (?_ : Ex _ _ 112 _ _ _ _ _)
    cases h
    exact x_retv dX4_settle_112
theorem e_X4_settle_18 (d : Nat) {k77 : Int → Int → Int → Mem → Option R2} (hk77 : ∀ {l0 l1 l2 : Int} {m : Mem} {v : Int} {m' : Mem}, k77 l0 l1 l2 m = some (v, m') → Ex (d + 1) fm_X4_settle 77 [(14, l0), (0, l1), (0, l2), (3, 0), (3, 0)] [] m (.inl (3, 0)) m') : ∀ (n : Nat) {l0 l1 l2 l3 : Int} {m : Mem} {v : Int} {m' : Mem}, X4_settle_18 k77 n l0 l1 l2 l3 m = some (v, m') → Ex (d + 1) fm_X4_settle 18 [(14, l0), (0, l1), (0, l2), (0, l3), (3, 0)] [] m (.inl (3, 0)) m' := by
  intro n
  induction n with
  | zero =>
    intro l0 l1 l2 l3 m v m' h
    have h : (none : Option R2) = some _ := h
    cases h
  | succ n ih =>
    intro l0 l1 l2 l3 m v m' h
    rw [X4_settle_18] at h
    refine x_iload_n dX4_settle_18 rfl rfl (?_ : Ex _ _ 19 _ _ _ _ _)
    refine x_aload_n dX4_settle_19 rfl rfl (Or.inr (by decide)) (?_ : Ex _ _ 20 _ _ _ _ _)
    obtain ⟨c1, h⟩ := chk_some h
    refine gt_4_12 c1 fl_RX4_103 dX4_settle_20 (?_ : Ex _ _ 23 _ _ _ _ _)
    rcases ite_some h with ⟨b2, h⟩ | ⟨b2, h⟩
    · refine x_icmp_ge (tgt := 77) dX4_settle_23 rfl b2 (?_ : Ex _ _ 77 _ _ _ _ _)
      refine Ex.wk (ls2 := [(14, l0), (0, l1), (0, l2), (3, 0), (3, 0)]) ⟨Or.inr rfl, Or.inr rfl, Or.inr rfl, Or.inl rfl, Or.inl rfl, trivial⟩ ?_
      exact hk77 h
    · refine x_icmp_geN dX4_settle_23 (by decide) b2 (?_ : Ex _ _ 26 _ _ _ _ _)
      refine x_aload_n dX4_settle_26 rfl rfl (Or.inr (by decide)) (?_ : Ex _ _ 27 _ _ _ _ _)
      refine gt_4_3 c1 fl_RX4_24 dX4_settle_27 (?_ : Ex _ _ 30 _ _ _ _ _)
      refine x_iload_n dX4_settle_30 rfl rfl (?_ : Ex _ _ 31 _ _ _ _ _)
      obtain ⟨⟨c3, c4, c5⟩, h⟩ := chk_some h
      refine ad_8_3 c3 c4 c5 dX4_settle_31 (?_ : Ex _ _ 32 _ _ _ _ _)
      refine x_astore (ls2 := [(14, l0), (0, l1), (0, l2), (0, l3), (18, m (m l0 3) l3)]) dX4_settle_32 (Nat.le_of_ble_eq_true rfl) (Or.inr (by decide)) rfl (?_ : Ex _ _ 34 _ _ _ _ _)
      refine x_aload dX4_settle_34 rfl (Or.inr (by decide)) (?_ : Ex _ _ 36 _ _ _ _ _)
      obtain ⟨c6, h⟩ := chk_some h
      refine gt_8_6 c6 fl_RX4_152 dX4_settle_36 (?_ : Ex _ _ 39 _ _ _ _ _)
      rcases ite_some h with ⟨b7, h⟩ | ⟨b7, h⟩
      · refine x_if_neN dX4_settle_39 (by decide) (fun hh => hh b7) (?_ : Ex _ _ 42 _ _ _ _ _)
        cases h
        exact x_retv dX4_settle_42
      · refine x_if_ne (tgt := 43) dX4_settle_39 rfl b7 (?_ : Ex _ _ 43 _ _ _ _ _)
        refine x_aload dX4_settle_43 rfl (Or.inr (by decide)) (?_ : Ex _ _ 45 _ _ _ _ _)
        refine gt_8_7 c6 fl_RX4_202 dX4_settle_45 (?_ : Ex _ _ 48 _ _ _ _ _)
        rcases ite_some h with ⟨b8, h⟩ | ⟨b8, h⟩
        · refine x_if_eq (tgt := 56) dX4_settle_48 rfl b8 (?_ : Ex _ _ 56 _ _ _ _ _)
          refine x_aload dX4_settle_56 rfl (Or.inr (by decide)) (?_ : Ex _ _ 58 _ _ _ _ _)
          refine gt_8_0 c6 fl_RX4_205 dX4_settle_58 (?_ : Ex _ _ 61 _ _ _ _ _)
          refine x_iconst dX4_settle_61 rfl (by decide) (?_ : Ex _ _ 62 _ _ _ _ _)
          rcases ite_some h with ⟨b9, h⟩ | ⟨b9, h⟩
          · refine x_icmp_eq (tgt := 71) dX4_settle_62 rfl b9 (?_ : Ex _ _ 71 _ _ _ _ _)
            obtain ⟨c10, h⟩ := chk_some h
            refine x_iinc (ls2 := [(14, l0), (0, l1), (0, l2), (0, (l3 + 1)), (18, m (m l0 3) l3)]) dX4_settle_71 rfl c10 rfl (?_ : Ex _ _ 74 _ _ _ _ _)
            refine x_goto (tgt := 18) dX4_settle_74 rfl (?_ : Ex _ _ 18 _ _ _ _ _)
            refine Ex.wk (ls2 := [(14, l0), (0, l1), (0, l2), (0, (l3 + 1)), (3, 0)]) ⟨Or.inr rfl, Or.inr rfl, Or.inr rfl, Or.inr rfl, Or.inl rfl, trivial⟩ ?_
            exact ih h
          · refine x_icmp_eqN dX4_settle_62 (by decide) b9 (?_ : Ex _ _ 65 _ _ _ _ _)
            refine x_aload dX4_settle_65 rfl (Or.inr (by decide)) (?_ : Ex _ _ 67 _ _ _ _ _)
            refine gt_8_5 c6 fl_RX4_208 dX4_settle_67 (?_ : Ex _ _ 70 _ _ _ _ _)
            refine x_istore_n (ls2 := [(14, l0), (0, l1), (0, m (m (m l0 3) l3) 5), (0, l3), (18, m (m l0 3) l3)]) dX4_settle_70 rfl (Nat.le_of_ble_eq_true rfl) rfl (?_ : Ex _ _ 71 _ _ _ _ _)
            obtain ⟨c11, h⟩ := chk_some h
            refine x_iinc (ls2 := [(14, l0), (0, l1), (0, m (m (m l0 3) l3) 5), (0, (l3 + 1)), (18, m (m l0 3) l3)]) dX4_settle_71 rfl c11 rfl (?_ : Ex _ _ 74 _ _ _ _ _)
            refine x_goto (tgt := 18) dX4_settle_74 rfl (?_ : Ex _ _ 18 _ _ _ _ _)
            refine Ex.wk (ls2 := [(14, l0), (0, l1), (0, m (m (m l0 3) l3) 5), (0, (l3 + 1)), (3, 0)]) ⟨Or.inr rfl, Or.inr rfl, Or.inr rfl, Or.inr rfl, Or.inl rfl, trivial⟩ ?_
            exact ih h
        · refine x_if_eqN dX4_settle_48 (by decide) b8 (?_ : Ex _ _ 51 _ _ _ _ _)
          refine x_iconst dX4_settle_51 rfl (by decide) (?_ : Ex _ _ 52 _ _ _ _ _)
          refine x_istore_n (ls2 := [(14, l0), (0, 1), (0, l2), (0, l3), (18, m (m l0 3) l3)]) dX4_settle_52 rfl (Nat.le_of_ble_eq_true rfl) rfl (?_ : Ex _ _ 53 _ _ _ _ _)
          refine x_goto (tgt := 71) dX4_settle_53 rfl (?_ : Ex _ _ 71 _ _ _ _ _)
          obtain ⟨c12, h⟩ := chk_some h
          refine x_iinc (ls2 := [(14, l0), (0, 1), (0, l2), (0, (l3 + 1)), (18, m (m l0 3) l3)]) dX4_settle_71 rfl c12 rfl (?_ : Ex _ _ 74 _ _ _ _ _)
          refine x_goto (tgt := 18) dX4_settle_74 rfl (?_ : Ex _ _ 18 _ _ _ _ _)
          refine Ex.wk (ls2 := [(14, l0), (0, 1), (0, l2), (0, (l3 + 1)), (3, 0)]) ⟨Or.inr rfl, Or.inr rfl, Or.inr rfl, Or.inr rfl, Or.inl rfl, trivial⟩ ?_
          exact ih h
theorem e_X4_settle_0 (d : Nat) {l0 : Int} {m : Mem} {v : Int} {m' : Mem} (h : X4_settle_0 l0 m = some (v, m')) : Ex (d + 1) fm_X4_settle 0 [(14, l0), (3, 0), (3, 0), (3, 0), (3, 0)] [] m (.inl (3, 0)) m' := by
  unfold X4_settle_0 at h
  refine x_aload_n dX4_settle_0 rfl rfl (Or.inr (by decide)) (?_ : Ex _ _ 1 _ _ _ _ _)
  obtain ⟨c1, h⟩ := chk_some h
  refine gt_4_9 c1 fl_RX4_43 dX4_settle_1 (?_ : Ex _ _ 4 _ _ _ _ _)
  refine x_iconst dX4_settle_4 rfl (by decide) (?_ : Ex _ _ 5 _ _ _ _ _)
  rcases ite_some h with ⟨b2, h⟩ | ⟨b2, h⟩
  · refine x_icmp_eq (tgt := 9) dX4_settle_5 rfl b2 (?_ : Ex _ _ 9 _ _ _ _ _)
    refine x_iconst dX4_settle_9 rfl (by decide) (?_ : Ex _ _ 10 _ _ _ _ _)
    refine x_istore_n (ls2 := [(14, l0), (0, 0), (3, 0), (3, 0), (3, 0)]) dX4_settle_10 rfl (Nat.le_of_ble_eq_true rfl) rfl (?_ : Ex _ _ 11 _ _ _ _ _)
    refine x_aload_n dX4_settle_11 rfl rfl (Or.inr (by decide)) (?_ : Ex _ _ 12 _ _ _ _ _)
    refine gt_4_2 c1 fl_RX4_94 dX4_settle_12 (?_ : Ex _ _ 15 _ _ _ _ _)
    refine x_istore_n (ls2 := [(14, l0), (0, 0), (0, m l0 2), (3, 0), (3, 0)]) dX4_settle_15 rfl (Nat.le_of_ble_eq_true rfl) rfl (?_ : Ex _ _ 16 _ _ _ _ _)
    refine x_iconst dX4_settle_16 rfl (by decide) (?_ : Ex _ _ 17 _ _ _ _ _)
    refine x_istore_n (ls2 := [(14, l0), (0, 0), (0, m l0 2), (0, 0), (3, 0)]) dX4_settle_17 rfl (Nat.le_of_ble_eq_true rfl) rfl (?_ : Ex _ _ 18 _ _ _ _ _)
    exact e_X4_settle_18 d (fun h => e_X4_settle_77 d h) fuel9 h
  · refine x_icmp_eqN dX4_settle_5 (by decide) b2 (?_ : Ex _ _ 8 _ _ _ _ _)
    cases h
    exact x_retv dX4_settle_8
theorem e_X4_settle (d : Nat) {a0 : Int} {m : Mem} {v : Int} {m' : Mem} (h : X4_settle a0 m = some (v, m')) : ExM (d + 1) fm_X4_settle [(14, a0)] m (.inl (3, 0)) m' := by
  exact ExM.of (by decide +kernel) (Nat.le_of_ble_eq_true rfl) (cat9 rfl) retV (e_X4_settle_0 d h)
theorem dX4_isMoving_0 : decode cX4_isMoving 0 = .ok (.aload_n 0, 1) := by decide +kernel
theorem dX4_isMoving_1 : decode cX4_isMoving 1 = .ok (.getfield 12, 3) := by decide +kernel
theorem dX4_isMoving_4 : decode cX4_isMoving 4 = .ok (.getfield 59, 3) := by decide +kernel
theorem dX4_isMoving_7 : decode cX4_isMoving 7 = .ok (.ifCond .ne 22, 3) := by decide +kernel
theorem dX4_isMoving_10 : decode cX4_isMoving 10 = .ok (.aload_n 0, 1) := by decide +kernel
theorem dX4_isMoving_11 : decode cX4_isMoving 11 = .ok (.getfield 43, 3) := by decide +kernel
theorem dX4_isMoving_14 : decode cX4_isMoving 14 = .ok (.ifCond .eq 11, 3) := by decide +kernel
theorem dX4_isMoving_17 : decode cX4_isMoving 17 = .ok (.aload_n 0, 1) := by decide +kernel
theorem dX4_isMoving_18 : decode cX4_isMoving 18 = .ok (.getfield 43, 3) := by decide +kernel
theorem dX4_isMoving_21 : decode cX4_isMoving 21 = .ok (.iconst 2, 1) := by decide +kernel
theorem dX4_isMoving_22 : decode cX4_isMoving 22 = .ok (.if_icmp .ne 7, 3) := by decide +kernel
theorem dX4_isMoving_25 : decode cX4_isMoving 25 = .ok (.iconst 1, 1) := by decide +kernel
theorem dX4_isMoving_26 : decode cX4_isMoving 26 = .ok (.goto 4, 3) := by decide +kernel
theorem dX4_isMoving_29 : decode cX4_isMoving 29 = .ok (.iconst 0, 1) := by decide +kernel
theorem dX4_isMoving_30 : decode cX4_isMoving 30 = .ok (.ireturn, 1) := by decide +kernel
theorem e_X4_isMoving_0 (d : Nat) {l0 : Int} {m : Mem} {v : Int} {m' : Mem} (h : X4_isMoving_0 l0 m = some (v, m')) : Ex d fm_X4_isMoving 0 [(14, l0)] [] m (.inl (0, v)) m' := by
  unfold X4_isMoving_0 at h
  refine x_aload_n dX4_isMoving_0 rfl rfl (Or.inr (by decide)) (?_ : Ex _ _ 1 _ _ _ _ _)
  obtain ⟨c1, h⟩ := chk_some h
  refine gt_4_0 c1 fl_RX4_12 dX4_isMoving_1 (?_ : Ex _ _ 4 _ _ _ _ _)
  obtain ⟨c2, h⟩ := chk_some h
  refine gt_1_8 c2 fl_RX4_59 dX4_isMoving_4 (?_ : Ex _ _ 7 _ _ _ _ _)
  rcases ite_some h with ⟨b3, h⟩ | ⟨b3, h⟩
  · refine x_if_neN dX4_isMoving_7 (by decide) (fun hh => hh b3) (?_ : Ex _ _ 10 _ _ _ _ _)
    refine x_aload_n dX4_isMoving_10 rfl rfl (Or.inr (by decide)) (?_ : Ex _ _ 11 _ _ _ _ _)
    refine gt_4_9 c1 fl_RX4_43 dX4_isMoving_11 (?_ : Ex _ _ 14 _ _ _ _ _)
    rcases ite_some h with ⟨b4, h⟩ | ⟨b4, h⟩
    · refine x_if_eq (tgt := 25) dX4_isMoving_14 rfl b4 (?_ : Ex _ _ 25 _ _ _ _ _)
      refine x_iconst dX4_isMoving_25 rfl (by decide) (?_ : Ex _ _ 26 _ _ _ _ _)
      refine x_goto (tgt := 30) dX4_isMoving_26 rfl (?_ : Ex _ _ 30 _ _ _ _ _)
      cases h
      exact x_ret dX4_isMoving_30 (by decide : (0 : Int) ≠ 3)
    · refine x_if_eqN dX4_isMoving_14 (by decide) b4 (?_ : Ex _ _ 17 _ _ _ _ _)
      refine x_aload_n dX4_isMoving_17 rfl rfl (Or.inr (by decide)) (?_ : Ex _ _ 18 _ _ _ _ _)
      refine gt_4_9 c1 fl_RX4_43 dX4_isMoving_18 (?_ : Ex _ _ 21 _ _ _ _ _)
      refine x_iconst dX4_isMoving_21 rfl (by decide) (?_ : Ex _ _ 22 _ _ _ _ _)
      rcases ite_some h with ⟨b5, h⟩ | ⟨b5, h⟩
      · refine x_icmp_neN dX4_isMoving_22 (by decide) (fun hh => hh b5) (?_ : Ex _ _ 25 _ _ _ _ _)
        refine x_iconst dX4_isMoving_25 rfl (by decide) (?_ : Ex _ _ 26 _ _ _ _ _)
        refine x_goto (tgt := 30) dX4_isMoving_26 rfl (?_ : Ex _ _ 30 _ _ _ _ _)
        cases h
        exact x_ret dX4_isMoving_30 (by decide : (0 : Int) ≠ 3)
      · refine x_icmp_ne (tgt := 29) dX4_isMoving_22 rfl b5 (?_ : Ex _ _ 29 _ _ _ _ _)
        refine x_iconst dX4_isMoving_29 rfl (by decide) (?_ : Ex _ _ 30 _ _ _ _ _)
        cases h
        exact x_ret dX4_isMoving_30 (by decide : (0 : Int) ≠ 3)
  · refine x_if_ne (tgt := 29) dX4_isMoving_7 rfl b3 (?_ : Ex _ _ 29 _ _ _ _ _)
    refine x_iconst dX4_isMoving_29 rfl (by decide) (?_ : Ex _ _ 30 _ _ _ _ _)
    cases h
    exact x_ret dX4_isMoving_30 (by decide : (0 : Int) ≠ 3)
theorem e_X4_isMoving (d : Nat) {a0 : Int} {m : Mem} {v : Int} {m' : Mem} (h : X4_isMoving a0 m = some (v, m')) : ExM d fm_X4_isMoving [(14, a0)] m (.inl (0, v)) m' := by
  obtain ⟨hb, h⟩ := boolR_some h
  exact ExM.of (by decide +kernel) (Nat.le_of_ble_eq_true rfl) (cat9 rfl) (retZ hb) (e_X4_isMoving_0 d h)
theorem dX4_finish_0 : decode cX4_finish 0 = .ok (.aload_n 0, 1) := by decide +kernel
theorem dX4_finish_1 : decode cX4_finish 1 = .ok (.getfield 12, 3) := by decide +kernel
theorem dX4_finish_4 : decode cX4_finish 4 = .ok (.bipush 16, 2) := by decide +kernel
theorem dX4_finish_6 : decode cX4_finish 6 = .ok (.iload_n 1, 1) := by decide +kernel
theorem dX4_finish_7 : decode cX4_finish 7 = .ok (.iload_n 2, 1) := by decide +kernel
theorem dX4_finish_8 : decode cX4_finish 8 = .ok (.invokevirtual 161, 3) := by decide +kernel
theorem dX4_finish_11 : decode cX4_finish 11 = .ok (.aload_n 0, 1) := by decide +kernel
theorem dX4_finish_12 : decode cX4_finish 12 = .ok (.iconst 4, 1) := by decide +kernel
theorem dX4_finish_13 : decode cX4_finish 13 = .ok (.putfield 43, 3) := by decide +kernel
theorem dX4_finish_16 : decode cX4_finish 16 = .ok (.return_, 1) := by decide +kernel
theorem e_X4_finish_0 (d : Nat) {l0 l1 l2 : Int} {m : Mem} {v : Int} {m' : Mem} (h : X4_finish_0 l0 l1 l2 m = some (v, m')) : Ex (d + 1) fm_X4_finish 0 [(14, l0), (0, l1), (0, l2)] [] m (.inl (3, 0)) m' := by
  unfold X4_finish_0 at h
  refine x_aload_n dX4_finish_0 rfl rfl (Or.inr (by decide)) (?_ : Ex _ _ 1 _ _ _ _ _)
  obtain ⟨c1, h⟩ := chk_some h
  refine gt_4_0 c1 fl_RX4_12 dX4_finish_1 (?_ : Ex _ _ 4 _ _ _ _ _)
  refine x_bipush dX4_finish_4 kb_16 (by decide) (?_ : Ex _ _ 6 _ _ _ _ _)
  refine x_iload_n dX4_finish_6 rfl rfl (?_ : Ex _ _ 7 _ _ _ _ _)
  refine x_iload_n dX4_finish_7 rfl rfl (?_ : Ex _ _ 8 _ _ _ _ _)
  obtain ⟨c2, h⟩ := chk_some h
  obtain ⟨v3, m4, g5, h⟩ := cal_some h
  refine cV3 (e_X1_put d g5) (contV (?_ : Ex _ _ 11 _ _ _ _ _)) og_X1_put rfl ml_RX4_161 1 rfl rfl c2 im_X1_put se_X1_put (Nat.le_of_ble_eq_true rfl) dX4_finish_8
  refine x_aload_n dX4_finish_11 rfl rfl (Or.inr (by decide)) (?_ : Ex _ _ 12 _ _ _ _ _)
  refine x_iconst dX4_finish_12 rfl (by decide) (?_ : Ex _ _ 13 _ _ _ _ _)
  obtain ⟨m6, hm6, h⟩ := st_some h
  refine pt_4_9  c1 fl_RX4_43 dX4_finish_13 (?_ : Ex _ _ 16 _ _ _ _ _)
  rw [← hm6]
  cases h
  exact x_retv dX4_finish_16
theorem e_X4_finish (d : Nat) {a0 a1 a2 : Int} {m : Mem} {v : Int} {m' : Mem} (h : X4_finish a0 a1 a2 m = some (v, m')) : ExM (d + 1) fm_X4_finish [(14, a0), (0, a1), (0, a2)] m (.inl (3, 0)) m' := by
  exact ExM.of (by decide +kernel) (Nat.le_of_ble_eq_true rfl) (cat9 rfl) retV (e_X4_finish_0 d h)
theorem dX4_undoNext_0 : decode cX4_undoNext 0 = .ok (.aload_n 0, 1) := by decide +kernel
theorem dX4_undoNext_1 : decode cX4_undoNext 1 = .ok (.getfield 115, 3) := by decide +kernel
theorem dX4_undoNext_4 : decode cX4_undoNext 4 = .ok (.ifCond .le 61, 3) := by decide +kernel
theorem dX4_undoNext_7 : decode cX4_undoNext 7 = .ok (.aload_n 0, 1) := by decide +kernel
theorem dX4_undoNext_8 : decode cX4_undoNext 8 = .ok (.dup, 1) := by decide +kernel
theorem dX4_undoNext_9 : decode cX4_undoNext 9 = .ok (.getfield 115, 3) := by decide +kernel
theorem dX4_undoNext_12 : decode cX4_undoNext 12 = .ok (.iconst 1, 1) := by decide +kernel
theorem dX4_undoNext_13 : decode cX4_undoNext 13 = .ok (.isub, 1) := by decide +kernel
theorem dX4_undoNext_14 : decode cX4_undoNext 14 = .ok (.putfield 115, 3) := by decide +kernel
theorem dX4_undoNext_17 : decode cX4_undoNext 17 = .ok (.aload_n 0, 1) := by decide +kernel
theorem dX4_undoNext_18 : decode cX4_undoNext 18 = .ok (.getfield 115, 3) := by decide +kernel
theorem dX4_undoNext_21 : decode cX4_undoNext 21 = .ok (.bipush 80, 2) := by decide +kernel
theorem dX4_undoNext_23 : decode cX4_undoNext 23 = .ok (.irem, 1) := by decide +kernel
theorem dX4_undoNext_24 : decode cX4_undoNext 24 = .ok (.istore_n 1, 1) := by decide +kernel
theorem dX4_undoNext_25 : decode cX4_undoNext 25 = .ok (.aload_n 0, 1) := by decide +kernel
theorem dX4_undoNext_26 : decode cX4_undoNext 26 = .ok (.aload_n 0, 1) := by decide +kernel
theorem dX4_undoNext_27 : decode cX4_undoNext 27 = .ok (.getfield 12, 3) := by decide +kernel
theorem dX4_undoNext_30 : decode cX4_undoNext 30 = .ok (.getfield 211, 3) := by decide +kernel
theorem dX4_undoNext_33 : decode cX4_undoNext 33 = .ok (.putfield 118, 3) := by decide +kernel
theorem dX4_undoNext_36 : decode cX4_undoNext 36 = .ok (.aload_n 0, 1) := by decide +kernel
theorem dX4_undoNext_37 : decode cX4_undoNext 37 = .ok (.getfield 12, 3) := by decide +kernel
theorem dX4_undoNext_40 : decode cX4_undoNext 40 = .ok (.bipush 15, 2) := by decide +kernel
theorem dX4_undoNext_42 : decode cX4_undoNext 42 = .ok (.aload_n 0, 1) := by decide +kernel
theorem dX4_undoNext_43 : decode cX4_undoNext 43 = .ok (.getfield 28, 3) := by decide +kernel
theorem dX4_undoNext_46 : decode cX4_undoNext 46 = .ok (.iload_n 1, 1) := by decide +kernel
theorem dX4_undoNext_47 : decode cX4_undoNext 47 = .ok (.iaload, 1) := by decide +kernel
theorem dX4_undoNext_48 : decode cX4_undoNext 48 = .ok (.aload_n 0, 1) := by decide +kernel
theorem dX4_undoNext_49 : decode cX4_undoNext 49 = .ok (.getfield 32, 3) := by decide +kernel
theorem dX4_undoNext_52 : decode cX4_undoNext 52 = .ok (.iload_n 1, 1) := by decide +kernel
theorem dX4_undoNext_53 : decode cX4_undoNext 53 = .ok (.iaload, 1) := by decide +kernel
theorem dX4_undoNext_54 : decode cX4_undoNext 54 = .ok (.invokevirtual 161, 3) := by decide +kernel
theorem dX4_undoNext_57 : decode cX4_undoNext 57 = .ok (.aload_n 0, 1) := by decide +kernel
theorem dX4_undoNext_58 : decode cX4_undoNext 58 = .ok (.iconst 3, 1) := by decide +kernel
theorem dX4_undoNext_59 : decode cX4_undoNext 59 = .ok (.putfield 43, 3) := by decide +kernel
theorem dX4_undoNext_62 : decode cX4_undoNext 62 = .ok (.goto 30, 3) := by decide +kernel
theorem dX4_undoNext_65 : decode cX4_undoNext 65 = .ok (.aload_n 0, 1) := by decide +kernel
theorem dX4_undoNext_66 : decode cX4_undoNext 66 = .ok (.getfield 121, 3) := by decide +kernel
theorem dX4_undoNext_69 : decode cX4_undoNext 69 = .ok (.ifCond .ne 13, 3) := by decide +kernel
theorem dX4_undoNext_72 : decode cX4_undoNext 72 = .ok (.aload_n 0, 1) := by decide +kernel
theorem dX4_undoNext_73 : decode cX4_undoNext 73 = .ok (.bipush 23, 2) := by decide +kernel
theorem dX4_undoNext_75 : decode cX4_undoNext 75 = .ok (.iconst 0, 1) := by decide +kernel
theorem dX4_undoNext_76 : decode cX4_undoNext 76 = .ok (.invokevirtual 184, 3) := by decide +kernel
theorem dX4_undoNext_79 : decode cX4_undoNext 79 = .ok (.goto 13, 3) := by decide +kernel
theorem dX4_undoNext_82 : decode cX4_undoNext 82 = .ok (.aload_n 0, 1) := by decide +kernel
theorem dX4_undoNext_83 : decode cX4_undoNext 83 = .ok (.bipush 22, 2) := by decide +kernel
theorem dX4_undoNext_85 : decode cX4_undoNext 85 = .ok (.aload_n 0, 1) := by decide +kernel
theorem dX4_undoNext_86 : decode cX4_undoNext 86 = .ok (.getfield 121, 3) := by decide +kernel
theorem dX4_undoNext_89 : decode cX4_undoNext 89 = .ok (.invokevirtual 184, 3) := by decide +kernel
theorem dX4_undoNext_92 : decode cX4_undoNext 92 = .ok (.return_, 1) := by decide +kernel
theorem e_X4_undoNext_0 (d : Nat) {l0 : Int} {m : Mem} {v : Int} {m' : Mem} (h : X4_undoNext_0 l0 m = some (v, m')) : Ex (d + 2) fm_X4_undoNext 0 [(14, l0), (3, 0)] [] m (.inl (3, 0)) m' := by
  unfold X4_undoNext_0 at h
  refine x_aload_n dX4_undoNext_0 rfl rfl (Or.inr (by decide)) (?_ : Ex _ _ 1 _ _ _ _ _)
  obtain ⟨c1, h⟩ := chk_some h
  refine gt_4_16 c1 fl_RX4_115 dX4_undoNext_1 (?_ : Ex _ _ 4 _ _ _ _ _)
  rcases ite_some h with ⟨b2, h⟩ | ⟨b2, h⟩
  · refine x_if_le (tgt := 65) dX4_undoNext_4 rfl b2 (?_ : Ex _ _ 65 _ _ _ _ _)
    refine x_aload_n dX4_undoNext_65 rfl rfl (Or.inr (by decide)) (?_ : Ex _ _ 66 _ _ _ _ _)
    refine gt_4_18 c1 fl_RX4_121 dX4_undoNext_66 (?_ : Ex _ _ 69 _ _ _ _ _)
    rcases ite_some h with ⟨b3, h⟩ | ⟨b3, h⟩
    · refine x_if_neN dX4_undoNext_69 (by decide) (fun hh => hh b3) (?_ : Ex _ _ 72 _ _ _ _ _)
      refine x_aload_n dX4_undoNext_72 rfl rfl (Or.inr (by decide)) (?_ : Ex _ _ 73 _ _ _ _ _)
      refine x_bipush dX4_undoNext_73 kb_23 (by decide) (?_ : Ex _ _ 75 _ _ _ _ _)
      refine x_iconst dX4_undoNext_75 rfl (by decide) (?_ : Ex _ _ 76 _ _ _ _ _)
      obtain ⟨v7, m8, g9, h⟩ := cal_some h
      refine cV2 (e_X4_finish d g9) (contV (?_ : Ex _ _ 79 _ _ _ _ _)) og_X4_finish rfl ml_RX4_184 4 rfl rfl c1 im_X4_finish se_X4_finish (Nat.le_of_ble_eq_true rfl) dX4_undoNext_76
      refine x_goto (tgt := 92) dX4_undoNext_79 rfl (?_ : Ex _ _ 92 _ _ _ _ _)
      cases h
      exact x_retv dX4_undoNext_92
    · refine x_if_ne (tgt := 82) dX4_undoNext_69 rfl b3 (?_ : Ex _ _ 82 _ _ _ _ _)
      refine x_aload_n dX4_undoNext_82 rfl rfl (Or.inr (by decide)) (?_ : Ex _ _ 83 _ _ _ _ _)
      refine x_bipush dX4_undoNext_83 kb_22 (by decide) (?_ : Ex _ _ 85 _ _ _ _ _)
      refine x_aload_n dX4_undoNext_85 rfl rfl (Or.inr (by decide)) (?_ : Ex _ _ 86 _ _ _ _ _)
      refine gt_4_18 c1 fl_RX4_121 dX4_undoNext_86 (?_ : Ex _ _ 89 _ _ _ _ _)
      obtain ⟨v4, m5, g6, h⟩ := cal_some h
      refine cV2 (e_X4_finish d g6) (contV (?_ : Ex _ _ 92 _ _ _ _ _)) og_X4_finish rfl ml_RX4_184 4 rfl rfl c1 im_X4_finish se_X4_finish (Nat.le_of_ble_eq_true rfl) dX4_undoNext_89
      cases h
      exact x_retv dX4_undoNext_92
  · refine x_if_leN dX4_undoNext_4 (by decide) b2 (?_ : Ex _ _ 7 _ _ _ _ _)
    refine x_aload_n dX4_undoNext_7 rfl rfl (Or.inr (by decide)) (?_ : Ex _ _ 8 _ _ _ _ _)
    refine x_dup (by decide : (14 : Int) ≠ 2) dX4_undoNext_8 (?_ : Ex _ _ 9 _ _ _ _ _)
    refine gt_4_16 c1 fl_RX4_115 dX4_undoNext_9 (?_ : Ex _ _ 12 _ _ _ _ _)
    refine x_iconst dX4_undoNext_12 rfl (by decide) (?_ : Ex _ _ 13 _ _ _ _ _)
    obtain ⟨c10, h⟩ := chk_some h
    refine x_isub dX4_undoNext_13 c10 (?_ : Ex _ _ 14 _ _ _ _ _)
    obtain ⟨m11, hm11, h⟩ := st_some h
    refine pt_4_16  c1 fl_RX4_115 dX4_undoNext_14 (?_ : Ex _ _ 17 _ _ _ _ _)
    rw [← hm11]
    refine x_aload_n dX4_undoNext_17 rfl rfl (Or.inr (by decide)) (?_ : Ex _ _ 18 _ _ _ _ _)
    refine gt_4_16 c1 fl_RX4_115 dX4_undoNext_18 (?_ : Ex _ _ 21 _ _ _ _ _)
    refine x_bipush dX4_undoNext_21 kb_80 (by decide) (?_ : Ex _ _ 23 _ _ _ _ _)
    obtain ⟨c12, h⟩ := chk_some h
    refine x_irem dX4_undoNext_23 c12 (by decide) (?_ : Ex _ _ 24 _ _ _ _ _)
    refine x_istore_n (ls2 := [(14, l0), (0, (m11 l0 16 % 80))]) dX4_undoNext_24 rfl (Nat.le_of_ble_eq_true rfl) rfl (?_ : Ex _ _ 25 _ _ _ _ _)
    refine x_aload_n dX4_undoNext_25 rfl rfl (Or.inr (by decide)) (?_ : Ex _ _ 26 _ _ _ _ _)
    refine x_aload_n dX4_undoNext_26 rfl rfl (Or.inr (by decide)) (?_ : Ex _ _ 27 _ _ _ _ _)
    refine gt_4_0 c1 fl_RX4_12 dX4_undoNext_27 (?_ : Ex _ _ 30 _ _ _ _ _)
    obtain ⟨c13, h⟩ := chk_some h
    refine gt_1_4 c13 fl_RX4_211 dX4_undoNext_30 (?_ : Ex _ _ 33 _ _ _ _ _)
    obtain ⟨m14, hm14, h⟩ := st_some h
    refine pt_4_17  c1 fl_RX4_118 dX4_undoNext_33 (?_ : Ex _ _ 36 _ _ _ _ _)
    rw [← hm14]
    refine x_aload_n dX4_undoNext_36 rfl rfl (Or.inr (by decide)) (?_ : Ex _ _ 37 _ _ _ _ _)
    refine gt_4_0 c1 fl_RX4_12 dX4_undoNext_37 (?_ : Ex _ _ 40 _ _ _ _ _)
    refine x_bipush dX4_undoNext_40 kb_15 (by decide) (?_ : Ex _ _ 42 _ _ _ _ _)
    refine x_aload_n dX4_undoNext_42 rfl rfl (Or.inr (by decide)) (?_ : Ex _ _ 43 _ _ _ _ _)
    refine gt_4_4 c1 fl_RX4_28 dX4_undoNext_43 (?_ : Ex _ _ 46 _ _ _ _ _)
    refine x_iload_n dX4_undoNext_46 rfl rfl (?_ : Ex _ _ 47 _ _ _ _ _)
    obtain ⟨⟨c15, c16, c17⟩, h⟩ := chk_some h
    refine ld_i_80 c15 c16 c17 dX4_undoNext_47 (?_ : Ex _ _ 48 _ _ _ _ _)
    refine x_aload_n dX4_undoNext_48 rfl rfl (Or.inr (by decide)) (?_ : Ex _ _ 49 _ _ _ _ _)
    refine gt_4_5 c1 fl_RX4_32 dX4_undoNext_49 (?_ : Ex _ _ 52 _ _ _ _ _)
    refine x_iload_n dX4_undoNext_52 rfl rfl (?_ : Ex _ _ 53 _ _ _ _ _)
    obtain ⟨⟨c18, c19, c20⟩, h⟩ := chk_some h
    refine ld_i_80 c18 c19 c20 dX4_undoNext_53 (?_ : Ex _ _ 54 _ _ _ _ _)
    obtain ⟨c21, h⟩ := chk_some h
    obtain ⟨v22, m23, g24, h⟩ := cal_some h
    refine cV3 (e_X1_put (d + 1) g24) (contV (?_ : Ex _ _ 57 _ _ _ _ _)) og_X1_put rfl ml_RX4_161 1 rfl rfl c21 im_X1_put se_X1_put (Nat.le_of_ble_eq_true rfl) dX4_undoNext_54
    refine x_aload_n dX4_undoNext_57 rfl rfl (Or.inr (by decide)) (?_ : Ex _ _ 58 _ _ _ _ _)
    refine x_iconst dX4_undoNext_58 rfl (by decide) (?_ : Ex _ _ 59 _ _ _ _ _)
    obtain ⟨m25, hm25, h⟩ := st_some h
    refine pt_4_9  c1 fl_RX4_43 dX4_undoNext_59 (?_ : Ex _ _ 62 _ _ _ _ _)
    rw [← hm25]
    refine x_goto (tgt := 92) dX4_undoNext_62 rfl (?_ : Ex _ _ 92 _ _ _ _ _)
    cases h
    exact x_retv dX4_undoNext_92
theorem e_X4_undoNext (d : Nat) {a0 : Int} {m : Mem} {v : Int} {m' : Mem} (h : X4_undoNext a0 m = some (v, m')) : ExM (d + 2) fm_X4_undoNext [(14, a0)] m (.inl (3, 0)) m' := by
  exact ExM.of (by decide +kernel) (Nat.le_of_ble_eq_true rfl) (cat9 rfl) retV (e_X4_undoNext_0 d h)
theorem dX4_passesMark_0 : decode cX4_passesMark 0 = .ok (.iconst 1, 1) := by decide +kernel
theorem dX4_passesMark_1 : decode cX4_passesMark 1 = .ok (.iload_n 1, 1) := by decide +kernel
theorem dX4_passesMark_2 : decode cX4_passesMark 2 = .ok (.ishl, 1) := by decide +kernel
theorem dX4_passesMark_3 : decode cX4_passesMark 3 = .ok (.istore_n 2, 1) := by decide +kernel
theorem dX4_passesMark_4 : decode cX4_passesMark 4 = .ok (.aload_n 0, 1) := by decide +kernel
theorem dX4_passesMark_5 : decode cX4_passesMark 5 = .ok (.getfield 97, 3) := by decide +kernel
theorem dX4_passesMark_8 : decode cX4_passesMark 8 = .ok (.iload_n 2, 1) := by decide +kernel
theorem dX4_passesMark_9 : decode cX4_passesMark 9 = .ok (.iand, 1) := by decide +kernel
theorem dX4_passesMark_10 : decode cX4_passesMark 10 = .ok (.ifCond .eq 5, 3) := by decide +kernel
theorem dX4_passesMark_13 : decode cX4_passesMark 13 = .ok (.iconst 1, 1) := by decide +kernel
theorem dX4_passesMark_14 : decode cX4_passesMark 14 = .ok (.ireturn, 1) := by decide +kernel
theorem dX4_passesMark_15 : decode cX4_passesMark 15 = .ok (.aload_n 0, 1) := by decide +kernel
theorem dX4_passesMark_16 : decode cX4_passesMark 16 = .ok (.getfield 12, 3) := by decide +kernel
theorem dX4_passesMark_19 : decode cX4_passesMark 19 = .ok (.getfield 69, 3) := by decide +kernel
theorem dX4_passesMark_22 : decode cX4_passesMark 22 = .ok (.ifCond .eq 18, 3) := by decide +kernel
theorem dX4_passesMark_25 : decode cX4_passesMark 25 = .ok (.aload_n 0, 1) := by decide +kernel
theorem dX4_passesMark_26 : decode cX4_passesMark 26 = .ok (.getfield 12, 3) := by decide +kernel
theorem dX4_passesMark_29 : decode cX4_passesMark 29 = .ok (.bipush 13, 2) := by decide +kernel
theorem dX4_passesMark_31 : decode cX4_passesMark 31 = .ok (.iload_n 1, 1) := by decide +kernel
theorem dX4_passesMark_32 : decode cX4_passesMark 32 = .ok (.invokevirtual 227, 3) := by decide +kernel
theorem dX4_passesMark_35 : decode cX4_passesMark 35 = .ok (.ifCond .ne 5, 3) := by decide +kernel
theorem dX4_passesMark_38 : decode cX4_passesMark 38 = .ok (.iconst 0, 1) := by decide +kernel
theorem dX4_passesMark_39 : decode cX4_passesMark 39 = .ok (.ireturn, 1) := by decide +kernel
theorem dX4_passesMark_40 : decode cX4_passesMark 40 = .ok (.aload_n 0, 1) := by decide +kernel
theorem dX4_passesMark_41 : decode cX4_passesMark 41 = .ok (.dup, 1) := by decide +kernel
theorem dX4_passesMark_42 : decode cX4_passesMark 42 = .ok (.getfield 97, 3) := by decide +kernel
theorem dX4_passesMark_45 : decode cX4_passesMark 45 = .ok (.iload_n 2, 1) := by decide +kernel
theorem dX4_passesMark_46 : decode cX4_passesMark 46 = .ok (.ior, 1) := by decide +kernel
theorem dX4_passesMark_47 : decode cX4_passesMark 47 = .ok (.putfield 97, 3) := by decide +kernel
theorem dX4_passesMark_50 : decode cX4_passesMark 50 = .ok (.aload_n 0, 1) := by decide +kernel
theorem dX4_passesMark_51 : decode cX4_passesMark 51 = .ok (.getfield 12, 3) := by decide +kernel
theorem dX4_passesMark_54 : decode cX4_passesMark 54 = .ok (.bipush 13, 2) := by decide +kernel
theorem dX4_passesMark_56 : decode cX4_passesMark 56 = .ok (.iload_n 1, 1) := by decide +kernel
theorem dX4_passesMark_57 : decode cX4_passesMark 57 = .ok (.iconst 0, 1) := by decide +kernel
theorem dX4_passesMark_58 : decode cX4_passesMark 58 = .ok (.invokevirtual 161, 3) := by decide +kernel
theorem dX4_passesMark_61 : decode cX4_passesMark 61 = .ok (.iconst 1, 1) := by decide +kernel
theorem dX4_passesMark_62 : decode cX4_passesMark 62 = .ok (.ireturn, 1) := by decide +kernel
theorem e_X4_passesMark_40 (d : Nat) {l0 l1 l2 : Int} {m : Mem} {v : Int} {m' : Mem} (h : X4_passesMark_40 l0 l1 l2 m = some (v, m')) : Ex (d + 1) fm_X4_passesMark 40 [(14, l0), (0, l1), (0, l2)] [] m (.inl (0, v)) m' := by
  unfold X4_passesMark_40 at h
  refine x_aload_n dX4_passesMark_40 rfl rfl (Or.inr (by decide)) (?_ : Ex _ _ 41 _ _ _ _ _)
  refine x_dup (by decide : (14 : Int) ≠ 2) dX4_passesMark_41 (?_ : Ex _ _ 42 _ _ _ _ _)
  obtain ⟨c1, h⟩ := chk_some h
  refine gt_4_6 c1 fl_RX4_97 dX4_passesMark_42 (?_ : Ex _ _ 45 _ _ _ _ _)
  refine x_iload_n dX4_passesMark_45 rfl rfl (?_ : Ex _ _ 46 _ _ _ _ _)
  refine x_ior dX4_passesMark_46 (?_ : Ex _ _ 47 _ _ _ _ _)
  obtain ⟨m2, hm2, h⟩ := st_some h
  refine pt_4_6  c1 fl_RX4_97 dX4_passesMark_47 (?_ : Ex _ _ 50 _ _ _ _ _)
  rw [← hm2]
  refine x_aload_n dX4_passesMark_50 rfl rfl (Or.inr (by decide)) (?_ : Ex _ _ 51 _ _ _ _ _)
  refine gt_4_0 c1 fl_RX4_12 dX4_passesMark_51 (?_ : Ex _ _ 54 _ _ _ _ _)
  refine x_bipush dX4_passesMark_54 kb_13 (by decide) (?_ : Ex _ _ 56 _ _ _ _ _)
  refine x_iload_n dX4_passesMark_56 rfl rfl (?_ : Ex _ _ 57 _ _ _ _ _)
  refine x_iconst dX4_passesMark_57 rfl (by decide) (?_ : Ex _ _ 58 _ _ _ _ _)
  obtain ⟨c3, h⟩ := chk_some h
  obtain ⟨v4, m5, g6, h⟩ := cal_some h
  refine cV3 (e_X1_put d g6) (contV (?_ : Ex _ _ 61 _ _ _ _ _)) og_X1_put rfl ml_RX4_161 1 rfl rfl c3 im_X1_put se_X1_put (Nat.le_of_ble_eq_true rfl) dX4_passesMark_58
  refine x_iconst dX4_passesMark_61 rfl (by decide) (?_ : Ex _ _ 62 _ _ _ _ _)
  cases h
  exact x_ret dX4_passesMark_62 (by decide : (0 : Int) ≠ 3)
theorem e_X4_passesMark_0 (d : Nat) {l0 l1 : Int} {m : Mem} {v : Int} {m' : Mem} (h : X4_passesMark_0 l0 l1 m = some (v, m')) : Ex (d + 1) fm_X4_passesMark 0 [(14, l0), (0, l1), (3, 0)] [] m (.inl (0, v)) m' := by
  unfold X4_passesMark_0 at h
  refine x_iconst dX4_passesMark_0 rfl (by decide) (?_ : Ex _ _ 1 _ _ _ _ _)
  refine x_iload_n dX4_passesMark_1 rfl rfl (?_ : Ex _ _ 2 _ _ _ _ _)
  refine x_ishl dX4_passesMark_2 (?_ : Ex _ _ 3 _ _ _ _ _)
  refine x_istore_n (ls2 := [(14, l0), (0, l1), (0, (Int32.ofInt 1 <<< (Int32.ofInt l1 &&& 31)).toInt)]) dX4_passesMark_3 rfl (Nat.le_of_ble_eq_true rfl) rfl (?_ : Ex _ _ 4 _ _ _ _ _)
  refine x_aload_n dX4_passesMark_4 rfl rfl (Or.inr (by decide)) (?_ : Ex _ _ 5 _ _ _ _ _)
  obtain ⟨c1, h⟩ := chk_some h
  refine gt_4_6 c1 fl_RX4_97 dX4_passesMark_5 (?_ : Ex _ _ 8 _ _ _ _ _)
  refine x_iload_n dX4_passesMark_8 rfl rfl (?_ : Ex _ _ 9 _ _ _ _ _)
  refine x_iand dX4_passesMark_9 (?_ : Ex _ _ 10 _ _ _ _ _)
  rcases ite_some h with ⟨b2, h⟩ | ⟨b2, h⟩
  · refine x_if_eq (tgt := 15) dX4_passesMark_10 rfl b2 (?_ : Ex _ _ 15 _ _ _ _ _)
    refine x_aload_n dX4_passesMark_15 rfl rfl (Or.inr (by decide)) (?_ : Ex _ _ 16 _ _ _ _ _)
    refine gt_4_0 c1 fl_RX4_12 dX4_passesMark_16 (?_ : Ex _ _ 19 _ _ _ _ _)
    obtain ⟨c3, h⟩ := chk_some h
    refine gt_1_7 c3 fl_RX4_69 dX4_passesMark_19 (?_ : Ex _ _ 22 _ _ _ _ _)
    rcases ite_some h with ⟨b4, h⟩ | ⟨b4, h⟩
    · refine x_if_eq (tgt := 40) dX4_passesMark_22 rfl b4 (?_ : Ex _ _ 40 _ _ _ _ _)
      exact e_X4_passesMark_40 d h
    · refine x_if_eqN dX4_passesMark_22 (by decide) b4 (?_ : Ex _ _ 25 _ _ _ _ _)
      refine x_aload_n dX4_passesMark_25 rfl rfl (Or.inr (by decide)) (?_ : Ex _ _ 26 _ _ _ _ _)
      refine gt_4_0 c1 fl_RX4_12 dX4_passesMark_26 (?_ : Ex _ _ 29 _ _ _ _ _)
      refine x_bipush dX4_passesMark_29 kb_13 (by decide) (?_ : Ex _ _ 31 _ _ _ _ _)
      refine x_iload_n dX4_passesMark_31 rfl rfl (?_ : Ex _ _ 32 _ _ _ _ _)
      obtain ⟨v5, m6, g7, h⟩ := cal_some h
      refine cV2 (e_X1_isNextAgain d g7) (contN (by decide) (?_ : Ex _ _ 35 _ _ _ _ _)) og_X1_isNextAgain rfl ml_RX4_227 1 rfl rfl c3 im_X1_isNextAgain se_X1_isNextAgain (Nat.le_of_ble_eq_true rfl) dX4_passesMark_32
      rcases ite_some h with ⟨b8, h⟩ | ⟨b8, h⟩
      · refine x_if_neN dX4_passesMark_35 (by decide) (fun hh => hh b8) (?_ : Ex _ _ 38 _ _ _ _ _)
        refine x_iconst dX4_passesMark_38 rfl (by decide) (?_ : Ex _ _ 39 _ _ _ _ _)
        cases h
        exact x_ret dX4_passesMark_39 (by decide : (0 : Int) ≠ 3)
      · refine x_if_ne (tgt := 40) dX4_passesMark_35 rfl b8 (?_ : Ex _ _ 40 _ _ _ _ _)
        exact e_X4_passesMark_40 d h
  · refine x_if_eqN dX4_passesMark_10 (by decide) b2 (?_ : Ex _ _ 13 _ _ _ _ _)
    refine x_iconst dX4_passesMark_13 rfl (by decide) (?_ : Ex _ _ 14 _ _ _ _ _)
    cases h
    exact x_ret dX4_passesMark_14 (by decide : (0 : Int) ≠ 3)
theorem e_X4_passesMark (d : Nat) {a0 a1 : Int} {m : Mem} {v : Int} {m' : Mem} (h : X4_passesMark a0 a1 m = some (v, m')) : ExM (d + 1) fm_X4_passesMark [(14, a0), (0, a1)] m (.inl (0, v)) m' := by
  obtain ⟨hb, h⟩ := boolR_some h
  exact ExM.of (by decide +kernel) (Nat.le_of_ble_eq_true rfl) (cat9 rfl) (retZ hb) (e_X4_passesMark_0 d h)
theorem dX4_goAgain_0 : decode cX4_goAgain 0 = .ok (.aload_n 0, 1) := by decide +kernel
theorem dX4_goAgain_1 : decode cX4_goAgain 1 = .ok (.getfield 88, 3) := by decide +kernel
theorem dX4_goAgain_4 : decode cX4_goAgain 4 = .ok (.bipush 9, 2) := by decide +kernel
theorem dX4_goAgain_6 : decode cX4_goAgain 6 = .ok (.if_icmp .ge 16, 3) := by decide +kernel
theorem dX4_goAgain_9 : decode cX4_goAgain 9 = .ok (.aload_n 0, 1) := by decide +kernel
theorem dX4_goAgain_10 : decode cX4_goAgain 10 = .ok (.bipush 14, 2) := by decide +kernel
theorem dX4_goAgain_12 : decode cX4_goAgain 12 = .ok (.aload_n 0, 1) := by decide +kernel
theorem dX4_goAgain_13 : decode cX4_goAgain 13 = .ok (.getfield 94, 3) := by decide +kernel
theorem dX4_goAgain_16 : decode cX4_goAgain 16 = .ok (.invokevirtual 184, 3) := by decide +kernel
theorem dX4_goAgain_19 : decode cX4_goAgain 19 = .ok (.goto 9, 3) := by decide +kernel
theorem dX4_goAgain_22 : decode cX4_goAgain 22 = .ok (.aload_n 0, 1) := by decide +kernel
theorem dX4_goAgain_23 : decode cX4_goAgain 23 = .ok (.bipush 7, 2) := by decide +kernel
theorem dX4_goAgain_25 : decode cX4_goAgain 25 = .ok (.invokevirtual 170, 3) := by decide +kernel
theorem dX4_goAgain_28 : decode cX4_goAgain 28 = .ok (.return_, 1) := by decide +kernel
theorem e_X4_goAgain_0 (d : Nat) {l0 : Int} {m : Mem} {v : Int} {m' : Mem} (h : X4_goAgain_0 l0 m = some (v, m')) : Ex (d + 2) fm_X4_goAgain 0 [(14, l0)] [] m (.inl (3, 0)) m' := by
  unfold X4_goAgain_0 at h
  refine x_aload_n dX4_goAgain_0 rfl rfl (Or.inr (by decide)) (?_ : Ex _ _ 1 _ _ _ _ _)
  obtain ⟨c1, h⟩ := chk_some h
  refine gt_4_8 c1 fl_RX4_88 dX4_goAgain_1 (?_ : Ex _ _ 4 _ _ _ _ _)
  refine x_bipush dX4_goAgain_4 kb_9 (by decide) (?_ : Ex _ _ 6 _ _ _ _ _)
  rcases ite_some h with ⟨b2, h⟩ | ⟨b2, h⟩
  · refine x_icmp_ge (tgt := 22) dX4_goAgain_6 rfl b2 (?_ : Ex _ _ 22 _ _ _ _ _)
    refine x_aload_n dX4_goAgain_22 rfl rfl (Or.inr (by decide)) (?_ : Ex _ _ 23 _ _ _ _ _)
    refine x_bipush dX4_goAgain_23 kb_7 (by decide) (?_ : Ex _ _ 25 _ _ _ _ _)
    obtain ⟨v3, m4, g5, h⟩ := cal_some h
    refine cV1 (e_X4_backOut (d + 1) g5) (contV (?_ : Ex _ _ 28 _ _ _ _ _)) og_X4_backOut rfl ml_RX4_170 4 rfl rfl c1 im_X4_backOut se_X4_backOut (Nat.le_of_ble_eq_true rfl) dX4_goAgain_25
    cases h
    exact x_retv dX4_goAgain_28
  · refine x_icmp_geN dX4_goAgain_6 (by decide) b2 (?_ : Ex _ _ 9 _ _ _ _ _)
    refine x_aload_n dX4_goAgain_9 rfl rfl (Or.inr (by decide)) (?_ : Ex _ _ 10 _ _ _ _ _)
    refine x_bipush dX4_goAgain_10 kb_14 (by decide) (?_ : Ex _ _ 12 _ _ _ _ _)
    refine x_aload_n dX4_goAgain_12 rfl rfl (Or.inr (by decide)) (?_ : Ex _ _ 13 _ _ _ _ _)
    refine gt_4_2 c1 fl_RX4_94 dX4_goAgain_13 (?_ : Ex _ _ 16 _ _ _ _ _)
    obtain ⟨v6, m7, g8, h⟩ := cal_some h
    refine cV2 (e_X4_finish d g8) (contV (?_ : Ex _ _ 19 _ _ _ _ _)) og_X4_finish rfl ml_RX4_184 4 rfl rfl c1 im_X4_finish se_X4_finish (Nat.le_of_ble_eq_true rfl) dX4_goAgain_16
    refine x_goto (tgt := 28) dX4_goAgain_19 rfl (?_ : Ex _ _ 28 _ _ _ _ _)
    cases h
    exact x_retv dX4_goAgain_28
theorem e_X4_goAgain (d : Nat) {a0 : Int} {m : Mem} {v : Int} {m' : Mem} (h : X4_goAgain a0 m = some (v, m')) : ExM (d + 2) fm_X4_goAgain [(14, a0)] m (.inl (3, 0)) m' := by
  exact ExM.of (by decide +kernel) (Nat.le_of_ble_eq_true rfl) (cat9 rfl) retV (e_X4_goAgain_0 d h)
theorem dX4_note_0 : decode cX4_note 0 = .ok (.iload_n 1, 1) := by decide +kernel
theorem dX4_note_1 : decode cX4_note 1 = .ok (.tableswitch 153 7 12 #[39, 47, 72, 153, 111, 126], 39) := by decide +kernel
theorem dX4_note_40 : decode cX4_note 40 = .ok (.aload_n 0, 1) := by decide +kernel
theorem dX4_note_41 : decode cX4_note 41 = .ok (.iload_n 2, 1) := by decide +kernel
theorem dX4_note_42 : decode cX4_note 42 = .ok (.putfield 94, 3) := by decide +kernel
theorem dX4_note_45 : decode cX4_note 45 = .ok (.goto 109, 3) := by decide +kernel
theorem dX4_note_48 : decode cX4_note 48 = .ok (.aload_n 0, 1) := by decide +kernel
theorem dX4_note_49 : decode cX4_note 49 = .ok (.sipush (-999), 3) := by decide +kernel
theorem dX4_note_52 : decode cX4_note 52 = .ok (.sipush 999, 3) := by decide +kernel
theorem dX4_note_55 : decode cX4_note 55 = .ok (.aload_n 0, 1) := by decide +kernel
theorem dX4_note_56 : decode cX4_note 56 = .ok (.getfield 94, 3) := by decide +kernel
theorem dX4_note_59 : decode cX4_note 59 = .ok (.iload_n 2, 1) := by decide +kernel
theorem dX4_note_60 : decode cX4_note 60 = .ok (.iadd, 1) := by decide +kernel
theorem dX4_note_61 : decode cX4_note 61 = .ok (.invokestatic 224, 3) := by decide +kernel
theorem dX4_note_64 : decode cX4_note 64 = .ok (.invokestatic 187, 3) := by decide +kernel
theorem dX4_note_67 : decode cX4_note 67 = .ok (.putfield 94, 3) := by decide +kernel
theorem dX4_note_70 : decode cX4_note 70 = .ok (.goto 84, 3) := by decide +kernel
theorem dX4_note_73 : decode cX4_note 73 = .ok (.aload_n 0, 1) := by decide +kernel
theorem dX4_note_74 : decode cX4_note 74 = .ok (.getfield 28, 3) := by decide +kernel
theorem dX4_note_77 : decode cX4_note 77 = .ok (.aload_n 0, 1) := by decide +kernel
theorem dX4_note_78 : decode cX4_note 78 = .ok (.getfield 115, 3) := by decide +kernel
theorem dX4_note_81 : decode cX4_note 81 = .ok (.bipush 80, 2) := by decide +kernel
theorem dX4_note_83 : decode cX4_note 83 = .ok (.irem, 1) := by decide +kernel
theorem dX4_note_84 : decode cX4_note 84 = .ok (.iload_n 2, 1) := by decide +kernel
theorem dX4_note_85 : decode cX4_note 85 = .ok (.iastore, 1) := by decide +kernel
theorem dX4_note_86 : decode cX4_note 86 = .ok (.aload_n 0, 1) := by decide +kernel
theorem dX4_note_87 : decode cX4_note 87 = .ok (.getfield 32, 3) := by decide +kernel
theorem dX4_note_90 : decode cX4_note 90 = .ok (.aload_n 0, 1) := by decide +kernel
theorem dX4_note_91 : decode cX4_note 91 = .ok (.getfield 115, 3) := by decide +kernel
theorem dX4_note_94 : decode cX4_note 94 = .ok (.bipush 80, 2) := by decide +kernel
theorem dX4_note_96 : decode cX4_note 96 = .ok (.irem, 1) := by decide +kernel
theorem dX4_note_97 : decode cX4_note 97 = .ok (.iload_n 3, 1) := by decide +kernel
theorem dX4_note_98 : decode cX4_note 98 = .ok (.iastore, 1) := by decide +kernel
theorem dX4_note_99 : decode cX4_note 99 = .ok (.aload_n 0, 1) := by decide +kernel
theorem dX4_note_100 : decode cX4_note 100 = .ok (.dup, 1) := by decide +kernel
theorem dX4_note_101 : decode cX4_note 101 = .ok (.getfield 115, 3) := by decide +kernel
theorem dX4_note_104 : decode cX4_note 104 = .ok (.iconst 1, 1) := by decide +kernel
theorem dX4_note_105 : decode cX4_note 105 = .ok (.iadd, 1) := by decide +kernel
theorem dX4_note_106 : decode cX4_note 106 = .ok (.putfield 115, 3) := by decide +kernel
theorem dX4_note_109 : decode cX4_note 109 = .ok (.goto 45, 3) := by decide +kernel
theorem dX4_note_112 : decode cX4_note 112 = .ok (.aload_n 0, 1) := by decide +kernel
theorem dX4_note_113 : decode cX4_note 113 = .ok (.aload_n 0, 1) := by decide +kernel
theorem dX4_note_114 : decode cX4_note 114 = .ok (.getfield 106, 3) := by decide +kernel
theorem dX4_note_117 : decode cX4_note 117 = .ok (.iload_n 2, 1) := by decide +kernel
theorem dX4_note_118 : decode cX4_note 118 = .ok (.invokestatic 187, 3) := by decide +kernel
theorem dX4_note_121 : decode cX4_note 121 = .ok (.putfield 106, 3) := by decide +kernel
theorem dX4_note_124 : decode cX4_note 124 = .ok (.goto 30, 3) := by decide +kernel
theorem dX4_note_127 : decode cX4_note 127 = .ok (.aload_n 0, 1) := by decide +kernel
theorem dX4_note_128 : decode cX4_note 128 = .ok (.getfield 12, 3) := by decide +kernel
theorem dX4_note_131 : decode cX4_note 131 = .ok (.bipush 14, 2) := by decide +kernel
theorem dX4_note_133 : decode cX4_note 133 = .ok (.iload_n 2, 1) := by decide +kernel
theorem dX4_note_134 : decode cX4_note 134 = .ok (.iload_n 3, 1) := by decide +kernel
theorem dX4_note_135 : decode cX4_note 135 = .ok (.bipush 100, 2) := by decide +kernel
theorem dX4_note_137 : decode cX4_note 137 = .ok (.if_icmp .ne 10, 3) := by decide +kernel
theorem dX4_note_140 : decode cX4_note 140 = .ok (.aload_n 0, 1) := by decide +kernel
theorem dX4_note_141 : decode cX4_note 141 = .ok (.getfield 94, 3) := by decide +kernel
theorem dX4_note_144 : decode cX4_note 144 = .ok (.goto 4, 3) := by decide +kernel
theorem dX4_note_147 : decode cX4_note 147 = .ok (.iload_n 3, 1) := by decide +kernel
theorem dX4_note_148 : decode cX4_note 148 = .ok (.invokevirtual 161, 3) := by decide +kernel
theorem dX4_note_151 : decode cX4_note 151 = .ok (.goto 3, 3) := by decide +kernel
theorem dX4_note_154 : decode cX4_note 154 = .ok (.return_, 1) := by decide +kernel
theorem e_X4_note_148 (d : Nat) {s0 s1 s2 s3 : Int} {m : Mem} {v : Int} {m' : Mem} (h : X4_note_148 s0 s1 s2 s3 m = some (v, m')) : Ex (d + 1) fm_X4_note 148 [(3, 0), (3, 0), (3, 0), (3, 0)] [(0, s0), (0, s1), (0, s2), (11, s3)] m (.inl (3, 0)) m' := by
  unfold X4_note_148 at h
  obtain ⟨c1, h⟩ := chk_some h
  obtain ⟨v2, m3, g4, h⟩ := cal_some h
  refine cV3 (e_X1_put d g4) (contV (?_ : Ex _ _ 151 _ _ _ _ _)) og_X1_put rfl ml_RX4_161 1 rfl rfl c1 im_X1_put se_X1_put (Nat.le_of_ble_eq_true rfl) dX4_note_148
  refine x_goto (tgt := 154) dX4_note_151 rfl (?_ : Ex _ _ 154 _ _ _ _ _)
  cases h
  exact x_retv dX4_note_154
theorem e_X4_note_0 (d : Nat) {l0 l1 l2 l3 : Int} {m : Mem} {v : Int} {m' : Mem} (h : X4_note_0 l0 l1 l2 l3 m = some (v, m')) : Ex (d + 1) fm_X4_note 0 [(14, l0), (0, l1), (0, l2), (0, l3)] [] m (.inl (3, 0)) m' := by
  unfold X4_note_0 at h
  refine x_iload_n dX4_note_0 rfl rfl (?_ : Ex _ _ 1 _ _ _ _ _)
  rcases ite_some h with ⟨b1, h⟩ | ⟨b1, h⟩
  · refine y_tableAt (j := 7) (off := 39) (tgt := 40) b1 dX4_note_1 (by decide) (by decide) rfl rfl (?_ : Ex _ _ 40 _ _ _ _ _)
    refine x_aload_n dX4_note_40 rfl rfl (Or.inr (by decide)) (?_ : Ex _ _ 41 _ _ _ _ _)
    refine x_iload_n dX4_note_41 rfl rfl (?_ : Ex _ _ 42 _ _ _ _ _)
    obtain ⟨c2, h⟩ := chk_some h
    obtain ⟨m3, hm3, h⟩ := st_some h
    refine pt_4_2  c2 fl_RX4_94 dX4_note_42 (?_ : Ex _ _ 45 _ _ _ _ _)
    rw [← hm3]
    refine x_goto (tgt := 154) dX4_note_45 rfl (?_ : Ex _ _ 154 _ _ _ _ _)
    cases h
    exact x_retv dX4_note_154
  rcases ite_some h with ⟨b4, h⟩ | ⟨b4, h⟩
  · refine y_tableAt (j := 8) (off := 47) (tgt := 48) b4 dX4_note_1 (by decide) (by decide) rfl rfl (?_ : Ex _ _ 48 _ _ _ _ _)
    refine x_aload_n dX4_note_48 rfl rfl (Or.inr (by decide)) (?_ : Ex _ _ 49 _ _ _ _ _)
    refine x_sipush dX4_note_49 ks_n999 (by decide) (?_ : Ex _ _ 52 _ _ _ _ _)
    refine x_sipush dX4_note_52 ks_999 (by decide) (?_ : Ex _ _ 55 _ _ _ _ _)
    refine x_aload_n dX4_note_55 rfl rfl (Or.inr (by decide)) (?_ : Ex _ _ 56 _ _ _ _ _)
    obtain ⟨c5, h⟩ := chk_some h
    refine gt_4_2 c5 fl_RX4_94 dX4_note_56 (?_ : Ex _ _ 59 _ _ _ _ _)
    refine x_iload_n dX4_note_59 rfl rfl (?_ : Ex _ _ 60 _ _ _ _ _)
    obtain ⟨c6, h⟩ := chk_some h
    refine x_iadd dX4_note_60 c6 (?_ : Ex _ _ 61 _ _ _ _ _)
    refine x_mmin mm_RX4_224 mmin_a mm_b mmin_c (Nat.le_of_ble_eq_true rfl) dX4_note_61 (?_ : Ex _ _ 64 _ _ _ _ _)
    refine x_mmax mm_RX4_187 mmax_a mm_b mmax_c (Nat.le_of_ble_eq_true rfl) dX4_note_64 (?_ : Ex _ _ 67 _ _ _ _ _)
    obtain ⟨m7, hm7, h⟩ := st_some h
    refine pt_4_2  c5 fl_RX4_94 dX4_note_67 (?_ : Ex _ _ 70 _ _ _ _ _)
    rw [← hm7]
    refine x_goto (tgt := 154) dX4_note_70 rfl (?_ : Ex _ _ 154 _ _ _ _ _)
    cases h
    exact x_retv dX4_note_154
  rcases ite_some h with ⟨b8, h⟩ | ⟨b8, h⟩
  · refine y_tableAt (j := 9) (off := 72) (tgt := 73) b8 dX4_note_1 (by decide) (by decide) rfl rfl (?_ : Ex _ _ 73 _ _ _ _ _)
    refine x_aload_n dX4_note_73 rfl rfl (Or.inr (by decide)) (?_ : Ex _ _ 74 _ _ _ _ _)
    obtain ⟨c9, h⟩ := chk_some h
    refine gt_4_4 c9 fl_RX4_28 dX4_note_74 (?_ : Ex _ _ 77 _ _ _ _ _)
    refine x_aload_n dX4_note_77 rfl rfl (Or.inr (by decide)) (?_ : Ex _ _ 78 _ _ _ _ _)
    refine gt_4_16 c9 fl_RX4_115 dX4_note_78 (?_ : Ex _ _ 81 _ _ _ _ _)
    refine x_bipush dX4_note_81 kb_80 (by decide) (?_ : Ex _ _ 83 _ _ _ _ _)
    obtain ⟨c10, h⟩ := chk_some h
    refine x_irem dX4_note_83 c10 (by decide) (?_ : Ex _ _ 84 _ _ _ _ _)
    refine x_iload_n dX4_note_84 rfl rfl (?_ : Ex _ _ 85 _ _ _ _ _)
    obtain ⟨⟨c11, c12, c13⟩, h⟩ := chk_some h
    obtain ⟨m14, hm14, h⟩ := st_some h
    refine sd_i_80 c11 c12 c13 dX4_note_85 (?_ : Ex _ _ 86 _ _ _ _ _)
    rw [← hm14]
    refine x_aload_n dX4_note_86 rfl rfl (Or.inr (by decide)) (?_ : Ex _ _ 87 _ _ _ _ _)
    refine gt_4_5 c9 fl_RX4_32 dX4_note_87 (?_ : Ex _ _ 90 _ _ _ _ _)
    refine x_aload_n dX4_note_90 rfl rfl (Or.inr (by decide)) (?_ : Ex _ _ 91 _ _ _ _ _)
    refine gt_4_16 c9 fl_RX4_115 dX4_note_91 (?_ : Ex _ _ 94 _ _ _ _ _)
    refine x_bipush dX4_note_94 kb_80 (by decide) (?_ : Ex _ _ 96 _ _ _ _ _)
    obtain ⟨c15, h⟩ := chk_some h
    refine x_irem dX4_note_96 c15 (by decide) (?_ : Ex _ _ 97 _ _ _ _ _)
    refine x_iload_n dX4_note_97 rfl rfl (?_ : Ex _ _ 98 _ _ _ _ _)
    obtain ⟨⟨c16, c17, c18⟩, h⟩ := chk_some h
    obtain ⟨m19, hm19, h⟩ := st_some h
    refine sd_i_80 c16 c17 c18 dX4_note_98 (?_ : Ex _ _ 99 _ _ _ _ _)
    rw [← hm19]
    refine x_aload_n dX4_note_99 rfl rfl (Or.inr (by decide)) (?_ : Ex _ _ 100 _ _ _ _ _)
    refine x_dup (by decide : (14 : Int) ≠ 2) dX4_note_100 (?_ : Ex _ _ 101 _ _ _ _ _)
    refine gt_4_16 c9 fl_RX4_115 dX4_note_101 (?_ : Ex _ _ 104 _ _ _ _ _)
    refine x_iconst dX4_note_104 rfl (by decide) (?_ : Ex _ _ 105 _ _ _ _ _)
    obtain ⟨c20, h⟩ := chk_some h
    refine x_iadd dX4_note_105 c20 (?_ : Ex _ _ 106 _ _ _ _ _)
    obtain ⟨m21, hm21, h⟩ := st_some h
    refine pt_4_16  c9 fl_RX4_115 dX4_note_106 (?_ : Ex _ _ 109 _ _ _ _ _)
    rw [← hm21]
    refine x_goto (tgt := 154) dX4_note_109 rfl (?_ : Ex _ _ 154 _ _ _ _ _)
    cases h
    exact x_retv dX4_note_154
  rcases ite_some h with ⟨b22, h⟩ | ⟨b22, h⟩
  · refine y_tableAt (j := 10) (off := 153) (tgt := 154) b22 dX4_note_1 (by decide) (by decide) rfl rfl (?_ : Ex _ _ 154 _ _ _ _ _)
    cases h
    exact x_retv dX4_note_154
  rcases ite_some h with ⟨b23, h⟩ | ⟨b23, h⟩
  · refine y_tableAt (j := 11) (off := 111) (tgt := 112) b23 dX4_note_1 (by decide) (by decide) rfl rfl (?_ : Ex _ _ 112 _ _ _ _ _)
    refine x_aload_n dX4_note_112 rfl rfl (Or.inr (by decide)) (?_ : Ex _ _ 113 _ _ _ _ _)
    refine x_aload_n dX4_note_113 rfl rfl (Or.inr (by decide)) (?_ : Ex _ _ 114 _ _ _ _ _)
    obtain ⟨c24, h⟩ := chk_some h
    refine gt_4_13 c24 fl_RX4_106 dX4_note_114 (?_ : Ex _ _ 117 _ _ _ _ _)
    refine x_iload_n dX4_note_117 rfl rfl (?_ : Ex _ _ 118 _ _ _ _ _)
    refine x_mmax mm_RX4_187 mmax_a mm_b mmax_c (Nat.le_of_ble_eq_true rfl) dX4_note_118 (?_ : Ex _ _ 121 _ _ _ _ _)
    obtain ⟨m25, hm25, h⟩ := st_some h
    refine pt_4_13  c24 fl_RX4_106 dX4_note_121 (?_ : Ex _ _ 124 _ _ _ _ _)
    rw [← hm25]
    refine x_goto (tgt := 154) dX4_note_124 rfl (?_ : Ex _ _ 154 _ _ _ _ _)
    cases h
    exact x_retv dX4_note_154
  rcases ite_some h with ⟨b26, h⟩ | ⟨b26, h⟩
  · refine y_tableAt (j := 12) (off := 126) (tgt := 127) b26 dX4_note_1 (by decide) (by decide) rfl rfl (?_ : Ex _ _ 127 _ _ _ _ _)
    refine x_aload_n dX4_note_127 rfl rfl (Or.inr (by decide)) (?_ : Ex _ _ 128 _ _ _ _ _)
    obtain ⟨c27, h⟩ := chk_some h
    refine gt_4_0 c27 fl_RX4_12 dX4_note_128 (?_ : Ex _ _ 131 _ _ _ _ _)
    refine x_bipush dX4_note_131 kb_14 (by decide) (?_ : Ex _ _ 133 _ _ _ _ _)
    refine x_iload_n dX4_note_133 rfl rfl (?_ : Ex _ _ 134 _ _ _ _ _)
    refine x_iload_n dX4_note_134 rfl rfl (?_ : Ex _ _ 135 _ _ _ _ _)
    refine x_bipush dX4_note_135 kb_100 (by decide) (?_ : Ex _ _ 137 _ _ _ _ _)
    rcases ite_some h with ⟨b28, h⟩ | ⟨b28, h⟩
    · refine x_icmp_neN dX4_note_137 (by decide) (fun hh => hh b28) (?_ : Ex _ _ 140 _ _ _ _ _)
      refine x_aload_n dX4_note_140 rfl rfl (Or.inr (by decide)) (?_ : Ex _ _ 141 _ _ _ _ _)
      refine gt_4_2 c27 fl_RX4_94 dX4_note_141 (?_ : Ex _ _ 144 _ _ _ _ _)
      refine x_goto (tgt := 148) dX4_note_144 rfl (?_ : Ex _ _ 148 _ _ _ _ _)
      refine Ex.wk (ls2 := [(3, 0), (3, 0), (3, 0), (3, 0)]) ⟨Or.inl rfl, Or.inl rfl, Or.inl rfl, Or.inl rfl, trivial⟩ ?_
      exact e_X4_note_148 d h
    · refine x_icmp_ne (tgt := 147) dX4_note_137 rfl b28 (?_ : Ex _ _ 147 _ _ _ _ _)
      refine x_iload_n dX4_note_147 rfl rfl (?_ : Ex _ _ 148 _ _ _ _ _)
      refine Ex.wk (ls2 := [(3, 0), (3, 0), (3, 0), (3, 0)]) ⟨Or.inl rfl, Or.inl rfl, Or.inl rfl, Or.inl rfl, trivial⟩ ?_
      exact e_X4_note_148 d h
  refine x_tableOut (tgt := 154) dX4_note_1 (by omega) rfl (?_ : Ex _ _ 154 _ _ _ _ _)
  cases h
  exact x_retv dX4_note_154
theorem e_X4_note (d : Nat) {a0 a1 a2 a3 : Int} {m : Mem} {v : Int} {m' : Mem} (h : X4_note a0 a1 a2 a3 m = some (v, m')) : ExM (d + 1) fm_X4_note [(14, a0), (0, a1), (0, a2), (0, a3)] m (.inl (3, 0)) m' := by
  exact ExM.of (by decide +kernel) (Nat.le_of_ble_eq_true rfl) (cat9 rfl) retV (e_X4_note_0 d h)
theorem dX4_goThrough_0 : decode cX4_goThrough 0 = .ok (.aload_n 0, 1) := by decide +kernel
theorem dX4_goThrough_1 : decode cX4_goThrough 1 = .ok (.getfield 47, 3) := by decide +kernel
theorem dX4_goThrough_4 : decode cX4_goThrough 4 = .ok (.iconst 1, 1) := by decide +kernel
theorem dX4_goThrough_5 : decode cX4_goThrough 5 = .ok (.iadd, 1) := by decide +kernel
theorem dX4_goThrough_6 : decode cX4_goThrough 6 = .ok (.istore 4, 2) := by decide +kernel
theorem dX4_goThrough_8 : decode cX4_goThrough 8 = .ok (.iload_n 1, 1) := by decide +kernel
theorem dX4_goThrough_9 : decode cX4_goThrough 9 = .ok (.tableswitch 161 5 15 #[59, 83, 161, 161, 161, 109, 161, 161, 133, 141, 148], 59) := by decide +kernel
theorem dX4_goThrough_68 : decode cX4_goThrough 68 = .ok (.aload_n 0, 1) := by decide +kernel
theorem dX4_goThrough_69 : decode cX4_goThrough 69 = .ok (.aload_n 0, 1) := by decide +kernel
theorem dX4_goThrough_70 : decode cX4_goThrough 70 = .ok (.getfield 94, 3) := by decide +kernel
theorem dX4_goThrough_73 : decode cX4_goThrough 73 = .ok (.iload_n 2, 1) := by decide +kernel
theorem dX4_goThrough_74 : decode cX4_goThrough 74 = .ok (.if_icmp .ge 10, 3) := by decide +kernel
theorem dX4_goThrough_77 : decode cX4_goThrough 77 = .ok (.iload 4, 2) := by decide +kernel
theorem dX4_goThrough_79 : decode cX4_goThrough 79 = .ok (.iload_n 3, 1) := by decide +kernel
theorem dX4_goThrough_80 : decode cX4_goThrough 80 = .ok (.iadd, 1) := by decide +kernel
theorem dX4_goThrough_81 : decode cX4_goThrough 81 = .ok (.goto 5, 3) := by decide +kernel
theorem dX4_goThrough_84 : decode cX4_goThrough 84 = .ok (.iload 4, 2) := by decide +kernel
theorem dX4_goThrough_86 : decode cX4_goThrough 86 = .ok (.putfield 47, 3) := by decide +kernel
theorem dX4_goThrough_89 : decode cX4_goThrough 89 = .ok (.goto 94, 3) := by decide +kernel
theorem dX4_goThrough_92 : decode cX4_goThrough 92 = .ok (.aload_n 0, 1) := by decide +kernel
theorem dX4_goThrough_93 : decode cX4_goThrough 93 = .ok (.aload_n 0, 1) := by decide +kernel
theorem dX4_goThrough_94 : decode cX4_goThrough 94 = .ok (.getfield 94, 3) := by decide +kernel
theorem dX4_goThrough_97 : decode cX4_goThrough 97 = .ok (.iload_n 2, 1) := by decide +kernel
theorem dX4_goThrough_98 : decode cX4_goThrough 98 = .ok (.if_icmp .ge 12, 3) := by decide +kernel
theorem dX4_goThrough_101 : decode cX4_goThrough 101 = .ok (.aload_n 0, 1) := by decide +kernel
theorem dX4_goThrough_102 : decode cX4_goThrough 102 = .ok (.getfield 47, 3) := by decide +kernel
theorem dX4_goThrough_105 : decode cX4_goThrough 105 = .ok (.iload_n 3, 1) := by decide +kernel
theorem dX4_goThrough_106 : decode cX4_goThrough 106 = .ok (.isub, 1) := by decide +kernel
theorem dX4_goThrough_107 : decode cX4_goThrough 107 = .ok (.goto 5, 3) := by decide +kernel
theorem dX4_goThrough_110 : decode cX4_goThrough 110 = .ok (.iload 4, 2) := by decide +kernel
theorem dX4_goThrough_112 : decode cX4_goThrough 112 = .ok (.putfield 47, 3) := by decide +kernel
theorem dX4_goThrough_115 : decode cX4_goThrough 115 = .ok (.goto 68, 3) := by decide +kernel
theorem dX4_goThrough_118 : decode cX4_goThrough 118 = .ok (.aload_n 0, 1) := by decide +kernel
theorem dX4_goThrough_119 : decode cX4_goThrough 119 = .ok (.aload_n 0, 1) := by decide +kernel
theorem dX4_goThrough_120 : decode cX4_goThrough 120 = .ok (.iload_n 2, 1) := by decide +kernel
theorem dX4_goThrough_121 : decode cX4_goThrough 121 = .ok (.invokevirtual 214, 3) := by decide +kernel
theorem dX4_goThrough_124 : decode cX4_goThrough 124 = .ok (.ifCond .eq 8, 3) := by decide +kernel
theorem dX4_goThrough_127 : decode cX4_goThrough 127 = .ok (.iload 4, 2) := by decide +kernel
theorem dX4_goThrough_129 : decode cX4_goThrough 129 = .ok (.goto 7, 3) := by decide +kernel
theorem dX4_goThrough_132 : decode cX4_goThrough 132 = .ok (.iload 4, 2) := by decide +kernel
theorem dX4_goThrough_134 : decode cX4_goThrough 134 = .ok (.iload_n 3, 1) := by decide +kernel
theorem dX4_goThrough_135 : decode cX4_goThrough 135 = .ok (.iadd, 1) := by decide +kernel
theorem dX4_goThrough_136 : decode cX4_goThrough 136 = .ok (.putfield 47, 3) := by decide +kernel
theorem dX4_goThrough_139 : decode cX4_goThrough 139 = .ok (.goto 44, 3) := by decide +kernel
theorem dX4_goThrough_142 : decode cX4_goThrough 142 = .ok (.aload_n 0, 1) := by decide +kernel
theorem dX4_goThrough_143 : decode cX4_goThrough 143 = .ok (.iload_n 2, 1) := by decide +kernel
theorem dX4_goThrough_144 : decode cX4_goThrough 144 = .ok (.invokevirtual 170, 3) := by decide +kernel
theorem dX4_goThrough_147 : decode cX4_goThrough 147 = .ok (.goto 36, 3) := by decide +kernel
theorem dX4_goThrough_150 : decode cX4_goThrough 150 = .ok (.aload_n 0, 1) := by decide +kernel
theorem dX4_goThrough_151 : decode cX4_goThrough 151 = .ok (.invokevirtual 218, 3) := by decide +kernel
theorem dX4_goThrough_154 : decode cX4_goThrough 154 = .ok (.goto 29, 3) := by decide +kernel
theorem dX4_goThrough_157 : decode cX4_goThrough 157 = .ok (.aload_n 0, 1) := by decide +kernel
theorem dX4_goThrough_158 : decode cX4_goThrough 158 = .ok (.bipush 21, 2) := by decide +kernel
theorem dX4_goThrough_160 : decode cX4_goThrough 160 = .ok (.aload_n 0, 1) := by decide +kernel
theorem dX4_goThrough_161 : decode cX4_goThrough 161 = .ok (.getfield 94, 3) := by decide +kernel
theorem dX4_goThrough_164 : decode cX4_goThrough 164 = .ok (.invokevirtual 184, 3) := by decide +kernel
theorem dX4_goThrough_167 : decode cX4_goThrough 167 = .ok (.goto 16, 3) := by decide +kernel
theorem dX4_goThrough_170 : decode cX4_goThrough 170 = .ok (.aload_n 0, 1) := by decide +kernel
theorem dX4_goThrough_171 : decode cX4_goThrough 171 = .ok (.iload_n 1, 1) := by decide +kernel
theorem dX4_goThrough_172 : decode cX4_goThrough 172 = .ok (.iload_n 2, 1) := by decide +kernel
theorem dX4_goThrough_173 : decode cX4_goThrough 173 = .ok (.iload_n 3, 1) := by decide +kernel
theorem dX4_goThrough_174 : decode cX4_goThrough 174 = .ok (.invokevirtual 221, 3) := by decide +kernel
theorem dX4_goThrough_177 : decode cX4_goThrough 177 = .ok (.aload_n 0, 1) := by decide +kernel
theorem dX4_goThrough_178 : decode cX4_goThrough 178 = .ok (.iload 4, 2) := by decide +kernel
theorem dX4_goThrough_180 : decode cX4_goThrough 180 = .ok (.putfield 47, 3) := by decide +kernel
theorem dX4_goThrough_183 : decode cX4_goThrough 183 = .ok (.return_, 1) := by decide +kernel
theorem e_X4_goThrough_0 (d : Nat) {l0 l1 l2 l3 : Int} {m : Mem} {v : Int} {m' : Mem} (h : X4_goThrough_0 l0 l1 l2 l3 m = some (v, m')) : Ex (d + 3) fm_X4_goThrough 0 [(14, l0), (0, l1), (0, l2), (0, l3), (3, 0)] [] m (.inl (3, 0)) m' := by
  unfold X4_goThrough_0 at h
  refine x_aload_n dX4_goThrough_0 rfl rfl (Or.inr (by decide)) (?_ : Ex _ _ 1 _ _ _ _ _)
  obtain ⟨c1, h⟩ := chk_some h
  refine gt_4_10 c1 fl_RX4_47 dX4_goThrough_1 (?_ : Ex _ _ 4 _ _ _ _ _)
  refine x_iconst dX4_goThrough_4 rfl (by decide) (?_ : Ex _ _ 5 _ _ _ _ _)
  obtain ⟨c2, h⟩ := chk_some h
  refine x_iadd dX4_goThrough_5 c2 (?_ : Ex _ _ 6 _ _ _ _ _)
  refine x_istore (ls2 := [(14, l0), (0, l1), (0, l2), (0, l3), (0, (m l0 10 + 1))]) dX4_goThrough_6 (Nat.le_of_ble_eq_true rfl) rfl (?_ : Ex _ _ 8 _ _ _ _ _)
  refine x_iload_n dX4_goThrough_8 rfl rfl (?_ : Ex _ _ 9 _ _ _ _ _)
  rcases ite_some h with ⟨b3, h⟩ | ⟨b3, h⟩
  · refine y_tableAt (j := 5) (off := 59) (tgt := 68) b3 dX4_goThrough_9 (by decide) (by decide) rfl rfl (?_ : Ex _ _ 68 _ _ _ _ _)
    refine x_aload_n dX4_goThrough_68 rfl rfl (Or.inr (by decide)) (?_ : Ex _ _ 69 _ _ _ _ _)
    refine x_aload_n dX4_goThrough_69 rfl rfl (Or.inr (by decide)) (?_ : Ex _ _ 70 _ _ _ _ _)
    refine gt_4_2 c1 fl_RX4_94 dX4_goThrough_70 (?_ : Ex _ _ 73 _ _ _ _ _)
    refine x_iload_n dX4_goThrough_73 rfl rfl (?_ : Ex _ _ 74 _ _ _ _ _)
    rcases ite_some h with ⟨b4, h⟩ | ⟨b4, h⟩
    · refine x_icmp_ge (tgt := 84) dX4_goThrough_74 rfl b4 (?_ : Ex _ _ 84 _ _ _ _ _)
      refine x_iload dX4_goThrough_84 rfl (?_ : Ex _ _ 86 _ _ _ _ _)
      obtain ⟨m5, hm5, h⟩ := st_some h
      refine pt_4_10  c1 fl_RX4_47 dX4_goThrough_86 (?_ : Ex _ _ 89 _ _ _ _ _)
      rw [← hm5]
      refine x_goto (tgt := 183) dX4_goThrough_89 rfl (?_ : Ex _ _ 183 _ _ _ _ _)
      cases h
      exact x_retv dX4_goThrough_183
    · refine x_icmp_geN dX4_goThrough_74 (by decide) b4 (?_ : Ex _ _ 77 _ _ _ _ _)
      refine x_iload dX4_goThrough_77 rfl (?_ : Ex _ _ 79 _ _ _ _ _)
      refine x_iload_n dX4_goThrough_79 rfl rfl (?_ : Ex _ _ 80 _ _ _ _ _)
      obtain ⟨c6, h⟩ := chk_some h
      refine x_iadd dX4_goThrough_80 c6 (?_ : Ex _ _ 81 _ _ _ _ _)
      refine x_goto (tgt := 86) dX4_goThrough_81 rfl (?_ : Ex _ _ 86 _ _ _ _ _)
      obtain ⟨m7, hm7, h⟩ := st_some h
      refine pt_4_10  c1 fl_RX4_47 dX4_goThrough_86 (?_ : Ex _ _ 89 _ _ _ _ _)
      rw [← hm7]
      refine x_goto (tgt := 183) dX4_goThrough_89 rfl (?_ : Ex _ _ 183 _ _ _ _ _)
      cases h
      exact x_retv dX4_goThrough_183
  rcases ite_some h with ⟨b8, h⟩ | ⟨b8, h⟩
  · refine y_tableAt (j := 6) (off := 83) (tgt := 92) b8 dX4_goThrough_9 (by decide) (by decide) rfl rfl (?_ : Ex _ _ 92 _ _ _ _ _)
    refine x_aload_n dX4_goThrough_92 rfl rfl (Or.inr (by decide)) (?_ : Ex _ _ 93 _ _ _ _ _)
    refine x_aload_n dX4_goThrough_93 rfl rfl (Or.inr (by decide)) (?_ : Ex _ _ 94 _ _ _ _ _)
    refine gt_4_2 c1 fl_RX4_94 dX4_goThrough_94 (?_ : Ex _ _ 97 _ _ _ _ _)
    refine x_iload_n dX4_goThrough_97 rfl rfl (?_ : Ex _ _ 98 _ _ _ _ _)
    rcases ite_some h with ⟨b9, h⟩ | ⟨b9, h⟩
    · refine x_icmp_ge (tgt := 110) dX4_goThrough_98 rfl b9 (?_ : Ex _ _ 110 _ _ _ _ _)
      refine x_iload dX4_goThrough_110 rfl (?_ : Ex _ _ 112 _ _ _ _ _)
      obtain ⟨m10, hm10, h⟩ := st_some h
      refine pt_4_10  c1 fl_RX4_47 dX4_goThrough_112 (?_ : Ex _ _ 115 _ _ _ _ _)
      rw [← hm10]
      refine x_goto (tgt := 183) dX4_goThrough_115 rfl (?_ : Ex _ _ 183 _ _ _ _ _)
      cases h
      exact x_retv dX4_goThrough_183
    · refine x_icmp_geN dX4_goThrough_98 (by decide) b9 (?_ : Ex _ _ 101 _ _ _ _ _)
      refine x_aload_n dX4_goThrough_101 rfl rfl (Or.inr (by decide)) (?_ : Ex _ _ 102 _ _ _ _ _)
      refine gt_4_10 c1 fl_RX4_47 dX4_goThrough_102 (?_ : Ex _ _ 105 _ _ _ _ _)
      refine x_iload_n dX4_goThrough_105 rfl rfl (?_ : Ex _ _ 106 _ _ _ _ _)
      obtain ⟨c11, h⟩ := chk_some h
      refine x_isub dX4_goThrough_106 c11 (?_ : Ex _ _ 107 _ _ _ _ _)
      refine x_goto (tgt := 112) dX4_goThrough_107 rfl (?_ : Ex _ _ 112 _ _ _ _ _)
      obtain ⟨m12, hm12, h⟩ := st_some h
      refine pt_4_10  c1 fl_RX4_47 dX4_goThrough_112 (?_ : Ex _ _ 115 _ _ _ _ _)
      rw [← hm12]
      refine x_goto (tgt := 183) dX4_goThrough_115 rfl (?_ : Ex _ _ 183 _ _ _ _ _)
      cases h
      exact x_retv dX4_goThrough_183
  rcases ite_some h with ⟨b13, h⟩ | ⟨b13, h⟩
  · refine y_tableAt (j := 7) (off := 161) (tgt := 170) b13 dX4_goThrough_9 (by decide) (by decide) rfl rfl (?_ : Ex _ _ 170 _ _ _ _ _)
    refine x_aload_n dX4_goThrough_170 rfl rfl (Or.inr (by decide)) (?_ : Ex _ _ 171 _ _ _ _ _)
    refine x_iload_n dX4_goThrough_171 rfl rfl (?_ : Ex _ _ 172 _ _ _ _ _)
    refine x_iload_n dX4_goThrough_172 rfl rfl (?_ : Ex _ _ 173 _ _ _ _ _)
    refine x_iload_n dX4_goThrough_173 rfl rfl (?_ : Ex _ _ 174 _ _ _ _ _)
    obtain ⟨v14, m15, g16, h⟩ := cal_some h
    refine cV3 (e_X4_note (d + 1) g16) (contV (?_ : Ex _ _ 177 _ _ _ _ _)) og_X4_note rfl ml_RX4_221 4 rfl rfl c1 im_X4_note se_X4_note (Nat.le_of_ble_eq_true rfl) dX4_goThrough_174
    refine x_aload_n dX4_goThrough_177 rfl rfl (Or.inr (by decide)) (?_ : Ex _ _ 178 _ _ _ _ _)
    refine x_iload dX4_goThrough_178 rfl (?_ : Ex _ _ 180 _ _ _ _ _)
    obtain ⟨m17, hm17, h⟩ := st_some h
    refine pt_4_10  c1 fl_RX4_47 dX4_goThrough_180 (?_ : Ex _ _ 183 _ _ _ _ _)
    rw [← hm17]
    cases h
    exact x_retv dX4_goThrough_183
  rcases ite_some h with ⟨b18, h⟩ | ⟨b18, h⟩
  · refine y_tableAt (j := 8) (off := 161) (tgt := 170) b18 dX4_goThrough_9 (by decide) (by decide) rfl rfl (?_ : Ex _ _ 170 _ _ _ _ _)
    refine x_aload_n dX4_goThrough_170 rfl rfl (Or.inr (by decide)) (?_ : Ex _ _ 171 _ _ _ _ _)
    refine x_iload_n dX4_goThrough_171 rfl rfl (?_ : Ex _ _ 172 _ _ _ _ _)
    refine x_iload_n dX4_goThrough_172 rfl rfl (?_ : Ex _ _ 173 _ _ _ _ _)
    refine x_iload_n dX4_goThrough_173 rfl rfl (?_ : Ex _ _ 174 _ _ _ _ _)
    obtain ⟨v19, m20, g21, h⟩ := cal_some h
    refine cV3 (e_X4_note (d + 1) g21) (contV (?_ : Ex _ _ 177 _ _ _ _ _)) og_X4_note rfl ml_RX4_221 4 rfl rfl c1 im_X4_note se_X4_note (Nat.le_of_ble_eq_true rfl) dX4_goThrough_174
    refine x_aload_n dX4_goThrough_177 rfl rfl (Or.inr (by decide)) (?_ : Ex _ _ 178 _ _ _ _ _)
    refine x_iload dX4_goThrough_178 rfl (?_ : Ex _ _ 180 _ _ _ _ _)
    obtain ⟨m22, hm22, h⟩ := st_some h
    refine pt_4_10  c1 fl_RX4_47 dX4_goThrough_180 (?_ : Ex _ _ 183 _ _ _ _ _)
    rw [← hm22]
    cases h
    exact x_retv dX4_goThrough_183
  rcases ite_some h with ⟨b23, h⟩ | ⟨b23, h⟩
  · refine y_tableAt (j := 9) (off := 161) (tgt := 170) b23 dX4_goThrough_9 (by decide) (by decide) rfl rfl (?_ : Ex _ _ 170 _ _ _ _ _)
    refine x_aload_n dX4_goThrough_170 rfl rfl (Or.inr (by decide)) (?_ : Ex _ _ 171 _ _ _ _ _)
    refine x_iload_n dX4_goThrough_171 rfl rfl (?_ : Ex _ _ 172 _ _ _ _ _)
    refine x_iload_n dX4_goThrough_172 rfl rfl (?_ : Ex _ _ 173 _ _ _ _ _)
    refine x_iload_n dX4_goThrough_173 rfl rfl (?_ : Ex _ _ 174 _ _ _ _ _)
    obtain ⟨v24, m25, g26, h⟩ := cal_some h
    refine cV3 (e_X4_note (d + 1) g26) (contV (?_ : Ex _ _ 177 _ _ _ _ _)) og_X4_note rfl ml_RX4_221 4 rfl rfl c1 im_X4_note se_X4_note (Nat.le_of_ble_eq_true rfl) dX4_goThrough_174
    refine x_aload_n dX4_goThrough_177 rfl rfl (Or.inr (by decide)) (?_ : Ex _ _ 178 _ _ _ _ _)
    refine x_iload dX4_goThrough_178 rfl (?_ : Ex _ _ 180 _ _ _ _ _)
    obtain ⟨m27, hm27, h⟩ := st_some h
    refine pt_4_10  c1 fl_RX4_47 dX4_goThrough_180 (?_ : Ex _ _ 183 _ _ _ _ _)
    rw [← hm27]
    cases h
    exact x_retv dX4_goThrough_183
  rcases ite_some h with ⟨b28, h⟩ | ⟨b28, h⟩
  · refine y_tableAt (j := 10) (off := 109) (tgt := 118) b28 dX4_goThrough_9 (by decide) (by decide) rfl rfl (?_ : Ex _ _ 118 _ _ _ _ _)
    refine x_aload_n dX4_goThrough_118 rfl rfl (Or.inr (by decide)) (?_ : Ex _ _ 119 _ _ _ _ _)
    refine x_aload_n dX4_goThrough_119 rfl rfl (Or.inr (by decide)) (?_ : Ex _ _ 120 _ _ _ _ _)
    refine x_iload_n dX4_goThrough_120 rfl rfl (?_ : Ex _ _ 121 _ _ _ _ _)
    obtain ⟨v29, m30, g31, h⟩ := cal_some h
    refine cV1 (e_X4_passesMark (d + 1) g31) (contN (by decide) (?_ : Ex _ _ 124 _ _ _ _ _)) og_X4_passesMark rfl ml_RX4_214 4 rfl rfl c1 im_X4_passesMark se_X4_passesMark (Nat.le_of_ble_eq_true rfl) dX4_goThrough_121
    rcases ite_some h with ⟨b32, h⟩ | ⟨b32, h⟩
    · refine x_if_eq (tgt := 132) dX4_goThrough_124 rfl b32 (?_ : Ex _ _ 132 _ _ _ _ _)
      refine x_iload dX4_goThrough_132 rfl (?_ : Ex _ _ 134 _ _ _ _ _)
      refine x_iload_n dX4_goThrough_134 rfl rfl (?_ : Ex _ _ 135 _ _ _ _ _)
      obtain ⟨c33, h⟩ := chk_some h
      refine x_iadd dX4_goThrough_135 c33 (?_ : Ex _ _ 136 _ _ _ _ _)
      obtain ⟨m34, hm34, h⟩ := st_some h
      refine pt_4_10  c1 fl_RX4_47 dX4_goThrough_136 (?_ : Ex _ _ 139 _ _ _ _ _)
      rw [← hm34]
      refine x_goto (tgt := 183) dX4_goThrough_139 rfl (?_ : Ex _ _ 183 _ _ _ _ _)
      cases h
      exact x_retv dX4_goThrough_183
    · refine x_if_eqN dX4_goThrough_124 (by decide) b32 (?_ : Ex _ _ 127 _ _ _ _ _)
      refine x_iload dX4_goThrough_127 rfl (?_ : Ex _ _ 129 _ _ _ _ _)
      refine x_goto (tgt := 136) dX4_goThrough_129 rfl (?_ : Ex _ _ 136 _ _ _ _ _)
      obtain ⟨m35, hm35, h⟩ := st_some h
      refine pt_4_10  c1 fl_RX4_47 dX4_goThrough_136 (?_ : Ex _ _ 139 _ _ _ _ _)
      rw [← hm35]
      refine x_goto (tgt := 183) dX4_goThrough_139 rfl (?_ : Ex _ _ 183 _ _ _ _ _)
      cases h
      exact x_retv dX4_goThrough_183
  rcases ite_some h with ⟨b36, h⟩ | ⟨b36, h⟩
  · refine y_tableAt (j := 11) (off := 161) (tgt := 170) b36 dX4_goThrough_9 (by decide) (by decide) rfl rfl (?_ : Ex _ _ 170 _ _ _ _ _)
    refine x_aload_n dX4_goThrough_170 rfl rfl (Or.inr (by decide)) (?_ : Ex _ _ 171 _ _ _ _ _)
    refine x_iload_n dX4_goThrough_171 rfl rfl (?_ : Ex _ _ 172 _ _ _ _ _)
    refine x_iload_n dX4_goThrough_172 rfl rfl (?_ : Ex _ _ 173 _ _ _ _ _)
    refine x_iload_n dX4_goThrough_173 rfl rfl (?_ : Ex _ _ 174 _ _ _ _ _)
    obtain ⟨v37, m38, g39, h⟩ := cal_some h
    refine cV3 (e_X4_note (d + 1) g39) (contV (?_ : Ex _ _ 177 _ _ _ _ _)) og_X4_note rfl ml_RX4_221 4 rfl rfl c1 im_X4_note se_X4_note (Nat.le_of_ble_eq_true rfl) dX4_goThrough_174
    refine x_aload_n dX4_goThrough_177 rfl rfl (Or.inr (by decide)) (?_ : Ex _ _ 178 _ _ _ _ _)
    refine x_iload dX4_goThrough_178 rfl (?_ : Ex _ _ 180 _ _ _ _ _)
    obtain ⟨m40, hm40, h⟩ := st_some h
    refine pt_4_10  c1 fl_RX4_47 dX4_goThrough_180 (?_ : Ex _ _ 183 _ _ _ _ _)
    rw [← hm40]
    cases h
    exact x_retv dX4_goThrough_183
  rcases ite_some h with ⟨b41, h⟩ | ⟨b41, h⟩
  · refine y_tableAt (j := 12) (off := 161) (tgt := 170) b41 dX4_goThrough_9 (by decide) (by decide) rfl rfl (?_ : Ex _ _ 170 _ _ _ _ _)
    refine x_aload_n dX4_goThrough_170 rfl rfl (Or.inr (by decide)) (?_ : Ex _ _ 171 _ _ _ _ _)
    refine x_iload_n dX4_goThrough_171 rfl rfl (?_ : Ex _ _ 172 _ _ _ _ _)
    refine x_iload_n dX4_goThrough_172 rfl rfl (?_ : Ex _ _ 173 _ _ _ _ _)
    refine x_iload_n dX4_goThrough_173 rfl rfl (?_ : Ex _ _ 174 _ _ _ _ _)
    obtain ⟨v42, m43, g44, h⟩ := cal_some h
    refine cV3 (e_X4_note (d + 1) g44) (contV (?_ : Ex _ _ 177 _ _ _ _ _)) og_X4_note rfl ml_RX4_221 4 rfl rfl c1 im_X4_note se_X4_note (Nat.le_of_ble_eq_true rfl) dX4_goThrough_174
    refine x_aload_n dX4_goThrough_177 rfl rfl (Or.inr (by decide)) (?_ : Ex _ _ 178 _ _ _ _ _)
    refine x_iload dX4_goThrough_178 rfl (?_ : Ex _ _ 180 _ _ _ _ _)
    obtain ⟨m45, hm45, h⟩ := st_some h
    refine pt_4_10  c1 fl_RX4_47 dX4_goThrough_180 (?_ : Ex _ _ 183 _ _ _ _ _)
    rw [← hm45]
    cases h
    exact x_retv dX4_goThrough_183
  rcases ite_some h with ⟨b46, h⟩ | ⟨b46, h⟩
  · refine y_tableAt (j := 13) (off := 133) (tgt := 142) b46 dX4_goThrough_9 (by decide) (by decide) rfl rfl (?_ : Ex _ _ 142 _ _ _ _ _)
    refine x_aload_n dX4_goThrough_142 rfl rfl (Or.inr (by decide)) (?_ : Ex _ _ 143 _ _ _ _ _)
    refine x_iload_n dX4_goThrough_143 rfl rfl (?_ : Ex _ _ 144 _ _ _ _ _)
    obtain ⟨v47, m48, g49, h⟩ := cal_some h
    refine cV1 (e_X4_backOut (d + 2) g49) (contV (?_ : Ex _ _ 147 _ _ _ _ _)) og_X4_backOut rfl ml_RX4_170 4 rfl rfl c1 im_X4_backOut se_X4_backOut (Nat.le_of_ble_eq_true rfl) dX4_goThrough_144
    refine x_goto (tgt := 183) dX4_goThrough_147 rfl (?_ : Ex _ _ 183 _ _ _ _ _)
    cases h
    exact x_retv dX4_goThrough_183
  rcases ite_some h with ⟨b50, h⟩ | ⟨b50, h⟩
  · refine y_tableAt (j := 14) (off := 141) (tgt := 150) b50 dX4_goThrough_9 (by decide) (by decide) rfl rfl (?_ : Ex _ _ 150 _ _ _ _ _)
    refine x_aload_n dX4_goThrough_150 rfl rfl (Or.inr (by decide)) (?_ : Ex _ _ 151 _ _ _ _ _)
    obtain ⟨v51, m52, g53, h⟩ := cal_some h
    refine cV0 (e_X4_goAgain d g53) (contV (?_ : Ex _ _ 154 _ _ _ _ _)) og_X4_goAgain rfl ml_RX4_218 4 rfl rfl c1 im_X4_goAgain se_X4_goAgain (Nat.le_of_ble_eq_true rfl) dX4_goThrough_151
    refine x_goto (tgt := 183) dX4_goThrough_154 rfl (?_ : Ex _ _ 183 _ _ _ _ _)
    cases h
    exact x_retv dX4_goThrough_183
  rcases ite_some h with ⟨b54, h⟩ | ⟨b54, h⟩
  · refine y_tableAt (j := 15) (off := 148) (tgt := 157) b54 dX4_goThrough_9 (by decide) (by decide) rfl rfl (?_ : Ex _ _ 157 _ _ _ _ _)
    refine x_aload_n dX4_goThrough_157 rfl rfl (Or.inr (by decide)) (?_ : Ex _ _ 158 _ _ _ _ _)
    refine x_bipush dX4_goThrough_158 kb_21 (by decide) (?_ : Ex _ _ 160 _ _ _ _ _)
    refine x_aload_n dX4_goThrough_160 rfl rfl (Or.inr (by decide)) (?_ : Ex _ _ 161 _ _ _ _ _)
    refine gt_4_2 c1 fl_RX4_94 dX4_goThrough_161 (?_ : Ex _ _ 164 _ _ _ _ _)
    obtain ⟨v55, m56, g57, h⟩ := cal_some h
    refine cV2 (e_X4_finish (d + 1) g57) (contV (?_ : Ex _ _ 167 _ _ _ _ _)) og_X4_finish rfl ml_RX4_184 4 rfl rfl c1 im_X4_finish se_X4_finish (Nat.le_of_ble_eq_true rfl) dX4_goThrough_164
    refine x_goto (tgt := 183) dX4_goThrough_167 rfl (?_ : Ex _ _ 183 _ _ _ _ _)
    cases h
    exact x_retv dX4_goThrough_183
  refine x_tableOut (tgt := 170) dX4_goThrough_9 (by omega) rfl (?_ : Ex _ _ 170 _ _ _ _ _)
  refine x_aload_n dX4_goThrough_170 rfl rfl (Or.inr (by decide)) (?_ : Ex _ _ 171 _ _ _ _ _)
  refine x_iload_n dX4_goThrough_171 rfl rfl (?_ : Ex _ _ 172 _ _ _ _ _)
  refine x_iload_n dX4_goThrough_172 rfl rfl (?_ : Ex _ _ 173 _ _ _ _ _)
  refine x_iload_n dX4_goThrough_173 rfl rfl (?_ : Ex _ _ 174 _ _ _ _ _)
  obtain ⟨v58, m59, g60, h⟩ := cal_some h
  refine cV3 (e_X4_note (d + 1) g60) (contV (?_ : Ex _ _ 177 _ _ _ _ _)) og_X4_note rfl ml_RX4_221 4 rfl rfl c1 im_X4_note se_X4_note (Nat.le_of_ble_eq_true rfl) dX4_goThrough_174
  refine x_aload_n dX4_goThrough_177 rfl rfl (Or.inr (by decide)) (?_ : Ex _ _ 178 _ _ _ _ _)
  refine x_iload dX4_goThrough_178 rfl (?_ : Ex _ _ 180 _ _ _ _ _)
  obtain ⟨m61, hm61, h⟩ := st_some h
  refine pt_4_10  c1 fl_RX4_47 dX4_goThrough_180 (?_ : Ex _ _ 183 _ _ _ _ _)
  rw [← hm61]
  cases h
  exact x_retv dX4_goThrough_183
theorem e_X4_goThrough (d : Nat) {a0 a1 a2 a3 : Int} {m : Mem} {v : Int} {m' : Mem} (h : X4_goThrough a0 a1 a2 a3 m = some (v, m')) : ExM (d + 3) fm_X4_goThrough [(14, a0), (0, a1), (0, a2), (0, a3)] m (.inl (3, 0)) m' := by
  exact ExM.of (by decide +kernel) (Nat.le_of_ble_eq_true rfl) (cat9 rfl) retV (e_X4_goThrough_0 d h)
theorem dX8_clear_0 : decode cX8_clear 0 = .ok (.aload_n 0, 1) := by decide +kernel
theorem dX8_clear_1 : decode cX8_clear 1 = .ok (.iload_n 1, 1) := by decide +kernel
theorem dX8_clear_2 : decode cX8_clear 2 = .ok (.putfield 9, 3) := by decide +kernel
theorem dX8_clear_5 : decode cX8_clear 5 = .ok (.aload_n 0, 1) := by decide +kernel
theorem dX8_clear_6 : decode cX8_clear 6 = .ok (.iconst (-1), 1) := by decide +kernel
theorem dX8_clear_7 : decode cX8_clear 7 = .ok (.putfield 15, 3) := by decide +kernel
theorem dX8_clear_10 : decode cX8_clear 10 = .ok (.aload_n 0, 1) := by decide +kernel
theorem dX8_clear_11 : decode cX8_clear 11 = .ok (.iconst (-1), 1) := by decide +kernel
theorem dX8_clear_12 : decode cX8_clear 12 = .ok (.putfield 18, 3) := by decide +kernel
theorem dX8_clear_15 : decode cX8_clear 15 = .ok (.aload_n 0, 1) := by decide +kernel
theorem dX8_clear_16 : decode cX8_clear 16 = .ok (.iconst (-1), 1) := by decide +kernel
theorem dX8_clear_17 : decode cX8_clear 17 = .ok (.putfield 21, 3) := by decide +kernel
theorem dX8_clear_20 : decode cX8_clear 20 = .ok (.aload_n 0, 1) := by decide +kernel
theorem dX8_clear_21 : decode cX8_clear 21 = .ok (.iconst (-1), 1) := by decide +kernel
theorem dX8_clear_22 : decode cX8_clear 22 = .ok (.putfield 24, 3) := by decide +kernel
theorem dX8_clear_25 : decode cX8_clear 25 = .ok (.aload_n 0, 1) := by decide +kernel
theorem dX8_clear_26 : decode cX8_clear 26 = .ok (.iconst 0, 1) := by decide +kernel
theorem dX8_clear_27 : decode cX8_clear 27 = .ok (.putfield 27, 3) := by decide +kernel
theorem dX8_clear_30 : decode cX8_clear 30 = .ok (.aload_n 0, 1) := by decide +kernel
theorem dX8_clear_31 : decode cX8_clear 31 = .ok (.iconst 0, 1) := by decide +kernel
theorem dX8_clear_32 : decode cX8_clear 32 = .ok (.putfield 30, 3) := by decide +kernel
theorem dX8_clear_35 : decode cX8_clear 35 = .ok (.aload_n 0, 1) := by decide +kernel
theorem dX8_clear_36 : decode cX8_clear 36 = .ok (.iconst 0, 1) := by decide +kernel
theorem dX8_clear_37 : decode cX8_clear 37 = .ok (.putfield 34, 3) := by decide +kernel
theorem dX8_clear_40 : decode cX8_clear 40 = .ok (.return_, 1) := by decide +kernel
theorem e_X8_clear_0 (d : Nat) {l0 l1 : Int} {m : Mem} {v : Int} {m' : Mem} (h : X8_clear_0 l0 l1 m = some (v, m')) : Ex d fm_X8_clear 0 [(18, l0), (0, l1)] [] m (.inl (3, 0)) m' := by
  unfold X8_clear_0 at h
  refine x_aload_n dX8_clear_0 rfl rfl (Or.inr (by decide)) (?_ : Ex _ _ 1 _ _ _ _ _)
  refine x_iload_n dX8_clear_1 rfl rfl (?_ : Ex _ _ 2 _ _ _ _ _)
  obtain ⟨c1, h⟩ := chk_some h
  obtain ⟨m2, hm2, h⟩ := st_some h
  refine pt_8_0  c1 fl_RX8_9 dX8_clear_2 (?_ : Ex _ _ 5 _ _ _ _ _)
  rw [← hm2]
  refine x_aload_n dX8_clear_5 rfl rfl (Or.inr (by decide)) (?_ : Ex _ _ 6 _ _ _ _ _)
  refine x_iconst dX8_clear_6 rfl (by decide) (?_ : Ex _ _ 7 _ _ _ _ _)
  obtain ⟨m3, hm3, h⟩ := st_some h
  refine pt_8_1  c1 fl_RX8_15 dX8_clear_7 (?_ : Ex _ _ 10 _ _ _ _ _)
  rw [← hm3]
  refine x_aload_n dX8_clear_10 rfl rfl (Or.inr (by decide)) (?_ : Ex _ _ 11 _ _ _ _ _)
  refine x_iconst dX8_clear_11 rfl (by decide) (?_ : Ex _ _ 12 _ _ _ _ _)
  obtain ⟨m4, hm4, h⟩ := st_some h
  refine pt_8_2  c1 fl_RX8_18 dX8_clear_12 (?_ : Ex _ _ 15 _ _ _ _ _)
  rw [← hm4]
  refine x_aload_n dX8_clear_15 rfl rfl (Or.inr (by decide)) (?_ : Ex _ _ 16 _ _ _ _ _)
  refine x_iconst dX8_clear_16 rfl (by decide) (?_ : Ex _ _ 17 _ _ _ _ _)
  obtain ⟨m5, hm5, h⟩ := st_some h
  refine pt_8_3  c1 fl_RX8_21 dX8_clear_17 (?_ : Ex _ _ 20 _ _ _ _ _)
  rw [← hm5]
  refine x_aload_n dX8_clear_20 rfl rfl (Or.inr (by decide)) (?_ : Ex _ _ 21 _ _ _ _ _)
  refine x_iconst dX8_clear_21 rfl (by decide) (?_ : Ex _ _ 22 _ _ _ _ _)
  obtain ⟨m6, hm6, h⟩ := st_some h
  refine pt_8_4  c1 fl_RX8_24 dX8_clear_22 (?_ : Ex _ _ 25 _ _ _ _ _)
  rw [← hm6]
  refine x_aload_n dX8_clear_25 rfl rfl (Or.inr (by decide)) (?_ : Ex _ _ 26 _ _ _ _ _)
  refine x_iconst dX8_clear_26 rfl (by decide) (?_ : Ex _ _ 27 _ _ _ _ _)
  obtain ⟨m7, hm7, h⟩ := st_some h
  refine pt_8_5  c1 fl_RX8_27 dX8_clear_27 (?_ : Ex _ _ 30 _ _ _ _ _)
  rw [← hm7]
  refine x_aload_n dX8_clear_30 rfl rfl (Or.inr (by decide)) (?_ : Ex _ _ 31 _ _ _ _ _)
  refine x_iconst dX8_clear_31 rfl (by decide) (?_ : Ex _ _ 32 _ _ _ _ _)
  obtain ⟨m8, hm8, h⟩ := st_some h
  refine pt_8_6  c1 (by decide) fl_RX8_30 dX8_clear_32 (?_ : Ex _ _ 35 _ _ _ _ _)
  rw [← hm8]
  refine x_aload_n dX8_clear_35 rfl rfl (Or.inr (by decide)) (?_ : Ex _ _ 36 _ _ _ _ _)
  refine x_iconst dX8_clear_36 rfl (by decide) (?_ : Ex _ _ 37 _ _ _ _ _)
  obtain ⟨m9, hm9, h⟩ := st_some h
  refine pt_8_7  c1 (by decide) fl_RX8_34 dX8_clear_37 (?_ : Ex _ _ 40 _ _ _ _ _)
  rw [← hm9]
  cases h
  exact x_retv dX8_clear_40
theorem e_X8_clear (d : Nat) {a0 a1 : Int} {m : Mem} {v : Int} {m' : Mem} (h : X8_clear a0 a1 m = some (v, m')) : ExM d fm_X8_clear [(18, a0), (0, a1)] m (.inl (3, 0)) m' := by
  exact ExM.of (by decide +kernel) (Nat.le_of_ble_eq_true rfl) (cat9 rfl) retV (e_X8_clear_0 d h)
theorem dX4_beginWait_0 : decode cX4_beginWait 0 = .ok (.aload_n 0, 1) := by decide +kernel
theorem dX4_beginWait_1 : decode cX4_beginWait 1 = .ok (.getfield 12, 3) := by decide +kernel
theorem dX4_beginWait_4 : decode cX4_beginWait 4 = .ok (.getfield 248, 3) := by decide +kernel
theorem dX4_beginWait_7 : decode cX4_beginWait 7 = .ok (.astore 4, 2) := by decide +kernel
theorem dX4_beginWait_9 : decode cX4_beginWait 9 = .ok (.aload_n 1, 1) := by decide +kernel
theorem dX4_beginWait_10 : decode cX4_beginWait 10 = .ok (.iload_n 2, 1) := by decide +kernel
theorem dX4_beginWait_11 : decode cX4_beginWait 11 = .ok (.putfield 155, 3) := by decide +kernel
theorem dX4_beginWait_14 : decode cX4_beginWait 14 = .ok (.iconst 0, 1) := by decide +kernel
theorem dX4_beginWait_15 : decode cX4_beginWait 15 = .ok (.istore 5, 2) := by decide +kernel
theorem dX4_beginWait_17 : decode cX4_beginWait 17 = .ok (.iload 5, 2) := by decide +kernel
theorem dX4_beginWait_19 : decode cX4_beginWait 19 = .ok (.aload_n 0, 1) := by decide +kernel
theorem dX4_beginWait_20 : decode cX4_beginWait 20 = .ok (.getfield 72, 3) := by decide +kernel
theorem dX4_beginWait_23 : decode cX4_beginWait 23 = .ok (.if_icmp .ge 70, 3) := by decide +kernel
theorem dX4_beginWait_26 : decode cX4_beginWait 26 = .ok (.iload 5, 2) := by decide +kernel
theorem dX4_beginWait_28 : decode cX4_beginWait 28 = .ok (.bipush 80, 2) := by decide +kernel
theorem dX4_beginWait_30 : decode cX4_beginWait 30 = .ok (.if_icmp .ge 63, 3) := by decide +kernel
theorem dX4_beginWait_33 : decode cX4_beginWait 33 = .ok (.aload 4, 2) := by decide +kernel
theorem dX4_beginWait_35 : decode cX4_beginWait 35 = .ok (.getfield 63, 3) := by decide +kernel
theorem dX4_beginWait_38 : decode cX4_beginWait 38 = .ok (.iload 5, 2) := by decide +kernel
theorem dX4_beginWait_40 : decode cX4_beginWait 40 = .ok (.iaload, 1) := by decide +kernel
theorem dX4_beginWait_41 : decode cX4_beginWait 41 = .ok (.iconst 4, 1) := by decide +kernel
theorem dX4_beginWait_42 : decode cX4_beginWait 42 = .ok (.if_icmp .ne 45, 3) := by decide +kernel
theorem dX4_beginWait_45 : decode cX4_beginWait 45 = .ok (.aload 4, 2) := by decide +kernel
theorem dX4_beginWait_47 : decode cX4_beginWait 47 = .ok (.getfield 75, 3) := by decide +kernel
theorem dX4_beginWait_50 : decode cX4_beginWait 50 = .ok (.iload 5, 2) := by decide +kernel
theorem dX4_beginWait_52 : decode cX4_beginWait 52 = .ok (.iaload, 1) := by decide +kernel
theorem dX4_beginWait_53 : decode cX4_beginWait 53 = .ok (.iload_n 2, 1) := by decide +kernel
theorem dX4_beginWait_54 : decode cX4_beginWait 54 = .ok (.if_icmp .ne 33, 3) := by decide +kernel
theorem dX4_beginWait_57 : decode cX4_beginWait 57 = .ok (.aload_n 0, 1) := by decide +kernel
theorem dX4_beginWait_58 : decode cX4_beginWait 58 = .ok (.getfield 18, 3) := by decide +kernel
theorem dX4_beginWait_61 : decode cX4_beginWait 61 = .ok (.iload 5, 2) := by decide +kernel
theorem dX4_beginWait_63 : decode cX4_beginWait 63 = .ok (.baload, 1) := by decide +kernel
theorem dX4_beginWait_64 : decode cX4_beginWait 64 = .ok (.ifCond .ne 23, 3) := by decide +kernel
theorem dX4_beginWait_67 : decode cX4_beginWait 67 = .ok (.aload_n 0, 1) := by decide +kernel
theorem dX4_beginWait_68 : decode cX4_beginWait 68 = .ok (.iload 5, 2) := by decide +kernel
theorem dX4_beginWait_70 : decode cX4_beginWait 70 = .ok (.invokevirtual 158, 3) := by decide +kernel
theorem dX4_beginWait_73 : decode cX4_beginWait 73 = .ok (.aload_n 1, 1) := by decide +kernel
theorem dX4_beginWait_74 : decode cX4_beginWait 74 = .ok (.aload 4, 2) := by decide +kernel
theorem dX4_beginWait_76 : decode cX4_beginWait 76 = .ok (.getfield 78, 3) := by decide +kernel
theorem dX4_beginWait_79 : decode cX4_beginWait 79 = .ok (.iload 5, 2) := by decide +kernel
theorem dX4_beginWait_81 : decode cX4_beginWait 81 = .ok (.iaload, 1) := by decide +kernel
theorem dX4_beginWait_82 : decode cX4_beginWait 82 = .ok (.iconst 0, 1) := by decide +kernel
theorem dX4_beginWait_83 : decode cX4_beginWait 83 = .ok (.invokevirtual 145, 3) := by decide +kernel
theorem dX4_beginWait_86 : decode cX4_beginWait 86 = .ok (.return_, 1) := by decide +kernel
theorem dX4_beginWait_87 : decode cX4_beginWait 87 = .ok (.iinc 5 1, 3) := by decide +kernel
theorem dX4_beginWait_90 : decode cX4_beginWait 90 = .ok (.goto (-73), 3) := by decide +kernel
theorem dX4_beginWait_93 : decode cX4_beginWait 93 = .ok (.iload_n 3, 1) := by decide +kernel
theorem dX4_beginWait_94 : decode cX4_beginWait 94 = .ok (.ifCond .le 25, 3) := by decide +kernel
theorem dX4_beginWait_97 : decode cX4_beginWait 97 = .ok (.aload_n 1, 1) := by decide +kernel
theorem dX4_beginWait_98 : decode cX4_beginWait 98 = .ok (.aload_n 0, 1) := by decide +kernel
theorem dX4_beginWait_99 : decode cX4_beginWait 99 = .ok (.getfield 12, 3) := by decide +kernel
theorem dX4_beginWait_102 : decode cX4_beginWait 102 = .ok (.getfield 238, 3) := by decide +kernel
theorem dX4_beginWait_105 : decode cX4_beginWait 105 = .ok (.putfield 149, 3) := by decide +kernel
theorem dX4_beginWait_108 : decode cX4_beginWait 108 = .ok (.aload_n 0, 1) := by decide +kernel
theorem dX4_beginWait_109 : decode cX4_beginWait 109 = .ok (.getfield 12, 3) := by decide +kernel
theorem dX4_beginWait_112 : decode cX4_beginWait 112 = .ok (.bipush 10, 2) := by decide +kernel
theorem dX4_beginWait_114 : decode cX4_beginWait 114 = .ok (.iload_n 3, 1) := by decide +kernel
theorem dX4_beginWait_115 : decode cX4_beginWait 115 = .ok (.iconst 0, 1) := by decide +kernel
theorem dX4_beginWait_116 : decode cX4_beginWait 116 = .ok (.invokevirtual 161, 3) := by decide +kernel
theorem dX4_beginWait_119 : decode cX4_beginWait 119 = .ok (.return_, 1) := by decide +kernel
theorem e_X4_beginWait_67 (d : Nat) {l0 l1 l4 l5 : Int} {m : Mem} {v : Int} {m' : Mem} (h : X4_beginWait_67 l0 l1 l4 l5 m = some (v, m')) : Ex (d + 1) fm_X4_beginWait 67 [(14, l0), (18, l1), (3, 0), (3, 0), (13, l4), (0, l5)] [] m (.inl (3, 0)) m' := by
  unfold X4_beginWait_67 at h
  refine x_aload_n dX4_beginWait_67 rfl rfl (Or.inr (by decide)) (?_ : Ex _ _ 68 _ _ _ _ _)
  refine x_iload dX4_beginWait_68 rfl (?_ : Ex _ _ 70 _ _ _ _ _)
  obtain ⟨c1, h⟩ := chk_some h
  obtain ⟨v2, m3, g4, h⟩ := cal_some h
  refine cV1 (e_X4_noteTaken d g4) (contV (?_ : Ex _ _ 73 _ _ _ _ _)) og_X4_noteTaken rfl ml_RX4_158 4 rfl rfl c1 im_X4_noteTaken se_X4_noteTaken (Nat.le_of_ble_eq_true rfl) dX4_beginWait_70
  refine x_aload_n dX4_beginWait_73 rfl rfl (Or.inr (by decide)) (?_ : Ex _ _ 74 _ _ _ _ _)
  refine x_aload dX4_beginWait_74 rfl (Or.inr (by decide)) (?_ : Ex _ _ 76 _ _ _ _ _)
  obtain ⟨c5, h⟩ := chk_some h
  refine gt_3_2 c5 fl_RX4_78 dX4_beginWait_76 (?_ : Ex _ _ 79 _ _ _ _ _)
  refine x_iload dX4_beginWait_79 rfl (?_ : Ex _ _ 81 _ _ _ _ _)
  obtain ⟨⟨c6, c7, c8⟩, h⟩ := chk_some h
  refine ld_i_80 c6 c7 c8 dX4_beginWait_81 (?_ : Ex _ _ 82 _ _ _ _ _)
  refine x_iconst dX4_beginWait_82 rfl (by decide) (?_ : Ex _ _ 83 _ _ _ _ _)
  obtain ⟨c9, h⟩ := chk_some h
  obtain ⟨v10, m11, g12, h⟩ := cal_some h
  refine cV2 (e_X8_become d g12) (contV (?_ : Ex _ _ 86 _ _ _ _ _)) og_X8_become rfl ml_RX4_145 8 rfl rfl c9 im_X8_become se_X8_become (Nat.le_of_ble_eq_true rfl) dX4_beginWait_83
  cases h
  exact x_retv dX4_beginWait_86
theorem e_X4_beginWait_93 (d : Nat) {l0 l1 l3 : Int} {m : Mem} {v : Int} {m' : Mem} (h : X4_beginWait_93 l0 l1 l3 m = some (v, m')) : Ex (d + 1) fm_X4_beginWait 93 [(14, l0), (18, l1), (3, 0), (0, l3), (3, 0), (3, 0)] [] m (.inl (3, 0)) m' := by
  unfold X4_beginWait_93 at h
  refine x_iload_n dX4_beginWait_93 rfl rfl (?_ : Ex _ _ 94 _ _ _ _ _)
  rcases ite_some h with ⟨b1, h⟩ | ⟨b1, h⟩
  · refine x_if_le (tgt := 119) dX4_beginWait_94 rfl b1 (?_ : Ex _ _ 119 _ _ _ _ _)
    cases h
    exact x_retv dX4_beginWait_119
  · refine x_if_leN dX4_beginWait_94 (by decide) b1 (?_ : Ex _ _ 97 _ _ _ _ _)
    refine x_aload_n dX4_beginWait_97 rfl rfl (Or.inr (by decide)) (?_ : Ex _ _ 98 _ _ _ _ _)
    refine x_aload_n dX4_beginWait_98 rfl rfl (Or.inr (by decide)) (?_ : Ex _ _ 99 _ _ _ _ _)
    obtain ⟨c2, h⟩ := chk_some h
    refine gt_4_0 c2 fl_RX4_12 dX4_beginWait_99 (?_ : Ex _ _ 102 _ _ _ _ _)
    obtain ⟨c3, h⟩ := chk_some h
    refine gt_1_5 c3 fl_RX4_238 dX4_beginWait_102 (?_ : Ex _ _ 105 _ _ _ _ _)
    obtain ⟨c4, h⟩ := chk_some h
    obtain ⟨m5, hm5, h⟩ := st_some h
    refine pt_8_2  c4 fl_RX4_149 dX4_beginWait_105 (?_ : Ex _ _ 108 _ _ _ _ _)
    rw [← hm5]
    refine x_aload_n dX4_beginWait_108 rfl rfl (Or.inr (by decide)) (?_ : Ex _ _ 109 _ _ _ _ _)
    refine gt_4_0 c2 fl_RX4_12 dX4_beginWait_109 (?_ : Ex _ _ 112 _ _ _ _ _)
    refine x_bipush dX4_beginWait_112 kb_10 (by decide) (?_ : Ex _ _ 114 _ _ _ _ _)
    refine x_iload_n dX4_beginWait_114 rfl rfl (?_ : Ex _ _ 115 _ _ _ _ _)
    refine x_iconst dX4_beginWait_115 rfl (by decide) (?_ : Ex _ _ 116 _ _ _ _ _)
    obtain ⟨c6, h⟩ := chk_some h
    obtain ⟨v7, m8, g9, h⟩ := cal_some h
    refine cV3 (e_X1_put d g9) (contV (?_ : Ex _ _ 119 _ _ _ _ _)) og_X1_put rfl ml_RX4_161 1 rfl rfl c6 im_X1_put se_X1_put (Nat.le_of_ble_eq_true rfl) dX4_beginWait_116
    cases h
    exact x_retv dX4_beginWait_119
theorem e_X4_beginWait_17 (d : Nat) {k67 : Int → Int → Int → Int → Mem → Option R2} (hk67 : ∀ {l0 l1 l4 l5 : Int} {m : Mem} {v : Int} {m' : Mem}, k67 l0 l1 l4 l5 m = some (v, m') → Ex (d + 1) fm_X4_beginWait 67 [(14, l0), (18, l1), (3, 0), (3, 0), (13, l4), (0, l5)] [] m (.inl (3, 0)) m') {k93 : Int → Int → Int → Mem → Option R2} (hk93 : ∀ {l0 l1 l3 : Int} {m : Mem} {v : Int} {m' : Mem}, k93 l0 l1 l3 m = some (v, m') → Ex (d + 1) fm_X4_beginWait 93 [(14, l0), (18, l1), (3, 0), (0, l3), (3, 0), (3, 0)] [] m (.inl (3, 0)) m') : ∀ (n : Nat) {l0 l1 l2 l3 l4 l5 : Int} {m : Mem} {v : Int} {m' : Mem}, X4_beginWait_17 k67 k93 n l0 l1 l2 l3 l4 l5 m = some (v, m') → Ex (d + 1) fm_X4_beginWait 17 [(14, l0), (18, l1), (0, l2), (0, l3), (13, l4), (0, l5)] [] m (.inl (3, 0)) m' := by
  intro n
  induction n with
  | zero =>
    intro l0 l1 l2 l3 l4 l5 m v m' h
    have h : (none : Option R2) = some _ := h
    cases h
  | succ n ih =>
    intro l0 l1 l2 l3 l4 l5 m v m' h
    rw [X4_beginWait_17] at h
    refine x_iload dX4_beginWait_17 rfl (?_ : Ex _ _ 19 _ _ _ _ _)
    refine x_aload_n dX4_beginWait_19 rfl rfl (Or.inr (by decide)) (?_ : Ex _ _ 20 _ _ _ _ _)
    obtain ⟨c1, h⟩ := chk_some h
    refine gt_4_19 c1 fl_RX4_72 dX4_beginWait_20 (?_ : Ex _ _ 23 _ _ _ _ _)
    rcases ite_some h with ⟨b2, h⟩ | ⟨b2, h⟩
    · refine x_icmp_ge (tgt := 93) dX4_beginWait_23 rfl b2 (?_ : Ex _ _ 93 _ _ _ _ _)
      refine Ex.wk (ls2 := [(14, l0), (18, l1), (3, 0), (0, l3), (3, 0), (3, 0)]) ⟨Or.inr rfl, Or.inr rfl, Or.inl rfl, Or.inr rfl, Or.inl rfl, Or.inl rfl, trivial⟩ ?_
      exact hk93 h
    · refine x_icmp_geN dX4_beginWait_23 (by decide) b2 (?_ : Ex _ _ 26 _ _ _ _ _)
      refine x_iload dX4_beginWait_26 rfl (?_ : Ex _ _ 28 _ _ _ _ _)
      refine x_bipush dX4_beginWait_28 kb_80 (by decide) (?_ : Ex _ _ 30 _ _ _ _ _)
      rcases ite_some h with ⟨b3, h⟩ | ⟨b3, h⟩
      · refine x_icmp_ge (tgt := 93) dX4_beginWait_30 rfl b3 (?_ : Ex _ _ 93 _ _ _ _ _)
        refine Ex.wk (ls2 := [(14, l0), (18, l1), (3, 0), (0, l3), (3, 0), (3, 0)]) ⟨Or.inr rfl, Or.inr rfl, Or.inl rfl, Or.inr rfl, Or.inl rfl, Or.inl rfl, trivial⟩ ?_
        exact hk93 h
      · refine x_icmp_geN dX4_beginWait_30 (by decide) b3 (?_ : Ex _ _ 33 _ _ _ _ _)
        refine x_aload dX4_beginWait_33 rfl (Or.inr (by decide)) (?_ : Ex _ _ 35 _ _ _ _ _)
        obtain ⟨c4, h⟩ := chk_some h
        refine gt_3_0 c4 fl_RX4_63 dX4_beginWait_35 (?_ : Ex _ _ 38 _ _ _ _ _)
        refine x_iload dX4_beginWait_38 rfl (?_ : Ex _ _ 40 _ _ _ _ _)
        obtain ⟨⟨c5, c6, c7⟩, h⟩ := chk_some h
        refine ld_i_80 c5 c6 c7 dX4_beginWait_40 (?_ : Ex _ _ 41 _ _ _ _ _)
        refine x_iconst dX4_beginWait_41 rfl (by decide) (?_ : Ex _ _ 42 _ _ _ _ _)
        rcases ite_some h with ⟨b8, h⟩ | ⟨b8, h⟩
        · refine x_icmp_neN dX4_beginWait_42 (by decide) (fun hh => hh b8) (?_ : Ex _ _ 45 _ _ _ _ _)
          refine x_aload dX4_beginWait_45 rfl (Or.inr (by decide)) (?_ : Ex _ _ 47 _ _ _ _ _)
          refine gt_3_1 c4 fl_RX4_75 dX4_beginWait_47 (?_ : Ex _ _ 50 _ _ _ _ _)
          refine x_iload dX4_beginWait_50 rfl (?_ : Ex _ _ 52 _ _ _ _ _)
          obtain ⟨⟨c10, c11, c12⟩, h⟩ := chk_some h
          refine ld_i_80 c10 c11 c12 dX4_beginWait_52 (?_ : Ex _ _ 53 _ _ _ _ _)
          refine x_iload_n dX4_beginWait_53 rfl rfl (?_ : Ex _ _ 54 _ _ _ _ _)
          rcases ite_some h with ⟨b13, h⟩ | ⟨b13, h⟩
          · refine x_icmp_neN dX4_beginWait_54 (by decide) (fun hh => hh b13) (?_ : Ex _ _ 57 _ _ _ _ _)
            refine x_aload_n dX4_beginWait_57 rfl rfl (Or.inr (by decide)) (?_ : Ex _ _ 58 _ _ _ _ _)
            refine gt_4_1 c1 fl_RX4_18 dX4_beginWait_58 (?_ : Ex _ _ 61 _ _ _ _ _)
            refine x_iload dX4_beginWait_61 rfl (?_ : Ex _ _ 63 _ _ _ _ _)
            obtain ⟨⟨c15, c16, c17⟩, h⟩ := chk_some h
            refine ld_b_80 c15 c16 c17 dX4_beginWait_63 (?_ : Ex _ _ 64 _ _ _ _ _)
            rcases ite_some h with ⟨b18, h⟩ | ⟨b18, h⟩
            · refine x_if_neN dX4_beginWait_64 (by decide) (fun hh => hh b18) (?_ : Ex _ _ 67 _ _ _ _ _)
              refine Ex.wk (ls2 := [(14, l0), (18, l1), (3, 0), (3, 0), (13, l4), (0, l5)]) ⟨Or.inr rfl, Or.inr rfl, Or.inl rfl, Or.inl rfl, Or.inr rfl, Or.inr rfl, trivial⟩ ?_
              exact hk67 h
            · refine x_if_ne (tgt := 87) dX4_beginWait_64 rfl b18 (?_ : Ex _ _ 87 _ _ _ _ _)
              obtain ⟨c19, h⟩ := chk_some h
              refine x_iinc (ls2 := [(14, l0), (18, l1), (0, l2), (0, l3), (13, l4), (0, (l5 + 1))]) dX4_beginWait_87 rfl c19 rfl (?_ : Ex _ _ 90 _ _ _ _ _)
              refine x_goto (tgt := 17) dX4_beginWait_90 rfl (?_ : Ex _ _ 17 _ _ _ _ _)
              exact ih h
          · refine x_icmp_ne (tgt := 87) dX4_beginWait_54 rfl b13 (?_ : Ex _ _ 87 _ _ _ _ _)
            obtain ⟨c14, h⟩ := chk_some h
            refine x_iinc (ls2 := [(14, l0), (18, l1), (0, l2), (0, l3), (13, l4), (0, (l5 + 1))]) dX4_beginWait_87 rfl c14 rfl (?_ : Ex _ _ 90 _ _ _ _ _)
            refine x_goto (tgt := 17) dX4_beginWait_90 rfl (?_ : Ex _ _ 17 _ _ _ _ _)
            exact ih h
        · refine x_icmp_ne (tgt := 87) dX4_beginWait_42 rfl b8 (?_ : Ex _ _ 87 _ _ _ _ _)
          obtain ⟨c9, h⟩ := chk_some h
          refine x_iinc (ls2 := [(14, l0), (18, l1), (0, l2), (0, l3), (13, l4), (0, (l5 + 1))]) dX4_beginWait_87 rfl c9 rfl (?_ : Ex _ _ 90 _ _ _ _ _)
          refine x_goto (tgt := 17) dX4_beginWait_90 rfl (?_ : Ex _ _ 17 _ _ _ _ _)
          exact ih h
theorem e_X4_beginWait_0 (d : Nat) {l0 l1 l2 l3 : Int} {m : Mem} {v : Int} {m' : Mem} (h : X4_beginWait_0 l0 l1 l2 l3 m = some (v, m')) : Ex (d + 1) fm_X4_beginWait 0 [(14, l0), (18, l1), (0, l2), (0, l3), (3, 0), (3, 0)] [] m (.inl (3, 0)) m' := by
  unfold X4_beginWait_0 at h
  refine x_aload_n dX4_beginWait_0 rfl rfl (Or.inr (by decide)) (?_ : Ex _ _ 1 _ _ _ _ _)
  obtain ⟨c1, h⟩ := chk_some h
  refine gt_4_0 c1 fl_RX4_12 dX4_beginWait_1 (?_ : Ex _ _ 4 _ _ _ _ _)
  obtain ⟨c2, h⟩ := chk_some h
  refine gt_1_9 c2 fl_RX4_248 dX4_beginWait_4 (?_ : Ex _ _ 7 _ _ _ _ _)
  refine x_astore (ls2 := [(14, l0), (18, l1), (0, l2), (0, l3), (13, m (m l0 0) 9), (3, 0)]) dX4_beginWait_7 (Nat.le_of_ble_eq_true rfl) (Or.inr (by decide)) rfl (?_ : Ex _ _ 9 _ _ _ _ _)
  refine x_aload_n dX4_beginWait_9 rfl rfl (Or.inr (by decide)) (?_ : Ex _ _ 10 _ _ _ _ _)
  refine x_iload_n dX4_beginWait_10 rfl rfl (?_ : Ex _ _ 11 _ _ _ _ _)
  obtain ⟨c3, h⟩ := chk_some h
  obtain ⟨m4, hm4, h⟩ := st_some h
  refine pt_8_4  c3 fl_RX4_155 dX4_beginWait_11 (?_ : Ex _ _ 14 _ _ _ _ _)
  rw [← hm4]
  refine x_iconst dX4_beginWait_14 rfl (by decide) (?_ : Ex _ _ 15 _ _ _ _ _)
  refine x_istore (ls2 := [(14, l0), (18, l1), (0, l2), (0, l3), (13, m (m l0 0) 9), (0, 0)]) dX4_beginWait_15 (Nat.le_of_ble_eq_true rfl) rfl (?_ : Ex _ _ 17 _ _ _ _ _)
  exact e_X4_beginWait_17 d (fun h => e_X4_beginWait_67 d h) (fun h => e_X4_beginWait_93 d h) fuel9 h
theorem e_X4_beginWait (d : Nat) {a0 a1 a2 a3 : Int} {m : Mem} {v : Int} {m' : Mem} (h : X4_beginWait a0 a1 a2 a3 m = some (v, m')) : ExM (d + 1) fm_X4_beginWait [(14, a0), (18, a1), (0, a2), (0, a3)] m (.inl (3, 0)) m' := by
  exact ExM.of (by decide +kernel) (Nat.le_of_ble_eq_true rfl) (cat9 rfl) retV (e_X4_beginWait_0 d h)
theorem dX4_beginStep_0 : decode cX4_beginStep 0 = .ok (.aload_n 0, 1) := by decide +kernel
theorem dX4_beginStep_1 : decode cX4_beginStep 1 = .ok (.getfield 38, 3) := by decide +kernel
theorem dX4_beginStep_4 : decode cX4_beginStep 4 = .ok (.getfield 194, 3) := by decide +kernel
theorem dX4_beginStep_7 : decode cX4_beginStep 7 = .ok (.iload_n 2, 1) := by decide +kernel
theorem dX4_beginStep_8 : decode cX4_beginStep 8 = .ok (.iaload, 1) := by decide +kernel
theorem dX4_beginStep_9 : decode cX4_beginStep 9 = .ok (.istore_n 3, 1) := by decide +kernel
theorem dX4_beginStep_10 : decode cX4_beginStep 10 = .ok (.aload_n 0, 1) := by decide +kernel
theorem dX4_beginStep_11 : decode cX4_beginStep 11 = .ok (.getfield 38, 3) := by decide +kernel
theorem dX4_beginStep_14 : decode cX4_beginStep 14 = .ok (.getfield 195, 3) := by decide +kernel
theorem dX4_beginStep_17 : decode cX4_beginStep 17 = .ok (.iload_n 2, 1) := by decide +kernel
theorem dX4_beginStep_18 : decode cX4_beginStep 18 = .ok (.iaload, 1) := by decide +kernel
theorem dX4_beginStep_19 : decode cX4_beginStep 19 = .ok (.istore 4, 2) := by decide +kernel
theorem dX4_beginStep_21 : decode cX4_beginStep 21 = .ok (.aload_n 1, 1) := by decide +kernel
theorem dX4_beginStep_22 : decode cX4_beginStep 22 = .ok (.aload_n 0, 1) := by decide +kernel
theorem dX4_beginStep_23 : decode cX4_beginStep 23 = .ok (.getfield 38, 3) := by decide +kernel
theorem dX4_beginStep_26 : decode cX4_beginStep 26 = .ok (.getfield 193, 3) := by decide +kernel
theorem dX4_beginStep_29 : decode cX4_beginStep 29 = .ok (.iload_n 2, 1) := by decide +kernel
theorem dX4_beginStep_30 : decode cX4_beginStep 30 = .ok (.iaload, 1) := by decide +kernel
theorem dX4_beginStep_31 : decode cX4_beginStep 31 = .ok (.invokevirtual 235, 3) := by decide +kernel
theorem dX4_beginStep_34 : decode cX4_beginStep 34 = .ok (.aload_n 1, 1) := by decide +kernel
theorem dX4_beginStep_35 : decode cX4_beginStep 35 = .ok (.getfield 205, 3) := by decide +kernel
theorem dX4_beginStep_38 : decode cX4_beginStep 38 = .ok (.tableswitch 107 0 3 #[30, 56, 107, 81], 30) := by decide +kernel
theorem dX4_beginStep_68 : decode cX4_beginStep 68 = .ok (.aload_n 1, 1) := by decide +kernel
theorem dX4_beginStep_69 : decode cX4_beginStep 69 = .ok (.aload_n 0, 1) := by decide +kernel
theorem dX4_beginStep_70 : decode cX4_beginStep 70 = .ok (.getfield 12, 3) := by decide +kernel
theorem dX4_beginStep_73 : decode cX4_beginStep 73 = .ok (.getfield 211, 3) := by decide +kernel
theorem dX4_beginStep_76 : decode cX4_beginStep 76 = .ok (.putfield 142, 3) := by decide +kernel
theorem dX4_beginStep_79 : decode cX4_beginStep 79 = .ok (.aload_n 0, 1) := by decide +kernel
theorem dX4_beginStep_80 : decode cX4_beginStep 80 = .ok (.getfield 12, 3) := by decide +kernel
theorem dX4_beginStep_83 : decode cX4_beginStep 83 = .ok (.bipush 8, 2) := by decide +kernel
theorem dX4_beginStep_85 : decode cX4_beginStep 85 = .ok (.iload_n 3, 1) := by decide +kernel
theorem dX4_beginStep_86 : decode cX4_beginStep 86 = .ok (.iload 4, 2) := by decide +kernel
theorem dX4_beginStep_88 : decode cX4_beginStep 88 = .ok (.invokevirtual 161, 3) := by decide +kernel
theorem dX4_beginStep_91 : decode cX4_beginStep 91 = .ok (.goto 62, 3) := by decide +kernel
theorem dX4_beginStep_94 : decode cX4_beginStep 94 = .ok (.aload_n 1, 1) := by decide +kernel
theorem dX4_beginStep_95 : decode cX4_beginStep 95 = .ok (.aload_n 0, 1) := by decide +kernel
theorem dX4_beginStep_96 : decode cX4_beginStep 96 = .ok (.getfield 12, 3) := by decide +kernel
theorem dX4_beginStep_99 : decode cX4_beginStep 99 = .ok (.getfield 238, 3) := by decide +kernel
theorem dX4_beginStep_102 : decode cX4_beginStep 102 = .ok (.putfield 149, 3) := by decide +kernel
theorem dX4_beginStep_105 : decode cX4_beginStep 105 = .ok (.aload_n 0, 1) := by decide +kernel
theorem dX4_beginStep_106 : decode cX4_beginStep 106 = .ok (.getfield 12, 3) := by decide +kernel
theorem dX4_beginStep_109 : decode cX4_beginStep 109 = .ok (.bipush 10, 2) := by decide +kernel
theorem dX4_beginStep_111 : decode cX4_beginStep 111 = .ok (.iload_n 3, 1) := by decide +kernel
theorem dX4_beginStep_112 : decode cX4_beginStep 112 = .ok (.iconst 0, 1) := by decide +kernel
theorem dX4_beginStep_113 : decode cX4_beginStep 113 = .ok (.invokevirtual 161, 3) := by decide +kernel
theorem dX4_beginStep_116 : decode cX4_beginStep 116 = .ok (.goto 37, 3) := by decide +kernel
theorem dX4_beginStep_119 : decode cX4_beginStep 119 = .ok (.aload_n 1, 1) := by decide +kernel
theorem dX4_beginStep_120 : decode cX4_beginStep 120 = .ok (.aload_n 0, 1) := by decide +kernel
theorem dX4_beginStep_121 : decode cX4_beginStep 121 = .ok (.getfield 12, 3) := by decide +kernel
theorem dX4_beginStep_124 : decode cX4_beginStep 124 = .ok (.getfield 241, 3) := by decide +kernel
theorem dX4_beginStep_127 : decode cX4_beginStep 127 = .ok (.putfield 164, 3) := by decide +kernel
theorem dX4_beginStep_130 : decode cX4_beginStep 130 = .ok (.aload_n 0, 1) := by decide +kernel
theorem dX4_beginStep_131 : decode cX4_beginStep 131 = .ok (.getfield 12, 3) := by decide +kernel
theorem dX4_beginStep_134 : decode cX4_beginStep 134 = .ok (.bipush 12, 2) := by decide +kernel
theorem dX4_beginStep_136 : decode cX4_beginStep 136 = .ok (.iload_n 3, 1) := by decide +kernel
theorem dX4_beginStep_137 : decode cX4_beginStep 137 = .ok (.iload 4, 2) := by decide +kernel
theorem dX4_beginStep_139 : decode cX4_beginStep 139 = .ok (.invokevirtual 161, 3) := by decide +kernel
theorem dX4_beginStep_142 : decode cX4_beginStep 142 = .ok (.goto 11, 3) := by decide +kernel
theorem dX4_beginStep_145 : decode cX4_beginStep 145 = .ok (.aload_n 0, 1) := by decide +kernel
theorem dX4_beginStep_146 : decode cX4_beginStep 146 = .ok (.aload_n 1, 1) := by decide +kernel
theorem dX4_beginStep_147 : decode cX4_beginStep 147 = .ok (.iload_n 3, 1) := by decide +kernel
theorem dX4_beginStep_148 : decode cX4_beginStep 148 = .ok (.iload 4, 2) := by decide +kernel
theorem dX4_beginStep_150 : decode cX4_beginStep 150 = .ok (.invokevirtual 244, 3) := by decide +kernel
theorem dX4_beginStep_153 : decode cX4_beginStep 153 = .ok (.return_, 1) := by decide +kernel
theorem e_X4_beginStep_0 (d : Nat) {l0 l1 l2 : Int} {m : Mem} {v : Int} {m' : Mem} (h : X4_beginStep_0 l0 l1 l2 m = some (v, m')) : Ex (d + 2) fm_X4_beginStep 0 [(14, l0), (18, l1), (0, l2), (3, 0), (3, 0)] [] m (.inl (3, 0)) m' := by
  unfold X4_beginStep_0 at h
  refine x_aload_n dX4_beginStep_0 rfl rfl (Or.inr (by decide)) (?_ : Ex _ _ 1 _ _ _ _ _)
  obtain ⟨c1, h⟩ := chk_some h
  refine gt_4_7 c1 fl_RX4_38 dX4_beginStep_1 (?_ : Ex _ _ 4 _ _ _ _ _)
  obtain ⟨c2, h⟩ := chk_some h
  refine gt_5_1 c2 fl_RX4_194 dX4_beginStep_4 (?_ : Ex _ _ 7 _ _ _ _ _)
  refine x_iload_n dX4_beginStep_7 rfl rfl (?_ : Ex _ _ 8 _ _ _ _ _)
  obtain ⟨⟨c3, c4, c5⟩, h⟩ := chk_some h
  refine ld_i_12 c3 c4 c5 dX4_beginStep_8 (?_ : Ex _ _ 9 _ _ _ _ _)
  refine x_istore_n (ls2 := [(14, l0), (18, l1), (0, l2), (0, m (m (m l0 7) 1) l2), (3, 0)]) dX4_beginStep_9 rfl (Nat.le_of_ble_eq_true rfl) rfl (?_ : Ex _ _ 10 _ _ _ _ _)
  refine x_aload_n dX4_beginStep_10 rfl rfl (Or.inr (by decide)) (?_ : Ex _ _ 11 _ _ _ _ _)
  refine gt_4_7 c1 fl_RX4_38 dX4_beginStep_11 (?_ : Ex _ _ 14 _ _ _ _ _)
  refine gt_5_2 c2 fl_RX4_195 dX4_beginStep_14 (?_ : Ex _ _ 17 _ _ _ _ _)
  refine x_iload_n dX4_beginStep_17 rfl rfl (?_ : Ex _ _ 18 _ _ _ _ _)
  obtain ⟨⟨c6, c7, c8⟩, h⟩ := chk_some h
  refine ld_i_12 c6 c7 c8 dX4_beginStep_18 (?_ : Ex _ _ 19 _ _ _ _ _)
  refine x_istore (ls2 := [(14, l0), (18, l1), (0, l2), (0, m (m (m l0 7) 1) l2), (0, m (m (m l0 7) 2) l2)]) dX4_beginStep_19 (Nat.le_of_ble_eq_true rfl) rfl (?_ : Ex _ _ 21 _ _ _ _ _)
  refine x_aload_n dX4_beginStep_21 rfl rfl (Or.inr (by decide)) (?_ : Ex _ _ 22 _ _ _ _ _)
  refine x_aload_n dX4_beginStep_22 rfl rfl (Or.inr (by decide)) (?_ : Ex _ _ 23 _ _ _ _ _)
  refine gt_4_7 c1 fl_RX4_38 dX4_beginStep_23 (?_ : Ex _ _ 26 _ _ _ _ _)
  refine gt_5_0 c2 fl_RX4_193 dX4_beginStep_26 (?_ : Ex _ _ 29 _ _ _ _ _)
  refine x_iload_n dX4_beginStep_29 rfl rfl (?_ : Ex _ _ 30 _ _ _ _ _)
  obtain ⟨⟨c9, c10, c11⟩, h⟩ := chk_some h
  refine ld_i_12 c9 c10 c11 dX4_beginStep_30 (?_ : Ex _ _ 31 _ _ _ _ _)
  obtain ⟨c12, h⟩ := chk_some h
  obtain ⟨v13, m14, g15, h⟩ := cal_some h
  refine cV1 (e_X8_clear (d + 1) g15) (contV (?_ : Ex _ _ 34 _ _ _ _ _)) og_X8_clear rfl ml_RX4_235 8 rfl rfl c12 im_X8_clear se_X8_clear (Nat.le_of_ble_eq_true rfl) dX4_beginStep_31
  refine x_aload_n dX4_beginStep_34 rfl rfl (Or.inr (by decide)) (?_ : Ex _ _ 35 _ _ _ _ _)
  refine gt_8_0 c12 fl_RX4_205 dX4_beginStep_35 (?_ : Ex _ _ 38 _ _ _ _ _)
  rcases ite_some h with ⟨b16, h⟩ | ⟨b16, h⟩
  · refine y_tableAt (j := 0) (off := 30) (tgt := 68) b16 dX4_beginStep_38 (by decide) (by decide) rfl rfl (?_ : Ex _ _ 68 _ _ _ _ _)
    refine x_aload_n dX4_beginStep_68 rfl rfl (Or.inr (by decide)) (?_ : Ex _ _ 69 _ _ _ _ _)
    refine x_aload_n dX4_beginStep_69 rfl rfl (Or.inr (by decide)) (?_ : Ex _ _ 70 _ _ _ _ _)
    refine gt_4_0 c1 fl_RX4_12 dX4_beginStep_70 (?_ : Ex _ _ 73 _ _ _ _ _)
    obtain ⟨c17, h⟩ := chk_some h
    refine gt_1_4 c17 fl_RX4_211 dX4_beginStep_73 (?_ : Ex _ _ 76 _ _ _ _ _)
    obtain ⟨m18, hm18, h⟩ := st_some h
    refine pt_8_1  c12 fl_RX4_142 dX4_beginStep_76 (?_ : Ex _ _ 79 _ _ _ _ _)
    rw [← hm18]
    refine x_aload_n dX4_beginStep_79 rfl rfl (Or.inr (by decide)) (?_ : Ex _ _ 80 _ _ _ _ _)
    refine gt_4_0 c1 fl_RX4_12 dX4_beginStep_80 (?_ : Ex _ _ 83 _ _ _ _ _)
    refine x_bipush dX4_beginStep_83 kb_8 (by decide) (?_ : Ex _ _ 85 _ _ _ _ _)
    refine x_iload_n dX4_beginStep_85 rfl rfl (?_ : Ex _ _ 86 _ _ _ _ _)
    refine x_iload dX4_beginStep_86 rfl (?_ : Ex _ _ 88 _ _ _ _ _)
    obtain ⟨c19, h⟩ := chk_some h
    obtain ⟨v20, m21, g22, h⟩ := cal_some h
    refine cV3 (e_X1_put (d + 1) g22) (contV (?_ : Ex _ _ 91 _ _ _ _ _)) og_X1_put rfl ml_RX4_161 1 rfl rfl c19 im_X1_put se_X1_put (Nat.le_of_ble_eq_true rfl) dX4_beginStep_88
    refine x_goto (tgt := 153) dX4_beginStep_91 rfl (?_ : Ex _ _ 153 _ _ _ _ _)
    cases h
    exact x_retv dX4_beginStep_153
  rcases ite_some h with ⟨b23, h⟩ | ⟨b23, h⟩
  · refine y_tableAt (j := 1) (off := 56) (tgt := 94) b23 dX4_beginStep_38 (by decide) (by decide) rfl rfl (?_ : Ex _ _ 94 _ _ _ _ _)
    refine x_aload_n dX4_beginStep_94 rfl rfl (Or.inr (by decide)) (?_ : Ex _ _ 95 _ _ _ _ _)
    refine x_aload_n dX4_beginStep_95 rfl rfl (Or.inr (by decide)) (?_ : Ex _ _ 96 _ _ _ _ _)
    refine gt_4_0 c1 fl_RX4_12 dX4_beginStep_96 (?_ : Ex _ _ 99 _ _ _ _ _)
    obtain ⟨c24, h⟩ := chk_some h
    refine gt_1_5 c24 fl_RX4_238 dX4_beginStep_99 (?_ : Ex _ _ 102 _ _ _ _ _)
    obtain ⟨m25, hm25, h⟩ := st_some h
    refine pt_8_2  c12 fl_RX4_149 dX4_beginStep_102 (?_ : Ex _ _ 105 _ _ _ _ _)
    rw [← hm25]
    refine x_aload_n dX4_beginStep_105 rfl rfl (Or.inr (by decide)) (?_ : Ex _ _ 106 _ _ _ _ _)
    refine gt_4_0 c1 fl_RX4_12 dX4_beginStep_106 (?_ : Ex _ _ 109 _ _ _ _ _)
    refine x_bipush dX4_beginStep_109 kb_10 (by decide) (?_ : Ex _ _ 111 _ _ _ _ _)
    refine x_iload_n dX4_beginStep_111 rfl rfl (?_ : Ex _ _ 112 _ _ _ _ _)
    refine x_iconst dX4_beginStep_112 rfl (by decide) (?_ : Ex _ _ 113 _ _ _ _ _)
    obtain ⟨c26, h⟩ := chk_some h
    obtain ⟨v27, m28, g29, h⟩ := cal_some h
    refine cV3 (e_X1_put (d + 1) g29) (contV (?_ : Ex _ _ 116 _ _ _ _ _)) og_X1_put rfl ml_RX4_161 1 rfl rfl c26 im_X1_put se_X1_put (Nat.le_of_ble_eq_true rfl) dX4_beginStep_113
    refine x_goto (tgt := 153) dX4_beginStep_116 rfl (?_ : Ex _ _ 153 _ _ _ _ _)
    cases h
    exact x_retv dX4_beginStep_153
  rcases ite_some h with ⟨b30, h⟩ | ⟨b30, h⟩
  · refine y_tableAt (j := 2) (off := 107) (tgt := 145) b30 dX4_beginStep_38 (by decide) (by decide) rfl rfl (?_ : Ex _ _ 145 _ _ _ _ _)
    refine x_aload_n dX4_beginStep_145 rfl rfl (Or.inr (by decide)) (?_ : Ex _ _ 146 _ _ _ _ _)
    refine x_aload_n dX4_beginStep_146 rfl rfl (Or.inr (by decide)) (?_ : Ex _ _ 147 _ _ _ _ _)
    refine x_iload_n dX4_beginStep_147 rfl rfl (?_ : Ex _ _ 148 _ _ _ _ _)
    refine x_iload dX4_beginStep_148 rfl (?_ : Ex _ _ 150 _ _ _ _ _)
    obtain ⟨v31, m32, g33, h⟩ := cal_some h
    refine cV3 (e_X4_beginWait d g33) (contV (?_ : Ex _ _ 153 _ _ _ _ _)) og_X4_beginWait rfl ml_RX4_244 4 rfl rfl c1 im_X4_beginWait se_X4_beginWait (Nat.le_of_ble_eq_true rfl) dX4_beginStep_150
    cases h
    exact x_retv dX4_beginStep_153
  rcases ite_some h with ⟨b34, h⟩ | ⟨b34, h⟩
  · refine y_tableAt (j := 3) (off := 81) (tgt := 119) b34 dX4_beginStep_38 (by decide) (by decide) rfl rfl (?_ : Ex _ _ 119 _ _ _ _ _)
    refine x_aload_n dX4_beginStep_119 rfl rfl (Or.inr (by decide)) (?_ : Ex _ _ 120 _ _ _ _ _)
    refine x_aload_n dX4_beginStep_120 rfl rfl (Or.inr (by decide)) (?_ : Ex _ _ 121 _ _ _ _ _)
    refine gt_4_0 c1 fl_RX4_12 dX4_beginStep_121 (?_ : Ex _ _ 124 _ _ _ _ _)
    obtain ⟨c35, h⟩ := chk_some h
    refine gt_1_6 c35 fl_RX4_241 dX4_beginStep_124 (?_ : Ex _ _ 127 _ _ _ _ _)
    obtain ⟨m36, hm36, h⟩ := st_some h
    refine pt_8_3  c12 fl_RX4_164 dX4_beginStep_127 (?_ : Ex _ _ 130 _ _ _ _ _)
    rw [← hm36]
    refine x_aload_n dX4_beginStep_130 rfl rfl (Or.inr (by decide)) (?_ : Ex _ _ 131 _ _ _ _ _)
    refine gt_4_0 c1 fl_RX4_12 dX4_beginStep_131 (?_ : Ex _ _ 134 _ _ _ _ _)
    refine x_bipush dX4_beginStep_134 kb_12 (by decide) (?_ : Ex _ _ 136 _ _ _ _ _)
    refine x_iload_n dX4_beginStep_136 rfl rfl (?_ : Ex _ _ 137 _ _ _ _ _)
    refine x_iload dX4_beginStep_137 rfl (?_ : Ex _ _ 139 _ _ _ _ _)
    obtain ⟨c37, h⟩ := chk_some h
    obtain ⟨v38, m39, g40, h⟩ := cal_some h
    refine cV3 (e_X1_put (d + 1) g40) (contV (?_ : Ex _ _ 142 _ _ _ _ _)) og_X1_put rfl ml_RX4_161 1 rfl rfl c37 im_X1_put se_X1_put (Nat.le_of_ble_eq_true rfl) dX4_beginStep_139
    refine x_goto (tgt := 153) dX4_beginStep_142 rfl (?_ : Ex _ _ 153 _ _ _ _ _)
    cases h
    exact x_retv dX4_beginStep_153
  refine x_tableOut (tgt := 145) dX4_beginStep_38 (by omega) rfl (?_ : Ex _ _ 145 _ _ _ _ _)
  refine x_aload_n dX4_beginStep_145 rfl rfl (Or.inr (by decide)) (?_ : Ex _ _ 146 _ _ _ _ _)
  refine x_aload_n dX4_beginStep_146 rfl rfl (Or.inr (by decide)) (?_ : Ex _ _ 147 _ _ _ _ _)
  refine x_iload_n dX4_beginStep_147 rfl rfl (?_ : Ex _ _ 148 _ _ _ _ _)
  refine x_iload dX4_beginStep_148 rfl (?_ : Ex _ _ 150 _ _ _ _ _)
  obtain ⟨v41, m42, g43, h⟩ := cal_some h
  refine cV3 (e_X4_beginWait d g43) (contV (?_ : Ex _ _ 153 _ _ _ _ _)) og_X4_beginWait rfl ml_RX4_244 4 rfl rfl c1 im_X4_beginWait se_X4_beginWait (Nat.le_of_ble_eq_true rfl) dX4_beginStep_150
  cases h
  exact x_retv dX4_beginStep_153
theorem e_X4_beginStep (d : Nat) {a0 a1 a2 : Int} {m : Mem} {v : Int} {m' : Mem} (h : X4_beginStep a0 a1 a2 m = some (v, m')) : ExM (d + 2) fm_X4_beginStep [(14, a0), (18, a1), (0, a2)] m (.inl (3, 0)) m' := by
  exact ExM.of (by decide +kernel) (Nat.le_of_ble_eq_true rfl) (cat9 rfl) retV (e_X4_beginStep_0 d h)
