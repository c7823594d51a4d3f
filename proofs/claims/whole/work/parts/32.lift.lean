/-! what G does, X12 does in the memory, printed -/
theorem li_X12_thrown_0 {r : Rst} {m : Mem} (hR : Rp r m) : LiR (G_thrown_0 r) (X12_thrown_0 10 m) m := by
  unfold G_thrown_0 X12_thrown_0
  refine Li_chkX ((by decide)) ?_
  exact Li_ret (by simp only [ss_0 hR]) hR
theorem li_X12_thrown {r : Rst} {m : Mem} (hR : Rp r m) : LiR (G_thrown r) (X12_thrown 10 m) m := li_X12_thrown_0 hR
theorem li_X12_isFine_0 {l1 : Int} {r : Rst} {m : Mem} (hR : Rp r m) : LiR (G_isFine_0 l1 r) (X12_isFine_0 10 l1 m) m := by
  unfold G_isFine_0 X12_isFine_0
  refine Li_chkX ((by decide)) ?_
  refine Li_sts hR (j := 0) rfl (by decide) rfl rfl (fun r1 m2 hR3 => ?_)
  refine Li_ite Iff.rfl ?_ ?_
  · exact Li_ret rfl hR3
  · exact Li_ret rfl hR3
theorem li_X12_isFine {a1 : Int} {r : Rst} {m : Mem} (hR : Rp r m) : LiR (G_isFine a1 r) (X12_isFine 10 a1 m) m := Li_bool (li_X12_isFine_0 hR)
theorem li_X12_isIn_0 {l0 l1 l2 : Int} {r : Rst} {m : Mem} (hR : Rp r m) : LiR (G_isIn_0 l0 l1 l2 r) (X12_isIn_0 l0 l1 l2 m) m := by
  unfold G_isIn_0 X12_isIn_0
  refine Li_ite Iff.rfl ?_ ?_
  · exact Li_ret rfl hR
  · refine Li_ite Iff.rfl ?_ ?_
    · exact Li_ret rfl hR
    · exact Li_ret rfl hR
theorem li_X12_isIn {a0 a1 a2 : Int} {r : Rst} {m : Mem} (hR : Rp r m) : LiR (G_isIn a0 a1 a2 r) (X12_isIn a0 a1 a2 m) m := Li_bool (li_X12_isIn_0 hR)
theorem li_X12_isType_0 {l0 : Int} {r : Rst} {m : Mem} (hR : Rp r m) : LiR (G_isType_0 l0 r) (X12_isType_0 l0 m) m := by
  unfold G_isType_0 X12_isType_0
  refine Li_cal (li_X12_isIn hR) (fun v2 r1 m3 hR4 => ?_)
  exact Li_ret rfl hR4
theorem li_X12_isType {a0 : Int} {r : Rst} {m : Mem} (hR : Rp r m) : LiR (G_isType a0 r) (X12_isType a0 m) m := Li_bool (li_X12_isType_0 hR)
theorem li_X12_isFlow_0 {l1 : Int} {r : Rst} {m : Mem} (hR : Rp r m) : LiR (G_isFlow_0 l1 r) (X12_isFlow_0 10 l1 m) m := by
  unfold G_isFlow_0 X12_isFlow_0
  refine Li_chkX ((by decide)) ?_
  refine Li_chk (fun c1 => (by simp only [ss_16 hR]; exact c1)) (fun _ => ?_)
  refine Li_cal (by simp only [ss_16 hR]; exact li_X12_isIn hR) (fun v3 r2 m4 hR5 => ?_)
  exact Li_ret rfl hR5
theorem li_X12_isFlow {a1 : Int} {r : Rst} {m : Mem} (hR : Rp r m) : LiR (G_isFlow a1 r) (X12_isFlow 10 a1 m) m := Li_bool (li_X12_isFlow_0 hR)
theorem li_X12_isQueue_0 {l0 : Int} {r : Rst} {m : Mem} (hR : Rp r m) : LiR (G_isQueue_0 l0 r) (X12_isQueue_0 l0 m) m := by
  unfold G_isQueue_0 X12_isQueue_0
  refine Li_cal (li_X12_isIn hR) (fun v2 r1 m3 hR4 => ?_)
  exact Li_ret rfl hR4
theorem li_X12_isQueue {a0 : Int} {r : Rst} {m : Mem} (hR : Rp r m) : LiR (G_isQueue a0 r) (X12_isQueue a0 m) m := Li_bool (li_X12_isQueue_0 hR)
theorem li_X12_isWorker_0 {l0 : Int} {r : Rst} {m : Mem} (hR : Rp r m) : LiR (G_isWorker_0 l0 r) (X12_isWorker_0 l0 m) m := by
  unfold G_isWorker_0 X12_isWorker_0
  refine Li_cal (li_X12_isIn hR) (fun v2 r1 m3 hR4 => ?_)
  exact Li_ret rfl hR4
theorem li_X12_isWorker {a0 : Int} {r : Rst} {m : Mem} (hR : Rp r m) : LiR (G_isWorker a0 r) (X12_isWorker a0 m) m := Li_bool (li_X12_isWorker_0 hR)
theorem li_X12_rowOf_0 {l0 l1 : Int} {r : Rst} {m : Mem} (hR : Rp r m) : LiR (G_rowOf_0 l0 l1 r) (X12_rowOf_0 l0 l1 m) m := by
  unfold G_rowOf_0 X12_rowOf_0
  refine Li_chk (fun c1 => c1) (fun _ => ?_)
  refine Li_chk (fun c2 => c2) (fun _ => ?_)
  refine Li_chk (fun c3 => c3) (fun _ => ?_)
  exact Li_ret rfl hR
theorem li_X12_rowOf {a0 a1 : Int} {r : Rst} {m : Mem} (hR : Rp r m) : LiR (G_rowOf a0 a1 r) (X12_rowOf a0 a1 m) m := li_X12_rowOf_0 hR
theorem li_X12_isValue_0 {l0 : Int} {r : Rst} {m : Mem} (hR : Rp r m) : LiR (G_isValue_0 l0 r) (X12_isValue_0 l0 m) m := by
  unfold G_isValue_0 X12_isValue_0
  refine Li_cal (li_X12_isIn hR) (fun v2 r1 m3 hR4 => ?_)
  exact Li_ret rfl hR4
theorem li_X12_isValue {a0 : Int} {r : Rst} {m : Mem} (hR : Rp r m) : LiR (G_isValue a0 r) (X12_isValue a0 m) m := Li_bool (li_X12_isValue_0 hR)
theorem li_X12_isStep_0 {l0 l1 l2 : Int} {r : Rst} {m : Mem} (hR : Rp r m) : LiR (G_isStep_0 l0 l1 l2 r) (X12_isStep_0 l0 l1 l2 m) m := by
  unfold G_isStep_0 X12_isStep_0
  refine Li_ite Iff.rfl ?_ ?_
  · refine Li_cal (li_X12_isIn hR) (fun v2 r1 m3 hR4 => ?_)
    refine Li_ite Iff.rfl ?_ ?_
    · exact Li_ret rfl hR4
    · refine Li_cal (li_X12_isIn hR4) (fun v6 r5 m7 hR8 => ?_)
      refine Li_ite Iff.rfl ?_ ?_
      · exact Li_ret rfl hR8
      · exact Li_ret rfl hR8
  refine Li_ite Iff.rfl ?_ ?_
  · refine Li_cal (li_X12_isIn hR) (fun v10 r9 m11 hR12 => ?_)
    refine Li_ite Iff.rfl ?_ ?_
    · exact Li_ret rfl hR12
    · refine Li_ite Iff.rfl ?_ ?_
      · exact Li_ret rfl hR12
      · exact Li_ret rfl hR12
  refine Li_ite Iff.rfl ?_ ?_
  · refine Li_cal (li_X12_isIn hR) (fun v14 r13 m15 hR16 => ?_)
    refine Li_ite Iff.rfl ?_ ?_
    · exact Li_ret rfl hR16
    · refine Li_cal (li_X12_isIn hR16) (fun v18 r17 m19 hR20 => ?_)
      refine Li_ite Iff.rfl ?_ ?_
      · exact Li_ret rfl hR20
      · exact Li_ret rfl hR20
  refine Li_ite Iff.rfl ?_ ?_
  · refine Li_cal (li_X12_isIn hR) (fun v22 r21 m23 hR24 => ?_)
    refine Li_ite Iff.rfl ?_ ?_
    · exact Li_ret rfl hR24
    · refine Li_cal (li_X12_isIn hR24) (fun v26 r25 m27 hR28 => ?_)
      refine Li_ite Iff.rfl ?_ ?_
      · exact Li_ret rfl hR28
      · exact Li_ret rfl hR28
  refine Li_ite Iff.rfl ?_ ?_
  · refine Li_cal (li_X12_isIn hR) (fun v30 r29 m31 hR32 => ?_)
    refine Li_ite Iff.rfl ?_ ?_
    · exact Li_ret rfl hR32
    · refine Li_ite Iff.rfl ?_ ?_
      · exact Li_ret rfl hR32
      · exact Li_ret rfl hR32
  refine Li_ite Iff.rfl ?_ ?_
  · refine Li_cal (li_X12_isValue hR) (fun v34 r33 m35 hR36 => ?_)
    refine Li_ite Iff.rfl ?_ ?_
    · exact Li_ret rfl hR36
    · refine Li_cal (li_X12_isIn hR36) (fun v38 r37 m39 hR40 => ?_)
      refine Li_ite Iff.rfl ?_ ?_
      · exact Li_ret rfl hR40
      · exact Li_ret rfl hR40
  refine Li_ite Iff.rfl ?_ ?_
  · refine Li_cal (li_X12_isValue hR) (fun v42 r41 m43 hR44 => ?_)
    refine Li_ite Iff.rfl ?_ ?_
    · exact Li_ret rfl hR44
    · refine Li_cal (li_X12_isIn hR44) (fun v46 r45 m47 hR48 => ?_)
      refine Li_ite Iff.rfl ?_ ?_
      · exact Li_ret rfl hR48
      · exact Li_ret rfl hR48
  refine Li_ite Iff.rfl ?_ ?_
  · refine Li_cal (li_X12_isValue hR) (fun v50 r49 m51 hR52 => ?_)
    refine Li_ite Iff.rfl ?_ ?_
    · exact Li_ret rfl hR52
    · refine Li_ite Iff.rfl ?_ ?_
      · exact Li_ret rfl hR52
      · exact Li_ret rfl hR52
  refine Li_ite Iff.rfl ?_ ?_
  · refine Li_cal (li_X12_isValue hR) (fun v54 r53 m55 hR56 => ?_)
    refine Li_ite Iff.rfl ?_ ?_
    · exact Li_ret rfl hR56
    · refine Li_ite Iff.rfl ?_ ?_
      · exact Li_ret rfl hR56
      · exact Li_ret rfl hR56
  refine Li_ite Iff.rfl ?_ ?_
  · refine Li_cal (li_X12_isIn hR) (fun v58 r57 m59 hR60 => ?_)
    refine Li_ite Iff.rfl ?_ ?_
    · exact Li_ret rfl hR60
    · refine Li_cal (li_X12_isIn hR60) (fun v62 r61 m63 hR64 => ?_)
      refine Li_ite Iff.rfl ?_ ?_
      · exact Li_ret rfl hR64
      · exact Li_ret rfl hR64
  refine Li_ite Iff.rfl ?_ ?_
  · refine Li_cal (li_X12_isIn hR) (fun v66 r65 m67 hR68 => ?_)
    refine Li_ite Iff.rfl ?_ ?_
    · exact Li_ret rfl hR68
    · refine Li_cal (li_X12_isIn hR68) (fun v70 r69 m71 hR72 => ?_)
      refine Li_ite Iff.rfl ?_ ?_
      · exact Li_ret rfl hR72
      · exact Li_ret rfl hR72
  refine Li_ite Iff.rfl ?_ ?_
  · refine Li_cal (li_X12_isIn hR) (fun v74 r73 m75 hR76 => ?_)
    refine Li_ite Iff.rfl ?_ ?_
    · exact Li_ret rfl hR76
    · refine Li_ite Iff.rfl ?_ ?_
      · exact Li_ret rfl hR76
      · exact Li_ret rfl hR76
  refine Li_ite Iff.rfl ?_ ?_
  · refine Li_cal (li_X12_isIn hR) (fun v78 r77 m79 hR80 => ?_)
    refine Li_ite Iff.rfl ?_ ?_
    · exact Li_ret rfl hR80
    · refine Li_cal (li_X12_isIn hR80) (fun v82 r81 m83 hR84 => ?_)
      refine Li_ite Iff.rfl ?_ ?_
      · exact Li_ret rfl hR84
      · exact Li_ret rfl hR84
  refine Li_ite Iff.rfl ?_ ?_
  · refine Li_cal (li_X12_isIn hR) (fun v86 r85 m87 hR88 => ?_)
    refine Li_ite Iff.rfl ?_ ?_
    · exact Li_ret rfl hR88
    · refine Li_ite Iff.rfl ?_ ?_
      · exact Li_ret rfl hR88
      · exact Li_ret rfl hR88
  refine Li_cal (li_X12_isIn hR) (fun v90 r89 m91 hR92 => ?_)
  refine Li_ite Iff.rfl ?_ ?_
  · exact Li_ret rfl hR92
  · refine Li_ite Iff.rfl ?_ ?_
    · refine Li_ite Iff.rfl ?_ ?_
      · exact Li_ret rfl hR92
      · exact Li_ret rfl hR92
    · exact Li_ret rfl hR92
theorem li_X12_isStep {a0 a1 a2 : Int} {r : Rst} {m : Mem} (hR : Rp r m) : LiR (G_isStep a0 a1 a2 r) (X12_isStep a0 a1 a2 m) m := Li_bool (li_X12_isStep_0 hR)
theorem li_X12_step_73 {l2 l3 l4 l6 s0 : Int} {r : Rst} {m : Mem} (hR : Rp r m) : LiR (G_step_73 l2 l3 l4 l6 s0 r) (X12_step_73 10 l2 l3 l4 l6 s0 10 m) m := by
  unfold G_step_73 X12_step_73
  refine Li_chkX ((by decide)) ?_
  refine Li_cal (li_X12_isFine hR) (fun v2 r1 m3 hR4 => ?_)
  refine Li_ite Iff.rfl ?_ ?_
  · exact Li_ret rfl hR4
  · refine Li_chkX ((by decide)) ?_
    refine Li_chk (fun c5 => c5) (fun _ => ?_)
    refine Li_chk (fun ⟨c6, c7⟩ => ⟨(by simp only [pp_5 hR4]; decide), c6, c7⟩) (fun _ => ?_)
    refine Li_chk (fun c8 => (by simp only [aa_5 hR4, pp_5 hR4]; exact c8)) (fun _ => ?_)
    refine Li_chk (fun ⟨c9, c10⟩ => ⟨(by simp only [pp_2 hR4]; decide), (by simp only [aa_5 hR4, pp_5 hR4]; exact c9), (by simp only [aa_5 hR4, pp_5 hR4]; exact c10)⟩) (fun _ => ?_)
    refine Li_sta hR4 (j := 2) rfl (by decide) (pp_2 hR4) (by simp only [aa_5 hR4, pp_5 hR4]) rfl (fun r11 m12 hR13 => ?_)
    refine Li_chk (fun c14 => c14) (fun _ => ?_)
    refine Li_chk (fun ⟨c15, c16⟩ => ⟨(by simp only [pp_5 hR13]; decide), c15, c16⟩) (fun _ => ?_)
    refine Li_chk (fun c17 => (by simp only [aa_5 hR13, pp_5 hR13]; exact c17)) (fun _ => ?_)
    refine Li_chk (fun ⟨c18, c19⟩ => ⟨(by simp only [pp_3 hR13]; decide), (by simp only [aa_5 hR13, pp_5 hR13]; exact c18), (by simp only [aa_5 hR13, pp_5 hR13]; exact c19)⟩) (fun _ => ?_)
    refine Li_sta hR13 (j := 3) rfl (by decide) (pp_3 hR13) (by simp only [aa_5 hR13, pp_5 hR13]) rfl (fun r20 m21 hR22 => ?_)
    refine Li_chk (fun c23 => c23) (fun _ => ?_)
    refine Li_chk (fun ⟨c24, c25⟩ => ⟨(by simp only [pp_5 hR22]; decide), c24, c25⟩) (fun _ => ?_)
    refine Li_chk (fun c26 => (by simp only [aa_5 hR22, pp_5 hR22]; exact c26)) (fun _ => ?_)
    refine Li_chk (fun ⟨c27, c28⟩ => ⟨(by simp only [pp_4 hR22]; decide), (by simp only [aa_5 hR22, pp_5 hR22]; exact c27), (by simp only [aa_5 hR22, pp_5 hR22]; exact c28)⟩) (fun _ => ?_)
    refine Li_sta hR22 (j := 4) rfl (by decide) (pp_4 hR22) (by simp only [aa_5 hR22, pp_5 hR22]) rfl (fun r29 m30 hR31 => ?_)
    refine Li_chk (fun ⟨c32, c33⟩ => ⟨(by simp only [pp_5 hR31]; decide), c32, c33⟩) (fun _ => ?_)
    refine Li_chk (fun c34 => (by simp only [aa_5 hR31, pp_5 hR31]; exact c34)) (fun _ => ?_)
    refine Li_chk (fun ⟨c35, c36⟩ => ⟨c35, c36⟩) (fun _ => ?_)
    refine Li_sta hR31 (j := 5) rfl (by decide) (pp_5 hR31) rfl (by simp only [aa_5 hR31, pp_5 hR31]) (fun r37 m38 hR39 => ?_)
    refine Li_chk (fun ⟨c40, c41⟩ => ⟨(by simp only [pp_5 hR39]; decide), c40, c41⟩) (fun _ => ?_)
    exact Li_ret (by simp only [aa_5 hR39, pp_5 hR39]) hR39
theorem li_X12_step_20 {l1 l2 l3 l4 l5 s0 : Int} {r : Rst} {m : Mem} (hR : Rp r m) : LiR (G_step_20 l1 l2 l3 l4 l5 s0 r) (X12_step_20 10 l1 l2 l3 l4 l5 s0 m) m := by
  unfold G_step_20 X12_step_20
  refine Li_ite Iff.rfl ?_ ?_
  · exact li_X12_step_73 hR
  · refine Li_cal (li_X12_isStep hR) (fun v2 r1 m3 hR4 => ?_)
    refine Li_ite Iff.rfl ?_ ?_
    · exact li_X12_step_73 hR4
    · refine Li_chkX ((by decide)) ?_
      refine Li_chk (fun ⟨c5, c6⟩ => ⟨(by simp only [pp_5 hR4]; decide), c5, c6⟩) (fun _ => ?_)
      refine Li_ite (by simp only [aa_5 hR4, pp_5 hR4]) ?_ ?_
      · exact li_X12_step_73 hR4
      · refine Li_chk (fun ⟨c7, c8⟩ => ⟨(by simp only [pp_6 hR4]; decide), c7, c8⟩) (fun _ => ?_)
        refine Li_ite (by simp only [aa_6 hR4, pp_6 hR4]) ?_ ?_
        · exact li_X12_step_73 hR4
        · exact li_X12_step_73 hR4
theorem li_X12_step_0 {l1 l2 l3 l4 : Int} {r : Rst} {m : Mem} (hR : Rp r m) : LiR (G_step_0 l1 l2 l3 l4 r) (X12_step_0 10 l1 l2 l3 l4 m) m := by
  unfold G_step_0 X12_step_0
  refine Li_cal (li_X12_isType hR) (fun v2 r1 m3 hR4 => ?_)
  refine Li_ite Iff.rfl ?_ ?_
  · exact li_X12_step_20 hR4
  · refine Li_cal (li_X12_rowOf hR4) (fun v6 r5 m7 hR8 => ?_)
    exact li_X12_step_20 hR8
theorem li_X12_step {a1 a2 a3 a4 : Int} {r : Rst} {m : Mem} (hR : Rp r m) : LiR (G_step a1 a2 a3 a4 r) (X12_step 10 a1 a2 a3 a4 m) m := li_X12_step_0 hR
theorem li_X12_forget_13 {l1 s0 : Int} {r : Rst} {m : Mem} (hR : Rp r m) : LiR (G_forget_13 l1 s0 r) (X12_forget_13 10 l1 s0 10 m) m := by
  unfold G_forget_13 X12_forget_13
  refine Li_chkX ((by decide)) ?_
  refine Li_cal (li_X12_isFine hR) (fun v2 r1 m3 hR4 => ?_)
  refine Li_ite Iff.rfl ?_ ?_
  · exact Li_ret rfl hR4
  · refine Li_chkX ((by decide)) ?_
    refine Li_cal (li_X12_rowOf hR4) (fun v6 r5 m7 hR8 => ?_)
    refine Li_chk (fun ⟨c9, c10⟩ => ⟨(by simp only [pp_5 hR4]; decide), c9, c10⟩) (fun _ => ?_)
    refine Li_cal (li_X12_rowOf hR8) (fun v12 r11 m13 hR14 => ?_)
    refine Li_chk (fun ⟨c15, c16⟩ => ⟨(by simp only [pp_5 hR8]; decide), c15, c16⟩) (fun _ => ?_)
    refine Li_sta hR14 (j := 5) rfl (by decide) (pp_5 hR8) rfl rfl (fun r17 m18 hR19 => ?_)
    exact Li_ret (by simp only [aa_5 hR8, pp_5 hR4]) hR19
theorem li_X12_forget_0 {l1 : Int} {r : Rst} {m : Mem} (hR : Rp r m) : LiR (G_forget_0 l1 r) (X12_forget_0 10 l1 m) m := by
  unfold G_forget_0 X12_forget_0
  refine Li_cal (li_X12_isType hR) (fun v2 r1 m3 hR4 => ?_)
  refine Li_ite Iff.rfl ?_ ?_
  · exact li_X12_forget_13 hR4
  · exact li_X12_forget_13 hR4
theorem li_X12_forget {a1 : Int} {r : Rst} {m : Mem} (hR : Rp r m) : LiR (G_forget a1 r) (X12_forget 10 a1 m) m := li_X12_forget_0 hR
theorem li_X12_leads_91 : ∀ (n : Nat) {l1 l2 l3 l4 l5 : Int} {r : Rst} {m : Mem}, Rp r m → LiR (G_leads_91 n l1 l2 l3 l4 l5 r) (X12_leads_91 n 10 l1 l2 l3 l4 l5 m) m := by
  intro n
  induction n with
  | zero =>
    intro l1 l2 l3 l4 l5 r m hR
    exact Li_none
  | succ n ih =>
    intro l1 l2 l3 l4 l5 r m hR
    rw [G_leads_91, X12_leads_91]
    refine Li_chkX ((by decide)) ?_
    refine Li_chk (fun ⟨c1, c2⟩ => ⟨(by simp only [pp_2 hR]; decide), c1, c2⟩) (fun _ => ?_)
    refine Li_ite (by simp only [aa_2 hR, pp_2 hR]) ?_ ?_
    · refine Li_chk (fun ⟨c3, c4⟩ => ⟨(by simp only [pp_3 hR]; decide), c3, c4⟩) (fun _ => ?_)
      refine Li_ite (by simp only [aa_3 hR, pp_3 hR]) ?_ ?_
      · exact Li_ret rfl hR
      · refine Li_ite Iff.rfl ?_ ?_
        · exact Li_ret rfl hR
        · refine Li_chk (fun c5 => c5) (fun _ => ?_)
          refine Li_chk (fun ⟨c6, c7⟩ => ⟨(by simp only [pp_5 hR]; decide), c6, c7⟩) (fun _ => ?_)
          refine Li_ite (by simp only [aa_5 hR, pp_5 hR]) ?_ ?_
          · refine Li_chk (fun c8 => c8) (fun _ => ?_)
            exact ih hR
          · refine Li_chk (fun c9 => c9) (fun _ => ?_)
            refine Li_chk (fun ⟨c10, c11⟩ => ⟨c10, c11⟩) (fun _ => ?_)
            refine Li_ite (by simp only [aa_2 hR, pp_2 hR]) ?_ ?_
            · refine Li_chk (fun c12 => c12) (fun _ => ?_)
              exact ih hR
            · refine Li_chk (fun c13 => c13) (fun _ => ?_)
              exact ih hR
    · exact Li_ret rfl hR
theorem li_X12_leads_62 {l1 l2 l3 : Int} {r : Rst} {m : Mem} (hR : Rp r m) : LiR (G_leads_62 l1 l2 l3 r) (X12_leads_62 10 l1 l2 l3 m) m := by
  unfold G_leads_62 X12_leads_62
  refine Li_chk (fun c1 => c1) (fun _ => ?_)
  refine Li_chkX ((by decide)) ?_
  refine Li_chk (fun ⟨c2, c3⟩ => ⟨(by simp only [pp_4 hR]; decide), c2, c3⟩) (fun _ => ?_)
  refine Li_chk (fun c4 => (by simp only [aa_4 hR, pp_4 hR]; exact c4)) (fun _ => ?_)
  refine Li_chk (fun ⟨c5, c6⟩ => ⟨(by simp only [pp_5 hR]; decide), c5, c6⟩) (fun _ => ?_)
  refine Li_ite (by simp only [aa_4 hR, aa_5 hR, pp_4 hR, pp_5 hR]) ?_ ?_
  · exact li_X12_leads_91 fuel9 hR
  · exact li_X12_leads_91 fuel9 hR
theorem li_X12_leads_34 {l1 l2 l3 s0 : Int} {r : Rst} {m : Mem} (hR : Rp r m) : LiR (G_leads_34 l1 l2 l3 s0 r) (X12_leads_34 10 l1 l2 l3 s0 m) m := by
  unfold G_leads_34 X12_leads_34
  refine Li_ite Iff.rfl ?_ ?_
  · exact li_X12_leads_91 fuel9 hR
  · refine Li_chkX ((by decide)) ?_
    refine Li_chk (fun ⟨c1, c2⟩ => ⟨(by simp only [pp_2 hR]; decide), c1, c2⟩) (fun _ => ?_)
    refine Li_ite (by simp only [aa_2 hR, pp_2 hR]) ?_ ?_
    · exact li_X12_leads_62 hR
    · refine Li_chk (fun ⟨c3, c4⟩ => ⟨c3, c4⟩) (fun _ => ?_)
      refine Li_ite (by simp only [aa_2 hR, pp_2 hR]) ?_ ?_
      · exact li_X12_leads_62 hR
      · exact li_X12_leads_91 fuel9 hR
theorem li_X12_leads_0 {l1 l2 : Int} {r : Rst} {m : Mem} (hR : Rp r m) : LiR (G_leads_0 l1 l2 r) (X12_leads_0 10 l1 l2 m) m := by
  unfold G_leads_0 X12_leads_0
  refine Li_chk (fun c1 => c1) (fun _ => ?_)
  refine Li_chk (fun c2 => c2) (fun _ => ?_)
  refine Li_chkX ((by decide)) ?_
  refine Li_chk (fun ⟨c3, c4⟩ => ⟨(by simp only [pp_2 hR]; decide), c3, c4⟩) (fun _ => ?_)
  refine Li_ite (by simp only [aa_2 hR, pp_2 hR]) ?_ ?_
  · refine Li_chk (fun ⟨c5, c6⟩ => ⟨(by simp only [pp_4 hR]; decide), c5, c6⟩) (fun _ => ?_)
    refine Li_chk (fun c7 => (by simp only [aa_4 hR, pp_4 hR]; exact c7)) (fun _ => ?_)
    refine Li_ite (by simp only [aa_4 hR, pp_4 hR]) ?_ ?_
    · exact li_X12_leads_34 hR
    · exact li_X12_leads_34 hR
  · exact li_X12_leads_34 hR
theorem li_X12_leads {a1 a2 : Int} {r : Rst} {m : Mem} (hR : Rp r m) : LiR (G_leads a1 a2 r) (X12_leads 10 a1 a2 m) m := Li_bool (li_X12_leads_0 hR)
theorem li_X12_release_217 {l1 l4 l5 : Int} {r : Rst} {m : Mem} (hR : Rp r m) : LiR (G_release_217 l1 l4 l5 r) (X12_release_217 10 l1 l4 l5 m) m := by
  unfold G_release_217 X12_release_217
  refine Li_chkX ((by decide)) ?_
  refine Li_chk (fun ⟨c1, c2⟩ => ⟨(by simp only [pp_5 hR]; decide), c1, c2⟩) (fun _ => ?_)
  refine Li_chk (fun ⟨c3, c4⟩ => ⟨c3, c4⟩) (fun _ => ?_)
  refine Li_sta hR (j := 5) rfl (by decide) (pp_5 hR) rfl (by simp only [aa_5 hR, pp_5 hR]) (fun r5 m6 hR7 => ?_)
  refine Li_chk (fun ⟨c8, c9⟩ => ⟨(by simp only [pp_5 hR7]; decide), c8, c9⟩) (fun _ => ?_)
  refine Li_sta hR7 (j := 5) rfl (by decide) (pp_5 hR7) rfl rfl (fun r10 m11 hR12 => ?_)
  refine Li_chk (fun ⟨c13, c14⟩ => ⟨(by simp only [pp_6 hR12]; decide), c13, c14⟩) (fun _ => ?_)
  exact Li_ret (by simp only [aa_6 hR12, pp_6 hR12]) hR12
theorem li_X12_release_126 {k217 : Int → Int → Int → Rst → Option G2} {k217' : Int → Int → Int → Int → Mem → Option R2} (hk217 : ∀ {l1 l4 l5 : Int} {r : Rst} {m : Mem}, Rp r m → LiR (k217 l1 l4 l5 r) (k217' 10 l1 l4 l5 m) m) : ∀ (n : Nat) {l1 l4 l5 l6 : Int} {r : Rst} {m : Mem}, Rp r m → LiR (G_release_126 k217 n l1 l4 l5 l6 r) (X12_release_126 k217' n 10 l1 l4 l5 l6 m) m := by
  intro n
  induction n with
  | zero =>
    intro l1 l4 l5 l6 r m hR
    exact Li_none
  | succ n ih =>
    intro l1 l4 l5 l6 r m hR
    rw [G_release_126, X12_release_126]
    refine Li_ite Iff.rfl ?_ ?_
    · exact hk217 hR
    · refine Li_chkX ((by decide)) ?_
      refine Li_chk (fun c1 => c1) (fun _ => ?_)
      refine Li_chk (fun c2 => c2) (fun _ => ?_)
      refine Li_chk (fun c3 => c3) (fun _ => ?_)
      refine Li_chk (fun c4 => c4) (fun _ => ?_)
      refine Li_chk (fun ⟨c5, c6⟩ => ⟨(by simp only [pp_2 hR]; decide), c5, c6⟩) (fun _ => ?_)
      refine Li_chk (fun ⟨c7, c8⟩ => ⟨c7, c8⟩) (fun _ => ?_)
      refine Li_sta hR (j := 2) rfl (by decide) (pp_2 hR) rfl (by simp only [aa_2 hR, pp_2 hR]) (fun r9 m10 hR11 => ?_)
      refine Li_chk (fun c12 => c12) (fun _ => ?_)
      refine Li_chk (fun c13 => c13) (fun _ => ?_)
      refine Li_chk (fun c14 => c14) (fun _ => ?_)
      refine Li_chk (fun c15 => c15) (fun _ => ?_)
      refine Li_chk (fun ⟨c16, c17⟩ => ⟨(by simp only [pp_3 hR11]; decide), c16, c17⟩) (fun _ => ?_)
      refine Li_chk (fun ⟨c18, c19⟩ => ⟨c18, c19⟩) (fun _ => ?_)
      refine Li_sta hR11 (j := 3) rfl (by decide) (pp_3 hR11) rfl (by simp only [aa_3 hR11, pp_3 hR11]) (fun r20 m21 hR22 => ?_)
      refine Li_chk (fun c23 => c23) (fun _ => ?_)
      refine Li_chk (fun c24 => c24) (fun _ => ?_)
      refine Li_chk (fun c25 => c25) (fun _ => ?_)
      refine Li_chk (fun c26 => c26) (fun _ => ?_)
      refine Li_chk (fun ⟨c27, c28⟩ => ⟨(by simp only [pp_4 hR22]; decide), c27, c28⟩) (fun _ => ?_)
      refine Li_chk (fun ⟨c29, c30⟩ => ⟨c29, c30⟩) (fun _ => ?_)
      refine Li_sta hR22 (j := 4) rfl (by decide) (pp_4 hR22) rfl (by simp only [aa_4 hR22, pp_4 hR22]) (fun r31 m32 hR33 => ?_)
      refine Li_chk (fun c34 => c34) (fun _ => ?_)
      exact ih hR33
theorem li_X12_release_86 {l1 s0 : Int} {r : Rst} {m : Mem} (hR : Rp r m) : LiR (G_release_86 l1 s0 r) (X12_release_86 10 l1 s0 10 m) m := by
  unfold G_release_86 X12_release_86
  refine Li_chkX ((by decide)) ?_
  refine Li_cal (li_X12_isFine hR) (fun v2 r1 m3 hR4 => ?_)
  refine Li_ite Iff.rfl ?_ ?_
  · exact Li_ret rfl hR4
  · refine Li_chkX ((by decide)) ?_
    refine Li_chk (fun ⟨c5, c6⟩ => ⟨(by simp only [pp_6 hR4]; decide), c5, c6⟩) (fun _ => ?_)
    refine Li_chk (fun c7 => (by simp only [aa_6 hR4, pp_6 hR4]; exact c7)) (fun _ => ?_)
    refine Li_chk (fun ⟨c8, c9⟩ => ⟨c8, c9⟩) (fun _ => ?_)
    refine Li_sta hR4 (j := 6) rfl (by decide) (pp_6 hR4) rfl (by simp only [aa_6 hR4, pp_6 hR4]) (fun r10 m11 hR12 => ?_)
    refine Li_cal (li_X12_rowOf hR12) (fun v14 r13 m15 hR16 => ?_)
    refine Li_chk (fun ⟨c17, c18⟩ => ⟨(by simp only [pp_6 hR16]; decide), c17, c18⟩) (fun _ => ?_)
    refine Li_cal (by simp only [aa_6 hR16, pp_6 hR16]; exact li_X12_rowOf hR16) (fun v20 r19 m21 hR22 => ?_)
    exact li_X12_release_126 (fun hR => li_X12_release_217 hR) fuel9 hR22
theorem li_X12_release_68 {l1 l2 l3 : Int} {r : Rst} {m : Mem} (hR : Rp r m) : LiR (G_release_68 l1 l2 l3 r) (X12_release_68 10 l1 l2 l3 m) m := by
  unfold G_release_68 X12_release_68
  refine Li_ite Iff.rfl ?_ ?_
  · exact li_X12_release_86 hR
  · refine Li_ite Iff.rfl ?_ ?_
    · exact li_X12_release_86 hR
    · exact li_X12_release_86 hR
theorem li_X12_release_31 {k68 : Int → Int → Int → Rst → Option G2} {k68' : Int → Int → Int → Int → Mem → Option R2} (hk68 : ∀ {l1 l2 l3 : Int} {r : Rst} {m : Mem}, Rp r m → LiR (k68 l1 l2 l3 r) (k68' 10 l1 l2 l3 m) m) : ∀ (n : Nat) {l1 l2 l3 l4 : Int} {r : Rst} {m : Mem}, Rp r m → LiR (G_release_31 k68 n l1 l2 l3 l4 r) (X12_release_31 k68' n 10 l1 l2 l3 l4 m) m := by
  intro n
  induction n with
  | zero =>
    intro l1 l2 l3 l4 r m hR
    exact Li_none
  | succ n ih =>
    intro l1 l2 l3 l4 r m hR
    rw [G_release_31, X12_release_31]
    refine Li_ite Iff.rfl ?_ ?_
    · exact hk68 hR
    · refine Li_chkX ((by decide)) ?_
      refine Li_cal (li_X12_rowOf hR) (fun v2 r1 m3 hR4 => ?_)
      refine Li_chk (fun ⟨c5, c6⟩ => ⟨(by simp only [pp_5 hR]; decide), c5, c6⟩) (fun _ => ?_)
      refine Li_ite (by simp only [aa_5 hR4, pp_5 hR]) ?_ ?_
      · exact hk68 hR4
      · refine Li_cal (li_X12_rowOf hR4) (fun v8 r7 m9 hR10 => ?_)
        refine Li_cal (li_X12_leads hR10) (fun v12 r11 m13 hR14 => ?_)
        refine Li_chk (fun c15 => c15) (fun _ => ?_)
        exact ih hR14
theorem li_X12_release_0 {l1 : Int} {r : Rst} {m : Mem} (hR : Rp r m) : LiR (G_release_0 l1 r) (X12_release_0 10 l1 m) m := by
  unfold G_release_0 X12_release_0
  refine Li_cal (li_X12_isType hR) (fun v2 r1 m3 hR4 => ?_)
  refine Li_ite Iff.rfl ?_ ?_
  · exact li_X12_release_31 (fun hR => li_X12_release_68 hR) fuel9 hR4
  · refine Li_chkX ((by decide)) ?_
    refine Li_cal (li_X12_rowOf hR4) (fun v6 r5 m7 hR8 => ?_)
    refine Li_chk (fun ⟨c9, c10⟩ => ⟨(by simp only [pp_5 hR4]; decide), c9, c10⟩) (fun _ => ?_)
    refine Li_ite (by simp only [aa_5 hR8, pp_5 hR4]) ?_ ?_
    · exact li_X12_release_31 (fun hR => li_X12_release_68 hR) fuel9 hR8
    · exact li_X12_release_31 (fun hR => li_X12_release_68 hR) fuel9 hR8
theorem li_X12_release {a1 : Int} {r : Rst} {m : Mem} (hR : Rp r m) : LiR (G_release a1 r) (X12_release 10 a1 m) m := li_X12_release_0 hR
theorem li_X12_versions_13 {l1 s0 : Int} {r : Rst} {m : Mem} (hR : Rp r m) : LiR (G_versions_13 l1 s0 r) (X12_versions_13 10 l1 s0 10 m) m := by
  unfold G_versions_13 X12_versions_13
  refine Li_chkX ((by decide)) ?_
  refine Li_cal (li_X12_isFine hR) (fun v2 r1 m3 hR4 => ?_)
  refine Li_ite Iff.rfl ?_ ?_
  · exact Li_ret rfl hR4
  · refine Li_chkX ((by decide)) ?_
    refine Li_chk (fun ⟨c5, c6⟩ => ⟨(by simp only [pp_6 hR4]; decide), c5, c6⟩) (fun _ => ?_)
    exact Li_ret (by simp only [aa_6 hR4, pp_6 hR4]) hR4
theorem li_X12_versions_0 {l1 : Int} {r : Rst} {m : Mem} (hR : Rp r m) : LiR (G_versions_0 l1 r) (X12_versions_0 10 l1 m) m := by
  unfold G_versions_0 X12_versions_0
  refine Li_cal (li_X12_isType hR) (fun v2 r1 m3 hR4 => ?_)
  refine Li_ite Iff.rfl ?_ ?_
  · exact li_X12_versions_13 hR4
  · exact li_X12_versions_13 hR4
theorem li_X12_versions {a1 : Int} {r : Rst} {m : Mem} (hR : Rp r m) : LiR (G_versions a1 r) (X12_versions 10 a1 m) m := li_X12_versions_0 hR
theorem li_X12_rowOfRun_0 {l1 : Int} {r : Rst} {m : Mem} (hR : Rp r m) : LiR (G_rowOfRun_0 l1 r) (X12_rowOfRun_0 10 l1 m) m := by
  unfold G_rowOfRun_0 X12_rowOfRun_0
  refine Li_chk (fun c1 => c1) (fun _ => ?_)
  refine Li_chkX ((by decide)) ?_
  refine Li_chk (fun ⟨c2, c3⟩ => ⟨(by simp only [pp_12 hR]; decide), c2, c3⟩) (fun _ => ?_)
  refine Li_chk (fun c4 => (by simp only [aa_12 hR, pp_12 hR]; exact c4)) (fun _ => ?_)
  refine Li_chk (fun c5 => (by simp only [aa_12 hR, pp_12 hR]; exact c5)) (fun _ => ?_)
  exact Li_ret (by simp only [aa_12 hR, pp_12 hR]) hR
theorem li_X12_rowOfRun {a1 : Int} {r : Rst} {m : Mem} (hR : Rp r m) : LiR (G_rowOfRun a1 r) (X12_rowOfRun 10 a1 m) m := li_X12_rowOfRun_0 hR
theorem li_X12_isRunning_0 {l1 : Int} {r : Rst} {m : Mem} (hR : Rp r m) : LiR (G_isRunning_0 l1 r) (X12_isRunning_0 10 l1 m) m := by
  unfold G_isRunning_0 X12_isRunning_0
  refine Li_chkX ((by decide)) ?_
  refine Li_cal (li_X12_rowOfRun hR) (fun v2 r1 m3 hR4 => ?_)
  refine Li_chk (fun ⟨c5, c6⟩ => ⟨(by simp only [pp_17 hR]; decide), c5, c6⟩) (fun _ => ?_)
  refine Li_ite (by simp only [aa_17 hR4, pp_17 hR]) ?_ ?_
  · exact Li_ret rfl hR4
  · exact Li_ret rfl hR4
theorem li_X12_isRunning {a1 : Int} {r : Rst} {m : Mem} (hR : Rp r m) : LiR (G_isRunning a1 r) (X12_isRunning 10 a1 m) m := Li_bool (li_X12_isRunning_0 hR)
theorem li_X12_writes_0 {l1 l2 l3 l4 : Int} {r : Rst} {m : Mem} (hR : Rp r m) : LiR (G_writes_0 l1 l2 l3 l4 r) (X12_writes_0 10 l1 l2 l3 l4 m) m := by
  unfold G_writes_0 X12_writes_0
  refine Li_chkX ((by decide)) ?_
  refine Li_cal (li_X12_rowOfRun hR) (fun v2 r1 m3 hR4 => ?_)
  refine Li_chk (fun c5 => c5) (fun _ => ?_)
  refine Li_chk (fun ⟨c6, c7⟩ => ⟨(by simp only [pp_18 hR4]; decide), c6, c7⟩) (fun _ => ?_)
  refine Li_chk (fun c8 => (by simp only [aa_18 hR4, pp_18 hR4]; exact c8)) (fun _ => ?_)
  refine Li_chk (fun ⟨c9, c10⟩ => ⟨(by simp only [pp_19 hR4]; decide), (by simp only [aa_18 hR4, pp_18 hR4]; exact c9), (by simp only [aa_18 hR4, pp_18 hR4]; exact c10)⟩) (fun _ => ?_)
  refine Li_sta hR4 (j := 19) rfl (by decide) (pp_19 hR4) (by simp only [aa_18 hR4, pp_18 hR4]) rfl (fun r11 m12 hR13 => ?_)
  refine Li_chk (fun c14 => c14) (fun _ => ?_)
  refine Li_chk (fun ⟨c15, c16⟩ => ⟨(by simp only [pp_18 hR13]; decide), c15, c16⟩) (fun _ => ?_)
  refine Li_chk (fun c17 => (by simp only [aa_18 hR13, pp_18 hR13]; exact c17)) (fun _ => ?_)
  refine Li_chk (fun ⟨c18, c19⟩ => ⟨(by simp only [pp_20 hR13]; decide), (by simp only [aa_18 hR13, pp_18 hR13]; exact c18), (by simp only [aa_18 hR13, pp_18 hR13]; exact c19)⟩) (fun _ => ?_)
  refine Li_sta hR13 (j := 20) rfl (by decide) (pp_20 hR13) (by simp only [aa_18 hR13, pp_18 hR13]) rfl (fun r20 m21 hR22 => ?_)
  refine Li_chk (fun c23 => c23) (fun _ => ?_)
  refine Li_chk (fun ⟨c24, c25⟩ => ⟨(by simp only [pp_18 hR22]; decide), c24, c25⟩) (fun _ => ?_)
  refine Li_chk (fun c26 => (by simp only [aa_18 hR22, pp_18 hR22]; exact c26)) (fun _ => ?_)
  refine Li_chk (fun ⟨c27, c28⟩ => ⟨(by simp only [pp_21 hR22]; decide), (by simp only [aa_18 hR22, pp_18 hR22]; exact c27), (by simp only [aa_18 hR22, pp_18 hR22]; exact c28)⟩) (fun _ => ?_)
  refine Li_sta hR22 (j := 21) rfl (by decide) (pp_21 hR22) (by simp only [aa_18 hR22, pp_18 hR22]) rfl (fun r29 m30 hR31 => ?_)
  refine Li_chk (fun ⟨c32, c33⟩ => ⟨(by simp only [pp_18 hR31]; decide), c32, c33⟩) (fun _ => ?_)
  refine Li_chk (fun c34 => (by simp only [aa_18 hR31, pp_18 hR31]; exact c34)) (fun _ => ?_)
  refine Li_chk (fun ⟨c35, c36⟩ => ⟨c35, c36⟩) (fun _ => ?_)
  refine Li_sta hR31 (j := 18) rfl (by decide) (pp_18 hR31) rfl (by simp only [aa_18 hR31, pp_18 hR31]) (fun r37 m38 hR39 => ?_)
  exact Li_ret rfl hR39
theorem li_X12_writes {a1 a2 a3 a4 : Int} {r : Rst} {m : Mem} (hR : Rp r m) : LiR (G_writes a1 a2 a3 a4 r) (X12_writes 10 a1 a2 a3 a4 m) m := li_X12_writes_0 hR
theorem li_X12_happens_28 {l1 l2 l3 l4 s0 : Int} {r : Rst} {m : Mem} (hR : Rp r m) : LiR (G_happens_28 l1 l2 l3 l4 s0 r) (X12_happens_28 10 l1 l2 l3 l4 s0 m) m := by
  unfold G_happens_28 X12_happens_28
  refine Li_ite Iff.rfl ?_ ?_
  · exact Li_ret rfl hR
  · refine Li_chkX ((by decide)) ?_
    refine Li_cal (li_X12_writes hR) (fun v2 r1 m3 hR4 => ?_)
    exact Li_ret rfl hR4
theorem li_X12_happens_0 {l1 l2 l3 l4 : Int} {r : Rst} {m : Mem} (hR : Rp r m) : LiR (G_happens_0 l1 l2 l3 l4 r) (X12_happens_0 10 l1 l2 l3 l4 m) m := by
  unfold G_happens_0 X12_happens_0
  refine Li_chkX ((by decide)) ?_
  refine Li_cal (li_X12_isRunning hR) (fun v2 r1 m3 hR4 => ?_)
  refine Li_ite Iff.rfl ?_ ?_
  · exact li_X12_happens_28 hR4
  · refine Li_cal (li_X12_rowOfRun hR4) (fun v6 r5 m7 hR8 => ?_)
    refine Li_chk (fun ⟨c9, c10⟩ => ⟨(by simp only [pp_18 hR4]; decide), c9, c10⟩) (fun _ => ?_)
    refine Li_ite (by simp only [aa_18 hR8, pp_18 hR4]) ?_ ?_
    · exact li_X12_happens_28 hR8
    · exact li_X12_happens_28 hR8
theorem li_X12_happens {a1 a2 a3 a4 : Int} {r : Rst} {m : Mem} (hR : Rp r m) : LiR (G_happens a1 a2 a3 a4 r) (X12_happens 10 a1 a2 a3 a4 m) m := Li_bool (li_X12_happens_0 hR)
theorem li_X12_beginsRun_0 {l1 l2 : Int} {r : Rst} {m : Mem} (hR : Rp r m) : LiR (G_beginsRun_0 l1 l2 r) (X12_beginsRun_0 10 l1 l2 m) m := by
  unfold G_beginsRun_0 X12_beginsRun_0
  refine Li_chkX ((by decide)) ?_
  refine Li_chk (fun ⟨c1, c2⟩ => ⟨(by simp only [pp_12 hR]; decide), c1, c2⟩) (fun _ => ?_)
  refine Li_chk (fun c3 => (by simp only [aa_12 hR, pp_12 hR]; exact c3)) (fun _ => ?_)
  refine Li_chk (fun ⟨c4, c5⟩ => ⟨c4, c5⟩) (fun _ => ?_)
  refine Li_sta hR (j := 12) rfl (by decide) (pp_12 hR) rfl (by simp only [aa_12 hR, pp_12 hR]) (fun r6 m7 hR8 => ?_)
  refine Li_cal (li_X12_rowOfRun hR8) (fun v10 r9 m11 hR12 => ?_)
  refine Li_chk (fun ⟨c13, c14⟩ => ⟨(by simp only [pp_17 hR8]; decide), c13, c14⟩) (fun _ => ?_)
  refine Li_sta hR12 (j := 17) rfl (by decide) (pp_17 hR8) rfl rfl (fun r15 m16 hR17 => ?_)
  refine Li_chk (fun ⟨c18, c19⟩ => ⟨(by simp only [pp_14 hR17]; decide), c18, c19⟩) (fun _ => ?_)
  refine Li_sta hR17 (j := 14) rfl (by decide) (pp_14 hR17) rfl rfl (fun r20 m21 hR22 => ?_)
  refine Li_chk (fun ⟨c23, c24⟩ => ⟨(by simp only [pp_15 hR22]; decide), c23, c24⟩) (fun _ => ?_)
  refine Li_sta hR22 (j := 15) rfl (by decide) (pp_15 hR22) rfl rfl (fun r25 m26 hR27 => ?_)
  refine Li_chk (fun ⟨c28, c29⟩ => ⟨(by simp only [pp_22 hR27]; decide), c28, c29⟩) (fun _ => ?_)
  refine Li_sta hR27 (j := 22) rfl (by decide) (pp_22 hR27) rfl rfl (fun r30 m31 hR32 => ?_)
  refine Li_chk (fun ⟨c33, c34⟩ => ⟨(by simp only [pp_30 hR32]; decide), c33, c34⟩) (fun _ => ?_)
  refine Li_sta hR32 (j := 30) rfl (by decide) (pp_30 hR32) rfl rfl (fun r35 m36 hR37 => ?_)
  refine Li_chk (fun ⟨c38, c39⟩ => ⟨(by simp only [pp_32 hR37]; decide), c38, c39⟩) (fun _ => ?_)
  refine Li_sta hR37 (j := 32) rfl (by decide) (pp_32 hR37) rfl rfl (fun r40 m41 hR42 => ?_)
  refine Li_cal (li_X12_writes hR42) (fun v44 r43 m45 hR46 => ?_)
  exact Li_ret rfl hR46
theorem li_X12_beginsRun {a1 a2 : Int} {r : Rst} {m : Mem} (hR : Rp r m) : LiR (G_beginsRun a1 a2 r) (X12_beginsRun 10 a1 a2 m) m := li_X12_beginsRun_0 hR
theorem li_X12_makesFlow_61 {l4 l5 l6 s0 s1 : Int} {r : Rst} {m : Mem} (hR : Rp r m) : LiR (G_makesFlow_61 l4 l5 l6 s0 s1 r) (X12_makesFlow_61 10 l4 l5 l6 s0 s1 20 m) m := by
  unfold G_makesFlow_61 X12_makesFlow_61
  refine Li_chk (fun ⟨c1, c2⟩ => ⟨(by decide), c1, c2⟩) (fun _ => ?_)
  refine Li_sta hR (j := 10) rfl (by decide) rfl rfl rfl (fun r3 m4 hR5 => ?_)
  refine Li_chkX ((by decide)) ?_
  refine Li_chk (fun ⟨c6, c7⟩ => ⟨(by simp only [pp_11 hR5]; decide), c6, c7⟩) (fun _ => ?_)
  refine Li_sta hR5 (j := 11) rfl (by decide) (pp_11 hR5) rfl rfl (fun r8 m9 hR10 => ?_)
  refine Li_cal (li_X12_beginsRun hR10) (fun v12 r11 m13 hR14 => ?_)
  exact Li_ret rfl hR14
theorem li_X12_makesFlow_0 {l1 l2 l3 l4 l5 : Int} {r : Rst} {m : Mem} (hR : Rp r m) : LiR (G_makesFlow_0 l1 l2 l3 l4 l5 r) (X12_makesFlow_0 10 l1 l2 l3 l4 l5 m) m := by
  unfold G_makesFlow_0 X12_makesFlow_0
  refine Li_chkX ((by decide)) ?_
  refine Li_chk (fun c1 => (by simp only [ss_16 hR]; exact c1)) (fun _ => ?_)
  refine Li_sts hR (j := 16) rfl (by decide) rfl (by simp only [ss_16 hR]) (fun r2 m3 hR4 => ?_)
  refine Li_chk (fun ⟨c5, c6⟩ => ⟨(by simp only [pp_7 hR4]; decide), (by simp only [ss_16 hR]; exact c5), (by simp only [ss_16 hR]; exact c6)⟩) (fun _ => ?_)
  refine Li_sta hR4 (j := 7) rfl (by decide) (pp_7 hR4) (by simp only [ss_16 hR]) rfl (fun r7 m8 hR9 => ?_)
  refine Li_chk (fun ⟨c10, c11⟩ => ⟨(by simp only [pp_8 hR9]; decide), (by simp only [ss_16 hR]; exact c10), (by simp only [ss_16 hR]; exact c11)⟩) (fun _ => ?_)
  refine Li_sta hR9 (j := 8) rfl (by decide) (pp_8 hR9) (by simp only [ss_16 hR]) rfl (fun r12 m13 hR14 => ?_)
  refine Li_chk (fun ⟨c15, c16⟩ => ⟨(by simp only [pp_9 hR14]; decide), (by simp only [ss_16 hR]; exact c15), (by simp only [ss_16 hR]; exact c16)⟩) (fun _ => ?_)
  refine Li_sta hR14 (j := 9) rfl (by decide) (pp_9 hR14) (by simp only [ss_16 hR]) rfl (fun r17 m18 hR19 => ?_)
  refine Li_ite Iff.rfl ?_ ?_
  · simp only [pp_10 hR19, ss_16 hR]
    exact li_X12_makesFlow_61 hR19
  · refine Li_chk (fun ⟨c20, c21⟩ => ⟨(by simp only [pp_12 hR19]; decide), c20, c21⟩) (fun _ => ?_)
    simp only [aa_12 hR19, pp_10 hR19, pp_12 hR19, ss_16 hR]
    exact li_X12_makesFlow_61 hR19
theorem li_X12_makesFlow {a1 a2 a3 a4 a5 : Int} {r : Rst} {m : Mem} (hR : Rp r m) : LiR (G_makesFlow a1 a2 a3 a4 a5 r) (X12_makesFlow 10 a1 a2 a3 a4 a5 m) m := li_X12_makesFlow_0 hR
theorem li_X12_start_58 {l1 l2 l3 s0 : Int} {r : Rst} {m : Mem} (hR : Rp r m) : LiR (G_start_58 l1 l2 l3 s0 r) (X12_start_58 10 l1 l2 l3 s0 10 m) m := by
  unfold G_start_58 X12_start_58
  refine Li_chkX ((by decide)) ?_
  refine Li_cal (li_X12_isFine hR) (fun v2 r1 m3 hR4 => ?_)
  refine Li_ite Iff.rfl ?_ ?_
  · exact Li_ret rfl hR4
  · refine Li_chkX ((by decide)) ?_
    refine Li_cal (li_X12_makesFlow hR4) (fun v6 r5 m7 hR8 => ?_)
    exact Li_ret rfl hR8
theorem li_X12_start_21 {l1 l2 l3 s0 : Int} {r : Rst} {m : Mem} (hR : Rp r m) : LiR (G_start_21 l1 l2 l3 s0 r) (X12_start_21 10 l1 l2 l3 s0 m) m := by
  unfold G_start_21 X12_start_21
  refine Li_ite Iff.rfl ?_ ?_
  · exact li_X12_start_58 hR
  · refine Li_cal (li_X12_isValue hR) (fun v2 r1 m3 hR4 => ?_)
    refine Li_ite Iff.rfl ?_ ?_
    · exact li_X12_start_58 hR4
    · refine Li_chkX ((by decide)) ?_
      refine Li_ite (by simp only [ss_16 hR4]) ?_ ?_
      · exact li_X12_start_58 hR4
      · exact li_X12_start_58 hR4
theorem li_X12_start_0 {l1 l2 l3 : Int} {r : Rst} {m : Mem} (hR : Rp r m) : LiR (G_start_0 l1 l2 l3 r) (X12_start_0 10 l1 l2 l3 m) m := by
  unfold G_start_0 X12_start_0
  refine Li_cal (li_X12_isType hR) (fun v2 r1 m3 hR4 => ?_)
  refine Li_ite Iff.rfl ?_ ?_
  · exact li_X12_start_21 hR4
  · refine Li_cal (li_X12_isIn hR4) (fun v6 r5 m7 hR8 => ?_)
    refine Li_ite Iff.rfl ?_ ?_
    · exact li_X12_start_21 hR8
    · exact li_X12_start_21 hR8
theorem li_X12_start {a1 a2 a3 : Int} {r : Rst} {m : Mem} (hR : Rp r m) : LiR (G_start a1 a2 a3 r) (X12_start 10 a1 a2 a3 m) m := li_X12_start_0 hR
theorem li_X12_signal_38 {l1 l2 l3 s0 : Int} {r : Rst} {m : Mem} (hR : Rp r m) : LiR (G_signal_38 l1 l2 l3 s0 r) (X12_signal_38 10 l1 l2 l3 s0 10 m) m := by
  unfold G_signal_38 X12_signal_38
  refine Li_chkX ((by decide)) ?_
  refine Li_cal (li_X12_isFine hR) (fun v2 r1 m3 hR4 => ?_)
  refine Li_ite Iff.rfl ?_ ?_
  · exact Li_ret rfl hR4
  · refine Li_chkX ((by decide)) ?_
    refine Li_cal (li_X12_happens hR4) (fun v6 r5 m7 hR8 => ?_)
    refine Li_ite Iff.rfl ?_ ?_
    · exact Li_ret rfl hR8
    · exact Li_ret rfl hR8
theorem li_X12_signal_0 {l1 l2 l3 : Int} {r : Rst} {m : Mem} (hR : Rp r m) : LiR (G_signal_0 l1 l2 l3 r) (X12_signal_0 10 l1 l2 l3 m) m := by
  unfold G_signal_0 X12_signal_0
  refine Li_chkX ((by decide)) ?_
  refine Li_cal (li_X12_isFlow hR) (fun v2 r1 m3 hR4 => ?_)
  refine Li_ite Iff.rfl ?_ ?_
  · exact li_X12_signal_38 hR4
  · refine Li_cal (li_X12_isIn hR4) (fun v6 r5 m7 hR8 => ?_)
    refine Li_ite Iff.rfl ?_ ?_
    · exact li_X12_signal_38 hR8
    · refine Li_cal (li_X12_isValue hR8) (fun v10 r9 m11 hR12 => ?_)
      refine Li_ite Iff.rfl ?_ ?_
      · exact li_X12_signal_38 hR12
      · exact li_X12_signal_38 hR12
theorem li_X12_signal {a1 a2 a3 : Int} {r : Rst} {m : Mem} (hR : Rp r m) : LiR (G_signal a1 a2 a3 r) (X12_signal 10 a1 a2 a3 m) m := Li_bool (li_X12_signal_0 hR)
theorem li_X12_cancels_54 {l1 l2 : Int} {r : Rst} {m : Mem} (hR : Rp r m) : LiR (G_cancels_54 l1 l2 r) (X12_cancels_54 10 l1 l2 m) m := by
  unfold G_cancels_54 X12_cancels_54
  refine Li_ite Iff.rfl ?_ ?_
  · refine Li_chkX ((by decide)) ?_
    refine Li_cal (li_X12_happens hR) (fun v2 r1 m3 hR4 => ?_)
    refine Li_ite Iff.rfl ?_ ?_
    · exact Li_ret rfl hR4
    · exact Li_ret rfl hR4
  · exact Li_ret rfl hR
theorem li_X12_cancels_4 {k54 : Int → Int → Rst → Option G2} {k54' : Int → Int → Int → Mem → Option R2} (hk54 : ∀ {l1 l2 : Int} {r : Rst} {m : Mem}, Rp r m → LiR (k54 l1 l2 r) (k54' 10 l1 l2 m) m) : ∀ (n : Nat) {l1 l2 l3 : Int} {r : Rst} {m : Mem}, Rp r m → LiR (G_cancels_4 k54 n l1 l2 l3 r) (X12_cancels_4 k54' n 10 l1 l2 l3 m) m := by
  intro n
  induction n with
  | zero =>
    intro l1 l2 l3 r m hR
    exact Li_none
  | succ n ih =>
    intro l1 l2 l3 r m hR
    rw [G_cancels_4, X12_cancels_4]
    refine Li_chkX ((by decide)) ?_
    refine Li_cal (li_X12_rowOfRun hR) (fun v2 r1 m3 hR4 => ?_)
    refine Li_chk (fun ⟨c5, c6⟩ => ⟨(by simp only [pp_18 hR]; decide), c5, c6⟩) (fun _ => ?_)
    refine Li_ite (by simp only [aa_18 hR4, pp_18 hR]) ?_ ?_
    · exact hk54 hR4
    · refine Li_ite Iff.rfl ?_ ?_
      · refine Li_cal (li_X12_rowOfRun hR4) (fun v9 r8 m10 hR11 => ?_)
        refine Li_chk (fun c12 => c12) (fun _ => ?_)
        refine Li_chk (fun c13 => c13) (fun _ => ?_)
        refine Li_chk (fun ⟨c14, c15⟩ => ⟨(by simp only [pp_19 hR4]; decide), c14, c15⟩) (fun _ => ?_)
        refine Li_ite (by simp only [aa_19 hR11, pp_19 hR4]) ?_ ?_
        · refine Li_chk (fun c17 => c17) (fun _ => ?_)
          exact ih hR11
        · refine Li_chk (fun c16 => c16) (fun _ => ?_)
          exact ih hR11
      · refine Li_chk (fun c7 => c7) (fun _ => ?_)
        exact ih hR4
theorem li_X12_cancels_0 {l1 : Int} {r : Rst} {m : Mem} (hR : Rp r m) : LiR (G_cancels_0 l1 r) (X12_cancels_0 10 l1 m) m := by
  unfold G_cancels_0 X12_cancels_0
  exact li_X12_cancels_4 (fun hR => li_X12_cancels_54 hR) fuel9 hR
theorem li_X12_cancels {a1 : Int} {r : Rst} {m : Mem} (hR : Rp r m) : LiR (G_cancels a1 r) (X12_cancels 10 a1 m) m := Li_bool (li_X12_cancels_0 hR)
theorem li_X12_cancel_14 {l1 s0 : Int} {r : Rst} {m : Mem} (hR : Rp r m) : LiR (G_cancel_14 l1 s0 r) (X12_cancel_14 10 l1 s0 10 m) m := by
  unfold G_cancel_14 X12_cancel_14
  refine Li_chkX ((by decide)) ?_
  refine Li_cal (li_X12_isFine hR) (fun v2 r1 m3 hR4 => ?_)
  refine Li_ite Iff.rfl ?_ ?_
  · exact Li_ret rfl hR4
  · refine Li_chkX ((by decide)) ?_
    refine Li_cal (li_X12_cancels hR4) (fun v6 r5 m7 hR8 => ?_)
    refine Li_ite Iff.rfl ?_ ?_
    · exact Li_ret rfl hR8
    · exact Li_ret rfl hR8
theorem li_X12_cancel_0 {l1 : Int} {r : Rst} {m : Mem} (hR : Rp r m) : LiR (G_cancel_0 l1 r) (X12_cancel_0 10 l1 m) m := by
  unfold G_cancel_0 X12_cancel_0
  refine Li_chkX ((by decide)) ?_
  refine Li_cal (li_X12_isFlow hR) (fun v2 r1 m3 hR4 => ?_)
  refine Li_ite Iff.rfl ?_ ?_
  · exact li_X12_cancel_14 hR4
  · exact li_X12_cancel_14 hR4
theorem li_X12_cancel {a1 : Int} {r : Rst} {m : Mem} (hR : Rp r m) : LiR (G_cancel a1 r) (X12_cancel 10 a1 m) m := Li_bool (li_X12_cancel_0 hR)
theorem li_X12_stepAt_0 {l1 : Int} {r : Rst} {m : Mem} (hR : Rp r m) : LiR (G_stepAt_0 l1 r) (X12_stepAt_0 10 l1 m) m := by
  unfold G_stepAt_0 X12_stepAt_0
  refine Li_chkX ((by decide)) ?_
  refine Li_chk (fun c1 => (by simp only [ss_77 hR]; exact c1)) (fun _ => ?_)
  refine Li_chk (fun c2 => (by simp only [ss_77 hR]; exact c2)) (fun _ => ?_)
  exact Li_ret (by simp only [ss_77 hR]) hR
theorem li_X12_stepAt {a1 : Int} {r : Rst} {m : Mem} (hR : Rp r m) : LiR (G_stepAt a1 r) (X12_stepAt 10 a1 m) m := li_X12_stepAt_0 hR
theorem li_X12_begins_0 {l1 : Int} {r : Rst} {m : Mem} (hR : Rp r m) : LiR (G_begins_0 l1 r) (X12_begins_0 10 l1 m) m := by
  unfold G_begins_0 X12_begins_0
  refine Li_chkX ((by decide)) ?_
  refine Li_sts hR (j := 77) rfl (by decide) rfl rfl (fun r1 m2 hR3 => ?_)
  refine Li_sts hR3 (j := 40) rfl (by decide) rfl rfl (fun r4 m5 hR6 => ?_)
  refine Li_sts hR6 (j := 41) rfl (by decide) rfl rfl (fun r7 m8 hR9 => ?_)
  refine Li_sts hR9 (j := 42) rfl (by decide) rfl rfl (fun r10 m11 hR12 => ?_)
  refine Li_sts hR12 (j := 43) rfl (by decide) rfl rfl (fun r13 m14 hR15 => ?_)
  refine Li_sts hR15 (j := 44) rfl (by decide) rfl rfl (fun r16 m17 hR18 => ?_)
  refine Li_sts hR18 (j := 45) rfl (by decide) rfl rfl (fun r19 m20 hR21 => ?_)
  refine Li_sts hR21 (j := 46) rfl (by decide) rfl rfl (fun r22 m23 hR24 => ?_)
  refine Li_sts hR24 (j := 47) rfl (by decide) rfl rfl (fun r25 m26 hR27 => ?_)
  refine Li_sts hR27 (j := 48) rfl (by decide) rfl rfl (fun r28 m29 hR30 => ?_)
  refine Li_sts hR30 (j := 51) rfl (by decide) rfl rfl (fun r31 m32 hR33 => ?_)
  refine Li_sts hR33 (j := 52) rfl (by decide) rfl rfl (fun r34 m35 hR36 => ?_)
  refine Li_sts hR36 (j := 53) rfl (by decide) rfl rfl (fun r37 m38 hR39 => ?_)
  refine Li_sts hR39 (j := 55) rfl (by decide) rfl rfl (fun r40 m41 hR42 => ?_)
  refine Li_sts hR42 (j := 68) rfl (by decide) rfl rfl (fun r43 m44 hR45 => ?_)
  refine Li_sts hR45 (j := 71) rfl (by decide) rfl rfl (fun r46 m47 hR48 => ?_)
  exact Li_ret rfl hR48
theorem li_X12_begins {a1 : Int} {r : Rst} {m : Mem} (hR : Rp r m) : LiR (G_begins a1 r) (X12_begins 10 a1 m) m := li_X12_begins_0 hR
theorem li_X12_decides_0 {l1 l2 l3 : Int} {r : Rst} {m : Mem} (hR : Rp r m) : LiR (G_decides_0 l1 l2 l3 r) (X12_decides_0 10 l1 l2 l3 m) m := by
  unfold G_decides_0 X12_decides_0
  refine Li_chkX ((by decide)) ?_
  refine Li_chk (fun ⟨c1, c2⟩ => ⟨(by simp only [pp_72 hR]; decide), (by simp only [ss_76 hR]; exact c1), (by simp only [ss_76 hR]; exact c2)⟩) (fun _ => ?_)
  refine Li_sta hR (j := 72) rfl (by decide) (pp_72 hR) (by simp only [ss_76 hR]) rfl (fun r3 m4 hR5 => ?_)
  refine Li_chk (fun ⟨c6, c7⟩ => ⟨(by simp only [pp_73 hR5]; decide), (by simp only [ss_76 hR5]; exact c6), (by simp only [ss_76 hR5]; exact c7)⟩) (fun _ => ?_)
  refine Li_sta hR5 (j := 73) rfl (by decide) (pp_73 hR5) (by simp only [ss_76 hR5]) rfl (fun r8 m9 hR10 => ?_)
  refine Li_chk (fun ⟨c11, c12⟩ => ⟨(by simp only [pp_74 hR10]; decide), (by simp only [ss_76 hR10]; exact c11), (by simp only [ss_76 hR10]; exact c12)⟩) (fun _ => ?_)
  refine Li_sta hR10 (j := 74) rfl (by decide) (pp_74 hR10) (by simp only [ss_76 hR10]) rfl (fun r13 m14 hR15 => ?_)
  refine Li_chk (fun ⟨c16, c17⟩ => ⟨(by simp only [pp_75 hR15]; decide), (by simp only [ss_76 hR15]; exact c16), (by simp only [ss_76 hR15]; exact c17)⟩) (fun _ => ?_)
  refine Li_sta hR15 (j := 75) rfl (by decide) (pp_75 hR15) (by simp only [ss_76 hR15]) (by simp only [ss_41 hR15]) (fun r18 m19 hR20 => ?_)
  refine Li_chk (fun c21 => (by simp only [ss_76 hR20]; exact c21)) (fun _ => ?_)
  refine Li_sts hR20 (j := 76) rfl (by decide) rfl (by simp only [ss_76 hR20]) (fun r22 m23 hR24 => ?_)
  exact Li_ret rfl hR24
theorem li_X12_decides {a1 a2 a3 : Int} {r : Rst} {m : Mem} (hR : Rp r m) : LiR (G_decides a1 a2 a3 r) (X12_decides 10 a1 a2 a3 m) m := li_X12_decides_0 hR
theorem li_X12_ends_0 {l1 l2 : Int} {r : Rst} {m : Mem} (hR : Rp r m) : LiR (G_ends_0 l1 l2 r) (X12_ends_0 10 l1 l2 m) m := by
  unfold G_ends_0 X12_ends_0
  refine Li_chkX ((by decide)) ?_
  refine Li_sts hR (j := 42) rfl (by decide) rfl rfl (fun r1 m2 hR3 => ?_)
  refine Li_sts hR3 (j := 49) rfl (by decide) rfl rfl (fun r4 m5 hR6 => ?_)
  refine Li_sts hR6 (j := 50) rfl (by decide) rfl rfl (fun r7 m8 hR9 => ?_)
  refine Li_cal (li_X12_decides hR9) (fun v11 r10 m12 hR13 => ?_)
  exact Li_ret rfl hR13
theorem li_X12_ends {a1 a2 : Int} {r : Rst} {m : Mem} (hR : Rp r m) : LiR (G_ends a1 a2 r) (X12_ends 10 a1 a2 m) m := li_X12_ends_0 hR
theorem li_X12_undoesNext_0 {r : Rst} {m : Mem} (hR : Rp r m) : LiR (G_undoesNext_0 r) (X12_undoesNext_0 10 m) m := by
  unfold G_undoesNext_0 X12_undoesNext_0
  refine Li_chkX ((by decide)) ?_
  refine Li_ite (by simp only [ss_71 hR]) ?_ ?_
  · refine Li_ite (by simp only [ss_43 hR]) ?_ ?_
    · refine Li_cal (li_X12_ends hR) (fun v6 r5 m7 hR8 => ?_)
      exact Li_ret rfl hR8
    · refine Li_cal (by simp only [ss_43 hR]; exact li_X12_ends hR) (fun v2 r1 m3 hR4 => ?_)
      exact Li_ret rfl hR4
  · refine Li_chk (fun c9 => (by simp only [ss_71 hR]; exact c9)) (fun _ => ?_)
    refine Li_sts hR (j := 71) rfl (by decide) rfl (by simp only [ss_71 hR]) (fun r10 m11 hR12 => ?_)
    refine Li_sts hR12 (j := 54) rfl (by decide) rfl (by simp only [ss_51 hR12]) (fun r13 m14 hR15 => ?_)
    refine Li_chk (fun c16 => (by simp only [ss_51 hR15]; exact c16)) (fun _ => ?_)
    refine Li_sts hR15 (j := 51) rfl (by decide) rfl (by simp only [ss_51 hR15]) (fun r17 m18 hR19 => ?_)
    refine Li_chk (fun ⟨c20, c21⟩ => ⟨(by simp only [pp_69 hR19]; decide), (by simp only [ss_71 hR19]; exact c20), (by simp only [ss_71 hR19]; exact c21)⟩) (fun _ => ?_)
    refine Li_chk (fun ⟨c22, c23⟩ => ⟨(by simp only [pp_70 hR19]; decide), (by simp only [ss_71 hR19]; exact c22), (by simp only [ss_71 hR19]; exact c23)⟩) (fun _ => ?_)
    refine Li_cal (by simp only [aa_69 hR19, aa_70 hR19, pp_69 hR19, pp_70 hR19, ss_71 hR19]; exact li_X12_decides hR19) (fun v25 r24 m26 hR27 => ?_)
    exact Li_ret rfl hR27
theorem li_X12_undoesNext {r : Rst} {m : Mem} (hR : Rp r m) : LiR (G_undoesNext r) (X12_undoesNext 10 m) m := li_X12_undoesNext_0 hR
theorem li_X12_fails_0 {l1 : Int} {r : Rst} {m : Mem} (hR : Rp r m) : LiR (G_fails_0 l1 r) (X12_fails_0 10 l1 m) m := by
  unfold G_fails_0 X12_fails_0
  refine Li_chkX ((by decide)) ?_
  refine Li_sts hR (j := 42) rfl (by decide) rfl rfl (fun r1 m2 hR3 => ?_)
  refine Li_sts hR3 (j := 43) rfl (by decide) rfl rfl (fun r4 m5 hR6 => ?_)
  refine Li_sts hR6 (j := 55) rfl (by decide) rfl rfl (fun r7 m8 hR9 => ?_)
  refine Li_cal (li_X12_undoesNext hR9) (fun v11 r10 m12 hR13 => ?_)
  exact Li_ret rfl hR13
theorem li_X12_fails {a1 : Int} {r : Rst} {m : Mem} (hR : Rp r m) : LiR (G_fails a1 r) (X12_fails 10 a1 m) m := li_X12_fails_0 hR
theorem li_X12_cuts_127 {r : Rst} {m : Mem} (hR : Rp r m) : LiR (G_cuts_127 r) (X12_cuts_127 10 m) m := by
  unfold G_cuts_127 X12_cuts_127
  refine Li_chkX ((by decide)) ?_
  refine Li_cal (li_X12_fails hR) (fun v2 r1 m3 hR4 => ?_)
  exact Li_ret rfl hR4
theorem li_X12_cuts_80 {k70 : Int → Rst → Option G2} {k70' : Int → Int → Mem → Option R2} (hk70 : ∀ {l1 : Int} {r : Rst} {m : Mem}, Rp r m → LiR (k70 l1 r) (k70' 10 l1 m) m) : ∀ (n : Nat) {l1 l2 : Int} {r : Rst} {m : Mem}, Rp r m → LiR (G_cuts_80 k70 n l1 l2 r) (X12_cuts_80 k70' n 10 l1 l2 m) m := by
  intro n
  induction n with
  | zero =>
    intro l1 l2 r m hR
    exact Li_none
  | succ n ih =>
    intro l1 l2 r m hR
    rw [G_cuts_80, X12_cuts_80]
    refine Li_chkX ((by decide)) ?_
    refine Li_ite (by simp only [ss_55 hR]) ?_ ?_
    · refine Li_chk (fun c1 => c1) (fun _ => ?_)
      exact hk70 hR
    · refine Li_chk (fun ⟨c2, c3⟩ => ⟨(by simp only [pp_60 hR]; decide), c2, c3⟩) (fun _ => ?_)
      refine Li_ite (by simp only [aa_60 hR, pp_60 hR]) ?_ ?_
      · refine Li_chk (fun ⟨c5, c6⟩ => ⟨(by simp only [pp_59 hR]; decide), c5, c6⟩) (fun _ => ?_)
        refine Li_ite (by simp only [aa_59 hR, pp_59 hR]) ?_ ?_
        · refine Li_cal (li_X12_decides hR) (fun v9 r8 m10 hR11 => ?_)
          refine Li_chk (fun c12 => c12) (fun _ => ?_)
          exact ih hR11
        · refine Li_chk (fun c7 => c7) (fun _ => ?_)
          exact ih hR
      · refine Li_chk (fun c4 => c4) (fun _ => ?_)
        exact ih hR
theorem li_X12_cuts_70 {k127 : Rst → Option G2} {k127' : Int → Mem → Option R2} (hk127 : ∀ {r : Rst} {m : Mem}, Rp r m → LiR (k127 r) (k127' 10 m) m) : ∀ (n : Nat) {l1 : Int} {r : Rst} {m : Mem}, Rp r m → LiR (G_cuts_70 k127 n l1 r) (X12_cuts_70 k127' n 10 l1 m) m := by
  intro n
  induction n with
  | zero =>
    intro l1 r m hR
    exact Li_none
  | succ n ih =>
    intro l1 r m hR
    rw [G_cuts_70, X12_cuts_70]
    refine Li_chkX ((by decide)) ?_
    refine Li_ite (by simp only [ss_52 hR]) ?_ ?_
    · exact hk127 hR
    · exact li_X12_cuts_80 ih fuel9 hR
theorem li_X12_cuts_12 {k2 : Int → Rst → Option G2} {k2' : Int → Int → Mem → Option R2} (hk2 : ∀ {l1 : Int} {r : Rst} {m : Mem}, Rp r m → LiR (k2 l1 r) (k2' 10 l1 m) m) : ∀ (n : Nat) {l1 l2 : Int} {r : Rst} {m : Mem}, Rp r m → LiR (G_cuts_12 k2 n l1 l2 r) (X12_cuts_12 k2' n 10 l1 l2 m) m := by
  intro n
  induction n with
  | zero =>
    intro l1 l2 r m hR
    exact Li_none
  | succ n ih =>
    intro l1 l2 r m hR
    rw [G_cuts_12, X12_cuts_12]
    refine Li_chkX ((by decide)) ?_
    refine Li_ite (by simp only [ss_55 hR]) ?_ ?_
    · refine Li_chk (fun c1 => c1) (fun _ => ?_)
      exact hk2 hR
    · refine Li_chk (fun ⟨c2, c3⟩ => ⟨(by simp only [pp_56 hR]; decide), c2, c3⟩) (fun _ => ?_)
      refine Li_ite (by simp only [aa_56 hR, pp_56 hR]) ?_ ?_
      · refine Li_chk (fun ⟨c5, c6⟩ => ⟨(by simp only [pp_60 hR]; decide), c5, c6⟩) (fun _ => ?_)
        refine Li_ite (by simp only [aa_60 hR, pp_60 hR]) ?_ ?_
        · refine Li_chk (fun ⟨c8, c9⟩ => ⟨(by simp only [pp_58 hR]; decide), c8, c9⟩) (fun _ => ?_)
          refine Li_ite (by simp only [aa_58 hR, pp_58 hR]) ?_ ?_
          · refine Li_cal (li_X12_decides hR) (fun v12 r11 m13 hR14 => ?_)
            refine Li_chk (fun c15 => c15) (fun _ => ?_)
            exact ih hR14
          · refine Li_chk (fun c10 => c10) (fun _ => ?_)
            exact ih hR
        · refine Li_chk (fun c7 => c7) (fun _ => ?_)
          exact ih hR
      · refine Li_chk (fun c4 => c4) (fun _ => ?_)
        exact ih hR
theorem li_X12_cuts_2 {k70 : Int → Rst → Option G2} {k70' : Int → Int → Mem → Option R2} (hk70 : ∀ {l1 : Int} {r : Rst} {m : Mem}, Rp r m → LiR (k70 l1 r) (k70' 10 l1 m) m) : ∀ (n : Nat) {l1 : Int} {r : Rst} {m : Mem}, Rp r m → LiR (G_cuts_2 k70 n l1 r) (X12_cuts_2 k70' n 10 l1 m) m := by
  intro n
  induction n with
  | zero =>
    intro l1 r m hR
    exact Li_none
  | succ n ih =>
    intro l1 r m hR
    rw [G_cuts_2, X12_cuts_2]
    refine Li_chkX ((by decide)) ?_
    refine Li_ite (by simp only [ss_51 hR]) ?_ ?_
    · exact hk70 hR
    · exact li_X12_cuts_12 ih fuel9 hR
theorem li_X12_cuts_0 {r : Rst} {m : Mem} (hR : Rp r m) : LiR (G_cuts_0 r) (X12_cuts_0 10 m) m := by
  unfold G_cuts_0 X12_cuts_0
  exact li_X12_cuts_2 (fun hR => li_X12_cuts_70 (fun hR => li_X12_cuts_127 hR) fuel9 hR) fuel9 hR
theorem li_X12_cuts {r : Rst} {m : Mem} (hR : Rp r m) : LiR (G_cuts r) (X12_cuts 10 m) m := li_X12_cuts_0 hR
theorem li_X12_untaken_9 : ∀ (n : Nat) {l1 l2 l3 : Int} {r : Rst} {m : Mem}, Rp r m → LiR (G_untaken_9 n l1 l2 l3 r) (X12_untaken_9 n 10 l1 l2 l3 m) m := by
  intro n
  induction n with
  | zero =>
    intro l1 l2 l3 r m hR
    exact Li_none
  | succ n ih =>
    intro l1 l2 l3 r m hR
    rw [G_untaken_9, X12_untaken_9]
    refine Li_ite Iff.rfl ?_ ?_
    · exact Li_ret rfl hR
    · refine Li_chkX ((by decide)) ?_
      refine Li_chk (fun ⟨c1, c2⟩ => ⟨(by simp only [pp_65 hR]; decide), c1, c2⟩) (fun _ => ?_)
      refine Li_ite (by simp only [aa_65 hR, pp_65 hR]) ?_ ?_
      · refine Li_chk (fun ⟨c4, c5⟩ => ⟨(by simp only [pp_67 hR]; decide), c4, c5⟩) (fun _ => ?_)
        refine Li_ite (by simp only [aa_67 hR, pp_67 hR]) ?_ ?_
        · refine Li_chk (fun c7 => c7) (fun _ => ?_)
          exact ih hR
        · refine Li_chk (fun c6 => c6) (fun _ => ?_)
          exact ih hR
      · refine Li_chk (fun c3 => c3) (fun _ => ?_)
        exact ih hR
theorem li_X12_untaken_0 {l1 : Int} {r : Rst} {m : Mem} (hR : Rp r m) : LiR (G_untaken_0 l1 r) (X12_untaken_0 10 l1 m) m := by
  unfold G_untaken_0 X12_untaken_0
  refine Li_chkX ((by decide)) ?_
  refine Li_chk (fun c1 => (by simp only [ss_68 hR]; exact c1)) (fun _ => ?_)
  simp only [ss_68 hR]
  exact li_X12_untaken_9 fuel9 hR
theorem li_X12_untaken {a1 : Int} {r : Rst} {m : Mem} (hR : Rp r m) : LiR (G_untaken a1 r) (X12_untaken 10 a1 m) m := li_X12_untaken_0 hR
theorem li_X12_gets_0 {l1 l2 : Int} {r : Rst} {m : Mem} (hR : Rp r m) : LiR (G_gets_0 l1 l2 r) (X12_gets_0 10 l1 l2 m) m := by
  unfold G_gets_0 X12_gets_0
  refine Li_chkX ((by decide)) ?_
  refine Li_chk (fun ⟨c1, c2⟩ => ⟨(by simp only [pp_60 hR]; decide), c1, c2⟩) (fun _ => ?_)
  refine Li_sta hR (j := 60) rfl (by decide) (pp_60 hR) rfl rfl (fun r3 m4 hR5 => ?_)
  refine Li_chk (fun ⟨c6, c7⟩ => ⟨(by simp only [pp_62 hR5]; decide), c6, c7⟩) (fun _ => ?_)
  refine Li_sta hR5 (j := 62) rfl (by decide) (pp_62 hR5) rfl rfl (fun r8 m9 hR10 => ?_)
  refine Li_chk (fun ⟨c11, c12⟩ => ⟨(by simp only [pp_63 hR10]; decide), c11, c12⟩) (fun _ => ?_)
  refine Li_sta hR10 (j := 63) rfl (by decide) (pp_63 hR10) rfl rfl (fun r13 m14 hR15 => ?_)
  exact Li_ret rfl hR15
theorem li_X12_gets {a1 a2 : Int} {r : Rst} {m : Mem} (hR : Rp r m) : LiR (G_gets a1 a2 r) (X12_gets 10 a1 a2 m) m := li_X12_gets_0 hR
theorem li_X12_setsTimer_0 {l1 l2 : Int} {r : Rst} {m : Mem} (hR : Rp r m) : LiR (G_setsTimer_0 l1 l2 r) (X12_setsTimer_0 10 l1 l2 m) m := by
  unfold G_setsTimer_0 X12_setsTimer_0
  refine Li_chkX ((by decide)) ?_
  refine Li_chk (fun ⟨c1, c2⟩ => ⟨(by simp only [pp_59 hR]; decide), c1, c2⟩) (fun _ => ?_)
  refine Li_sta hR (j := 59) rfl (by decide) (pp_59 hR) rfl (by simp only [ss_52 hR]) (fun r3 m4 hR5 => ?_)
  refine Li_chk (fun c6 => (by simp only [ss_52 hR5]; exact c6)) (fun _ => ?_)
  refine Li_sts hR5 (j := 52) rfl (by decide) rfl (by simp only [ss_52 hR5]) (fun r7 m8 hR9 => ?_)
  refine Li_cal (li_X12_decides hR9) (fun v11 r10 m12 hR13 => ?_)
  exact Li_ret rfl hR13
theorem li_X12_setsTimer {a1 a2 : Int} {r : Rst} {m : Mem} (hR : Rp r m) : LiR (G_setsTimer a1 a2 r) (X12_setsTimer 10 a1 a2 m) m := li_X12_setsTimer_0 hR
theorem li_X12_waitsFor_0 {l1 : Int} {r : Rst} {m : Mem} (hR : Rp r m) : LiR (G_waitsFor_0 l1 r) (X12_waitsFor_0 10 l1 m) m := by
  unfold G_waitsFor_0 X12_waitsFor_0
  refine Li_chkX ((by decide)) ?_
  refine Li_cal (li_X12_stepAt hR) (fun v2 r1 m3 hR4 => ?_)
  refine Li_chk (fun c5 => (by simp only [ss_55 hR4]; exact c5)) (fun _ => ?_)
  refine Li_sts hR4 (j := 55) rfl (by decide) rfl (by simp only [ss_55 hR4]) (fun r6 m7 hR8 => ?_)
  refine Li_chk (fun ⟨c9, c10⟩ => ⟨(by simp only [pp_2 hR8]; decide), c9, c10⟩) (fun _ => ?_)
  refine Li_chk (fun ⟨c11, c12⟩ => ⟨(by simp only [pp_56 hR8]; decide), (by simp only [ss_55 hR]; exact c11), (by simp only [ss_55 hR]; exact c12)⟩) (fun _ => ?_)
  refine Li_sta hR8 (j := 56) rfl (by decide) (pp_56 hR8) (by simp only [ss_55 hR]) (by simp only [aa_2 hR8, pp_2 hR8]) (fun r13 m14 hR15 => ?_)
  refine Li_chk (fun ⟨c16, c17⟩ => ⟨(by simp only [pp_59 hR15]; decide), (by simp only [ss_55 hR]; exact c16), (by simp only [ss_55 hR]; exact c17)⟩) (fun _ => ?_)
  refine Li_sta hR15 (j := 59) rfl (by decide) (pp_59 hR15) (by simp only [ss_55 hR]) rfl (fun r18 m19 hR20 => ?_)
  refine Li_chk (fun ⟨c21, c22⟩ => ⟨(by simp only [pp_58 hR20]; decide), (by simp only [ss_55 hR]; exact c21), (by simp only [ss_55 hR]; exact c22)⟩) (fun _ => ?_)
  refine Li_sta hR20 (j := 58) rfl (by decide) (pp_58 hR20) (by simp only [ss_55 hR]) rfl (fun r23 m24 hR25 => ?_)
  refine Li_chk (fun ⟨c26, c27⟩ => ⟨(by simp only [pp_3 hR25]; decide), c26, c27⟩) (fun _ => ?_)
  refine Li_chk (fun ⟨c28, c29⟩ => ⟨(by simp only [pp_57 hR25]; decide), (by simp only [ss_55 hR]; exact c28), (by simp only [ss_55 hR]; exact c29)⟩) (fun _ => ?_)
  refine Li_sta hR25 (j := 57) rfl (by decide) (pp_57 hR25) (by simp only [ss_55 hR]) (by simp only [aa_3 hR25, pp_3 hR25]) (fun r30 m31 hR32 => ?_)
  refine Li_chk (fun ⟨c33, c34⟩ => ⟨(by simp only [pp_60 hR32]; decide), (by simp only [ss_55 hR]; exact c33), (by simp only [ss_55 hR]; exact c34)⟩) (fun _ => ?_)
  refine Li_sta hR32 (j := 60) rfl (by decide) (pp_60 hR32) (by simp only [ss_55 hR]) rfl (fun r35 m36 hR37 => ?_)
  refine Li_chk (fun ⟨c38, c39⟩ => ⟨(by simp only [pp_61 hR37]; decide), (by simp only [ss_55 hR]; exact c38), (by simp only [ss_55 hR]; exact c39)⟩) (fun _ => ?_)
  refine Li_sta hR37 (j := 61) rfl (by decide) (pp_61 hR37) (by simp only [ss_55 hR]) rfl (fun r40 m41 hR42 => ?_)
  refine Li_chk (fun ⟨c43, c44⟩ => ⟨(by simp only [pp_63 hR42]; decide), (by simp only [ss_55 hR]; exact c43), (by simp only [ss_55 hR]; exact c44)⟩) (fun _ => ?_)
  refine Li_sta hR42 (j := 63) rfl (by decide) (pp_63 hR42) (by simp only [ss_55 hR]) rfl (fun r45 m46 hR47 => ?_)
  refine Li_chk (fun ⟨c48, c49⟩ => ⟨(by simp only [pp_2 hR47]; decide), c48, c49⟩) (fun _ => ?_)
  refine Li_ite (by simp only [aa_2 hR47, pp_2 hR47]) ?_ ?_
  · refine Li_chk (fun ⟨c50, c51⟩ => ⟨(by simp only [pp_58 hR47]; decide), (by simp only [ss_55 hR]; exact c50), (by simp only [ss_55 hR]; exact c51)⟩) (fun _ => ?_)
    refine Li_sta hR47 (j := 58) rfl (by decide) (pp_58 hR47) (by simp only [ss_55 hR]) (by simp only [ss_51 hR47]) (fun r52 m53 hR54 => ?_)
    refine Li_chk (fun c55 => (by simp only [ss_51 hR54]; exact c55)) (fun _ => ?_)
    refine Li_sts hR54 (j := 51) rfl (by decide) rfl (by simp only [ss_51 hR54]) (fun r56 m57 hR58 => ?_)
    refine Li_chk (fun ⟨c59, c60⟩ => ⟨(by simp only [pp_3 hR58]; decide), c59, c60⟩) (fun _ => ?_)
    refine Li_chk (fun ⟨c61, c62⟩ => ⟨(by simp only [pp_4 hR58]; decide), c61, c62⟩) (fun _ => ?_)
    refine Li_cal (by simp only [aa_3 hR58, aa_4 hR58, pp_3 hR58, pp_4 hR58]; exact li_X12_decides hR58) (fun v64 r63 m65 hR66 => ?_)
    exact Li_ret rfl hR66
  refine Li_ite (by simp only [aa_2 hR47, pp_2 hR47]) ?_ ?_
  · refine Li_chk (fun ⟨c67, c68⟩ => ⟨(by simp only [pp_3 hR47]; decide), c67, c68⟩) (fun _ => ?_)
    refine Li_cal (by simp only [aa_3 hR47, pp_3 hR47, ss_55 hR]; exact li_X12_setsTimer hR47) (fun v70 r69 m71 hR72 => ?_)
    exact Li_ret rfl hR72
  refine Li_ite (by simp only [aa_2 hR47, pp_2 hR47]) ?_ ?_
  · refine Li_chk (fun ⟨c73, c74⟩ => ⟨(by simp only [pp_3 hR47]; decide), c73, c74⟩) (fun _ => ?_)
    refine Li_cal (by simp only [aa_3 hR47, pp_3 hR47]; exact li_X12_untaken hR47) (fun v76 r75 m77 hR78 => ?_)
    refine Li_ite Iff.rfl ?_ ?_
    · refine Li_chk (fun ⟨c79, c80⟩ => ⟨(by simp only [pp_4 hR78]; decide), c79, c80⟩) (fun _ => ?_)
      refine Li_ite (by simp only [aa_4 hR78, pp_4 hR78]) ?_ ?_
      · exact Li_ret rfl hR78
      · refine Li_chk (fun ⟨c81, c82⟩ => ⟨c81, c82⟩) (fun _ => ?_)
        refine Li_cal (by simp only [aa_4 hR78, pp_4 hR78, ss_55 hR]; exact li_X12_setsTimer hR78) (fun v84 r83 m85 hR86 => ?_)
        exact Li_ret rfl hR86
    · refine Li_chk (fun ⟨c87, c88⟩ => ⟨(by simp only [pp_67 hR78]; decide), c87, c88⟩) (fun _ => ?_)
      refine Li_sta hR78 (j := 67) rfl (by decide) (pp_67 hR78) rfl rfl (fun r89 m90 hR91 => ?_)
      refine Li_chk (fun ⟨c92, c93⟩ => ⟨(by simp only [pp_66 hR91]; decide), c92, c93⟩) (fun _ => ?_)
      refine Li_cal (by simp only [aa_66 hR91, pp_66 hR91, ss_55 hR]; exact li_X12_gets hR91) (fun v95 r94 m96 hR97 => ?_)
      exact Li_ret rfl hR97
  refine Li_ite (by simp only [aa_2 hR47, pp_2 hR47]) ?_ ?_
  · refine Li_chk (fun ⟨c98, c99⟩ => ⟨(by simp only [pp_58 hR47]; decide), (by simp only [ss_55 hR]; exact c98), (by simp only [ss_55 hR]; exact c99)⟩) (fun _ => ?_)
    refine Li_sta hR47 (j := 58) rfl (by decide) (pp_58 hR47) (by simp only [ss_55 hR]) (by simp only [ss_53 hR47]) (fun r100 m101 hR102 => ?_)
    refine Li_chk (fun c103 => (by simp only [ss_53 hR102]; exact c103)) (fun _ => ?_)
    refine Li_sts hR102 (j := 53) rfl (by decide) rfl (by simp only [ss_53 hR102]) (fun r104 m105 hR106 => ?_)
    refine Li_chk (fun ⟨c107, c108⟩ => ⟨(by simp only [pp_3 hR106]; decide), c107, c108⟩) (fun _ => ?_)
    refine Li_chk (fun ⟨c109, c110⟩ => ⟨(by simp only [pp_4 hR106]; decide), c109, c110⟩) (fun _ => ?_)
    refine Li_cal (by simp only [aa_3 hR106, aa_4 hR106, pp_3 hR106, pp_4 hR106]; exact li_X12_decides hR106) (fun v112 r111 m113 hR114 => ?_)
    exact Li_ret rfl hR114
  refine Li_chk (fun ⟨c115, c116⟩ => ⟨(by simp only [pp_3 hR47]; decide), c115, c116⟩) (fun _ => ?_)
  refine Li_cal (by simp only [aa_3 hR47, pp_3 hR47]; exact li_X12_untaken hR47) (fun v118 r117 m119 hR120 => ?_)
  refine Li_ite Iff.rfl ?_ ?_
  · refine Li_chk (fun ⟨c121, c122⟩ => ⟨(by simp only [pp_4 hR120]; decide), c121, c122⟩) (fun _ => ?_)
    refine Li_ite (by simp only [aa_4 hR120, pp_4 hR120]) ?_ ?_
    · exact Li_ret rfl hR120
    · refine Li_chk (fun ⟨c123, c124⟩ => ⟨c123, c124⟩) (fun _ => ?_)
      refine Li_cal (by simp only [aa_4 hR120, pp_4 hR120, ss_55 hR]; exact li_X12_setsTimer hR120) (fun v126 r125 m127 hR128 => ?_)
      exact Li_ret rfl hR128
  · refine Li_chk (fun ⟨c129, c130⟩ => ⟨(by simp only [pp_67 hR120]; decide), c129, c130⟩) (fun _ => ?_)
    refine Li_sta hR120 (j := 67) rfl (by decide) (pp_67 hR120) rfl rfl (fun r131 m132 hR133 => ?_)
    refine Li_chk (fun ⟨c134, c135⟩ => ⟨(by simp only [pp_66 hR133]; decide), c134, c135⟩) (fun _ => ?_)
    refine Li_cal (by simp only [aa_66 hR133, pp_66 hR133, ss_55 hR]; exact li_X12_gets hR133) (fun v137 r136 m138 hR139 => ?_)
    exact Li_ret rfl hR139
theorem li_X12_waitsFor {a1 : Int} {r : Rst} {m : Mem} (hR : Rp r m) : LiR (G_waitsFor a1 r) (X12_waitsFor 10 a1 m) m := li_X12_waitsFor_0 hR
theorem li_X12_areDone_4 : ∀ (n : Nat) {l1 l2 : Int} {r : Rst} {m : Mem}, Rp r m → LiR (G_areDone_4 n l1 l2 r) (X12_areDone_4 n 10 l1 l2 m) m := by
  intro n
  induction n with
  | zero =>
    intro l1 l2 r m hR
    exact Li_none
  | succ n ih =>
    intro l1 l2 r m hR
    rw [G_areDone_4, X12_areDone_4]
    refine Li_chkX ((by decide)) ?_
    refine Li_ite (by simp only [ss_55 hR]) ?_ ?_
    · exact Li_ret rfl hR
    · refine Li_ite Iff.rfl ?_ ?_
      · refine Li_chk (fun c1 => c1) (fun _ => ?_)
        exact ih hR
      · refine Li_chk (fun ⟨c2, c3⟩ => ⟨(by simp only [pp_60 hR]; decide), c2, c3⟩) (fun _ => ?_)
        refine Li_ite (by simp only [aa_60 hR, pp_60 hR]) ?_ ?_
        · refine Li_chk (fun c4 => c4) (fun _ => ?_)
          exact ih hR
        · refine Li_chk (fun c5 => c5) (fun _ => ?_)
          exact ih hR
theorem li_X12_areDone_0 {r : Rst} {m : Mem} (hR : Rp r m) : LiR (G_areDone_0 r) (X12_areDone_0 10 m) m := by
  unfold G_areDone_0 X12_areDone_0
  exact li_X12_areDone_4 fuel9 hR
theorem li_X12_areDone {r : Rst} {m : Mem} (hR : Rp r m) : LiR (G_areDone r) (X12_areDone 10 m) m := Li_bool (li_X12_areDone_0 hR)
theorem li_X12_finishes_63 {l1 : Int} {r : Rst} {m : Mem} (hR : Rp r m) : LiR (G_finishes_63 l1 r) (X12_finishes_63 10 l1 m) m := by
  unfold G_finishes_63 X12_finishes_63
  refine Li_chkX ((by decide)) ?_
  refine Li_sts hR (j := 55) rfl (by decide) rfl rfl (fun r1 m2 hR3 => ?_)
  refine Li_sts hR3 (j := 40) rfl (by decide) rfl (by simp only [ss_64 hR3]) (fun r4 m5 hR6 => ?_)
  refine Li_ite Iff.rfl ?_ ?_
  · exact Li_ret rfl hR6
  · refine Li_cal (li_X12_fails hR6) (fun v8 r7 m9 hR10 => ?_)
    exact Li_ret rfl hR10
theorem li_X12_finishes_35 {k4 : Int → Int → Rst → Option G2} {k4' : Int → Int → Int → Mem → Option R2} (hk4 : ∀ {l1 l2 : Int} {r : Rst} {m : Mem}, Rp r m → LiR (k4 l1 l2 r) (k4' 10 l1 l2 m) m) {l1 l2 s0 : Int} {r : Rst} {m : Mem} (hR : Rp r m) : LiR (G_finishes_35 k4 l1 l2 s0 r) (X12_finishes_35 k4' 10 l1 l2 s0 10 m) m := by
  unfold G_finishes_35 X12_finishes_35
  refine Li_chkX ((by decide)) ?_
  refine Li_sts hR (j := 41) rfl (by decide) rfl rfl (fun r1 m2 hR3 => ?_)
  refine Li_ite Iff.rfl ?_ ?_
  · refine Li_chkX ((by decide)) ?_
    refine Li_chk (fun ⟨c5, c6⟩ => ⟨(by simp only [pp_61 hR3]; decide), c5, c6⟩) (fun _ => ?_)
    refine Li_ite (by simp only [aa_61 hR3, pp_61 hR3]) ?_ ?_
    · refine Li_chk (fun c7 => c7) (fun _ => ?_)
      exact hk4 hR3
    · refine Li_chk (fun c8 => c8) (fun _ => ?_)
      exact hk4 hR3
  · refine Li_chk (fun c4 => c4) (fun _ => ?_)
    exact hk4 hR3
theorem li_X12_finishes_4 {k63 : Int → Rst → Option G2} {k63' : Int → Int → Mem → Option R2} (hk63 : ∀ {l1 : Int} {r : Rst} {m : Mem}, Rp r m → LiR (k63 l1 r) (k63' 10 l1 m) m) : ∀ (n : Nat) {l1 l2 : Int} {r : Rst} {m : Mem}, Rp r m → LiR (G_finishes_4 k63 n l1 l2 r) (X12_finishes_4 k63' n 10 l1 l2 m) m := by
  intro n
  induction n with
  | zero =>
    intro l1 l2 r m hR
    exact Li_none
  | succ n ih =>
    intro l1 l2 r m hR
    rw [G_finishes_4, X12_finishes_4]
    refine Li_chkX ((by decide)) ?_
    refine Li_ite (by simp only [ss_55 hR]) ?_ ?_
    · exact hk63 hR
    · refine Li_chk (fun ⟨c1, c2⟩ => ⟨(by simp only [pp_63 hR]; decide), c1, c2⟩) (fun _ => ?_)
      refine Li_ite (by simp only [aa_63 hR, pp_63 hR]) ?_ ?_
      · simp only [ss_41 hR]
        exact li_X12_finishes_35 ih hR
      · refine Li_chk (fun ⟨c3, c4⟩ => ⟨(by simp only [pp_62 hR]; decide), c3, c4⟩) (fun _ => ?_)
        simp only [aa_62 hR, pp_62 hR]
        exact li_X12_finishes_35 ih hR
theorem li_X12_finishes_0 {r : Rst} {m : Mem} (hR : Rp r m) : LiR (G_finishes_0 r) (X12_finishes_0 10 m) m := by
  unfold G_finishes_0 X12_finishes_0
  exact li_X12_finishes_4 (fun hR => li_X12_finishes_63 hR) fuel9 hR
theorem li_X12_finishes {r : Rst} {m : Mem} (hR : Rp r m) : LiR (G_finishes r) (X12_finishes 10 m) m := li_X12_finishes_0 hR
theorem li_X12_waitsAt_62 {l1 l2 : Int} {r : Rst} {m : Mem} (hR : Rp r m) : LiR (G_waitsAt_62 l1 l2 r) (X12_waitsAt_62 10 l1 l2 m) m := by
  unfold G_waitsAt_62 X12_waitsAt_62
  refine Li_chk (fun c1 => c1) (fun _ => ?_)
  refine Li_chk (fun c2 => c2) (fun _ => ?_)
  refine Li_chkX ((by decide)) ?_
  refine Li_sts hR (j := 64) rfl (by decide) rfl rfl (fun r3 m4 hR5 => ?_)
  refine Li_cal (li_X12_areDone hR5) (fun v7 r6 m8 hR9 => ?_)
  refine Li_ite Iff.rfl ?_ ?_
  · exact Li_ret rfl hR9
  · refine Li_cal (li_X12_finishes hR9) (fun v11 r10 m12 hR13 => ?_)
    exact Li_ret rfl hR13
theorem li_X12_waitsAt_44 {k62 : Int → Int → Rst → Option G2} {k62' : Int → Int → Int → Mem → Option R2} (hk62 : ∀ {l1 l2 : Int} {r : Rst} {m : Mem}, Rp r m → LiR (k62 l1 l2 r) (k62' 10 l1 l2 m) m) : ∀ (n : Nat) {l1 l2 l3 : Int} {r : Rst} {m : Mem}, Rp r m → LiR (G_waitsAt_44 k62 n l1 l2 l3 r) (X12_waitsAt_44 k62' n 10 l1 l2 l3 m) m := by
  intro n
  induction n with
  | zero =>
    intro l1 l2 l3 r m hR
    exact Li_none
  | succ n ih =>
    intro l1 l2 l3 r m hR
    rw [G_waitsAt_44, X12_waitsAt_44]
    refine Li_ite Iff.rfl ?_ ?_
    · exact hk62 hR
    · refine Li_chk (fun c1 => c1) (fun _ => ?_)
      refine Li_chkX ((by decide)) ?_
      refine Li_cal (li_X12_waitsFor hR) (fun v3 r2 m4 hR5 => ?_)
      refine Li_chk (fun c6 => c6) (fun _ => ?_)
      exact ih hR5
theorem li_X12_waitsAt_28 {l1 s0 : Int} {r : Rst} {m : Mem} (hR : Rp r m) : LiR (G_waitsAt_28 l1 s0 r) (X12_waitsAt_28 10 l1 s0 m) m := by
  unfold G_waitsAt_28 X12_waitsAt_28
  refine Li_chkX ((by decide)) ?_
  refine Li_sts hR (j := 55) rfl (by decide) rfl rfl (fun r1 m2 hR3 => ?_)
  refine Li_ite Iff.rfl ?_ ?_
  · exact li_X12_waitsAt_44 (fun hR => li_X12_waitsAt_62 hR) fuel9 hR3
  · exact li_X12_waitsAt_44 (fun hR => li_X12_waitsAt_62 hR) fuel9 hR3
theorem li_X12_waitsAt_0 {l1 : Int} {r : Rst} {m : Mem} (hR : Rp r m) : LiR (G_waitsAt_0 l1 r) (X12_waitsAt_0 10 l1 m) m := by
  unfold G_waitsAt_0 X12_waitsAt_0
  refine Li_chkX ((by decide)) ?_
  refine Li_cal (li_X12_stepAt hR) (fun v2 r1 m3 hR4 => ?_)
  refine Li_chk (fun ⟨c5, c6⟩ => ⟨(by simp only [pp_2 hR]; decide), c5, c6⟩) (fun _ => ?_)
  refine Li_ite (by simp only [aa_2 hR4, pp_2 hR]) ?_ ?_
  · refine Li_cal (li_X12_stepAt hR4) (fun v8 r7 m9 hR10 => ?_)
    refine Li_chk (fun ⟨c11, c12⟩ => ⟨(by simp only [pp_3 hR4]; decide), c11, c12⟩) (fun _ => ?_)
    simp only [aa_3 hR10, pp_3 hR4]
    exact li_X12_waitsAt_28 hR10
  · exact li_X12_waitsAt_28 hR4
theorem li_X12_waitsAt {a1 : Int} {r : Rst} {m : Mem} (hR : Rp r m) : LiR (G_waitsAt a1 r) (X12_waitsAt 10 a1 m) m := li_X12_waitsAt_0 hR
theorem li_X12_isMarked_65 {l1 s0 : Int} {r : Rst} {m : Mem} (hR : Rp r m) : LiR (G_isMarked_65 l1 s0 r) (X12_isMarked_65 10 l1 s0 m) m := by
  unfold G_isMarked_65 X12_isMarked_65
  refine Li_ite Iff.rfl ?_ ?_
  · exact Li_ret rfl hR
  · refine Li_chkX ((by decide)) ?_
    refine Li_sts hR (j := 48) rfl (by decide) rfl (by simp only [ss_48 hR]) (fun r1 m2 hR3 => ?_)
    refine Li_cal (li_X12_decides hR3) (fun v5 r4 m6 hR7 => ?_)
    exact Li_ret rfl hR7
theorem li_X12_isMarked_0 {l1 : Int} {r : Rst} {m : Mem} (hR : Rp r m) : LiR (G_isMarked_0 l1 r) (X12_isMarked_0 10 l1 m) m := by
  unfold G_isMarked_0 X12_isMarked_0
  refine Li_chkX ((by decide)) ?_
  refine Li_ite (by simp only [ss_48 hR]) ?_ ?_
  · exact Li_ret rfl hR
  · refine Li_chk (fun c1 => (by simp only [ss_76 hR, ss_78 hR]; exact c1)) (fun _ => ?_)
    refine Li_ite (by simp only [ss_80 hR]) ?_ ?_
    · refine Li_ite (by simp only [ss_76 hR, ss_78 hR, ss_79 hR]) ?_ ?_
      · exact li_X12_isMarked_65 hR
      · refine Li_chk (fun ⟨c2, c3⟩ => ⟨(by simp only [pp_19 hR]; decide), (by simp only [ss_76 hR, ss_78 hR]; exact c2), (by simp only [ss_76 hR, ss_78 hR]; exact c3)⟩) (fun _ => ?_)
        refine Li_ite (by simp only [aa_19 hR, pp_19 hR, ss_76 hR, ss_78 hR]) ?_ ?_
        · refine Li_chk (fun ⟨c4, c5⟩ => ⟨(by simp only [pp_20 hR]; decide), (by simp only [ss_76 hR, ss_78 hR]; exact c4), (by simp only [ss_76 hR, ss_78 hR]; exact c5)⟩) (fun _ => ?_)
          refine Li_ite (by simp only [aa_20 hR, pp_20 hR, ss_76 hR, ss_78 hR]) ?_ ?_
          · exact li_X12_isMarked_65 hR
          · exact li_X12_isMarked_65 hR
        · exact li_X12_isMarked_65 hR
    · exact li_X12_isMarked_65 hR
theorem li_X12_isMarked {a1 : Int} {r : Rst} {m : Mem} (hR : Rp r m) : LiR (G_isMarked a1 r) (X12_isMarked 10 a1 m) m := Li_bool (li_X12_isMarked_0 hR)
theorem li_X12_held_0 {l0 : Int} {r : Rst} {m : Mem} (hR : Rp r m) : LiR (G_held_0 l0 r) (X12_held_0 l0 m) m := by
  unfold G_held_0 X12_held_0
  refine Li_ite Iff.rfl ?_ ?_
  · refine Li_ite Iff.rfl ?_ ?_
    · exact Li_ret rfl hR
    · exact Li_ret rfl hR
  · exact Li_ret rfl hR
theorem li_X12_held {a0 : Int} {r : Rst} {m : Mem} (hR : Rp r m) : LiR (G_held a0 r) (X12_held a0 m) m := li_X12_held_0 hR
theorem li_X12_againOrFails_0 {r : Rst} {m : Mem} (hR : Rp r m) : LiR (G_againOrFails_0 r) (X12_againOrFails_0 10 m) m := by
  unfold G_againOrFails_0 X12_againOrFails_0
  refine Li_chkX ((by decide)) ?_
  refine Li_ite (by simp only [ss_83 hR]) ?_ ?_
  · refine Li_cal (li_X12_fails hR) (fun v6 r5 m7 hR8 => ?_)
    exact Li_ret rfl hR8
  · refine Li_cal (by simp only [ss_41 hR]; exact li_X12_ends hR) (fun v2 r1 m3 hR4 => ?_)
    exact Li_ret rfl hR4
theorem li_X12_againOrFails {r : Rst} {m : Mem} (hR : Rp r m) : LiR (G_againOrFails r) (X12_againOrFails 10 m) m := li_X12_againOrFails_0 hR
theorem li_X12_passes_324 {s0 s1 s2 : Int} {r : Rst} {m : Mem} (hR : Rp r m) : LiR (G_passes_324 s0 s1 s2 r) (X12_passes_324 s0 s1 s2 10 m) m := by
  unfold G_passes_324 X12_passes_324
  refine Li_chkX ((by decide)) ?_
  refine Li_cal (li_X12_decides hR) (fun v2 r1 m3 hR4 => ?_)
  exact Li_ret rfl hR4
theorem li_X12_passes_0 {l1 : Int} {r : Rst} {m : Mem} (hR : Rp r m) : LiR (G_passes_0 l1 r) (X12_passes_0 10 l1 m) m := by
  unfold G_passes_0 X12_passes_0
  refine Li_chkX ((by decide)) ?_
  refine Li_cal (li_X12_stepAt hR) (fun v2 r1 m3 hR4 => ?_)
  refine Li_chk (fun c5 => c5) (fun _ => ?_)
  refine Li_sts hR4 (j := 40) rfl (by decide) rfl rfl (fun r6 m7 hR8 => ?_)
  refine Li_chk (fun ⟨c9, c10⟩ => ⟨(by simp only [pp_2 hR8]; decide), c9, c10⟩) (fun _ => ?_)
  refine Li_ite (by simp only [aa_2 hR8, pp_2 hR8]) ?_ ?_
  · refine Li_chk (fun ⟨c11, c12⟩ => ⟨(by simp only [pp_3 hR8]; decide), c11, c12⟩) (fun _ => ?_)
    refine Li_ite (by simp only [aa_3 hR8, pp_3 hR8, ss_41 hR8]) ?_ ?_
    · refine Li_chk (fun c13 => (by simp only [ss_40 hR8]; exact c13)) (fun _ => ?_)
      refine Li_sts hR8 (j := 40) rfl (by decide) rfl (by simp only [ss_40 hR8]) (fun r14 m15 hR16 => ?_)
      exact Li_ret rfl hR16
    · refine Li_chk (fun ⟨c17, c18⟩ => ⟨(by simp only [pp_4 hR8]; decide), c17, c18⟩) (fun _ => ?_)
      refine Li_chk (fun c19 => (by simp only [aa_4 hR8, pp_4 hR8, ss_40 hR8]; exact c19)) (fun _ => ?_)
      refine Li_sts hR8 (j := 40) rfl (by decide) rfl (by simp only [aa_4 hR8, pp_4 hR8, ss_40 hR8]) (fun r20 m21 hR22 => ?_)
      exact Li_ret rfl hR22
  refine Li_ite (by simp only [aa_2 hR8, pp_2 hR8]) ?_ ?_
  · refine Li_chk (fun ⟨c23, c24⟩ => ⟨(by simp only [pp_3 hR8]; decide), c23, c24⟩) (fun _ => ?_)
    refine Li_ite (by simp only [aa_3 hR8, pp_3 hR8, ss_41 hR8]) ?_ ?_
    · refine Li_sts hR8 (j := 40) rfl (by decide) rfl (by simp only [ss_40 hR8]) (fun r25 m26 hR27 => ?_)
      exact Li_ret rfl hR27
    · refine Li_chk (fun ⟨c28, c29⟩ => ⟨(by simp only [pp_4 hR8]; decide), c28, c29⟩) (fun _ => ?_)
      refine Li_chk (fun c30 => (by simp only [aa_4 hR8, pp_4 hR8]; exact c30)) (fun _ => ?_)
      refine Li_sts hR8 (j := 40) rfl (by decide) rfl (by simp only [aa_4 hR8, pp_4 hR8]) (fun r31 m32 hR33 => ?_)
      exact Li_ret rfl hR33
  refine Li_ite (by simp only [aa_2 hR8, pp_2 hR8]) ?_ ?_
  · refine Li_chk (fun ⟨c34, c35⟩ => ⟨(by simp only [pp_3 hR8]; decide), c34, c35⟩) (fun _ => ?_)
    refine Li_sts hR8 (j := 41) rfl (by decide) rfl (by simp only [aa_3 hR8, pp_3 hR8]) (fun r36 m37 hR38 => ?_)
    exact Li_ret rfl hR38
  refine Li_ite (by simp only [aa_2 hR8, pp_2 hR8]) ?_ ?_
  · refine Li_chk (fun ⟨c39, c40⟩ => ⟨(by simp only [pp_3 hR8]; decide), c39, c40⟩) (fun _ => ?_)
    refine Li_chk (fun c41 => (by simp only [aa_3 hR8, pp_3 hR8, ss_41 hR8]; exact c41)) (fun _ => ?_)
    refine Li_cal (by simp only [aa_3 hR8, pp_3 hR8, ss_41 hR8]; exact li_X12_held hR8) (fun v43 r42 m44 hR45 => ?_)
    refine Li_sts hR45 (j := 41) rfl (by decide) rfl rfl (fun r46 m47 hR48 => ?_)
    exact Li_ret rfl hR48
  refine Li_ite (by simp only [aa_2 hR8, pp_2 hR8]) ?_ ?_
  · refine Li_chk (fun ⟨c49, c50⟩ => ⟨(by simp only [pp_3 hR8]; decide), c49, c50⟩) (fun _ => ?_)
    refine Li_chk (fun ⟨c51, c52⟩ => ⟨(by simp only [pp_69 hR8]; decide), (by simp only [ss_71 hR8]; exact c51), (by simp only [ss_71 hR8]; exact c52)⟩) (fun _ => ?_)
    refine Li_sta hR8 (j := 69) rfl (by decide) (pp_69 hR8) (by simp only [ss_71 hR8]) (by simp only [aa_3 hR8, pp_3 hR8]) (fun r53 m54 hR55 => ?_)
    refine Li_chk (fun ⟨c56, c57⟩ => ⟨(by simp only [pp_4 hR55]; decide), c56, c57⟩) (fun _ => ?_)
    refine Li_chk (fun ⟨c58, c59⟩ => ⟨(by simp only [pp_70 hR55]; decide), (by simp only [ss_71 hR55]; exact c58), (by simp only [ss_71 hR55]; exact c59)⟩) (fun _ => ?_)
    refine Li_sta hR55 (j := 70) rfl (by decide) (pp_70 hR55) (by simp only [ss_71 hR55]) (by simp only [aa_4 hR55, pp_4 hR55]) (fun r60 m61 hR62 => ?_)
    refine Li_chk (fun c63 => (by simp only [ss_71 hR62]; exact c63)) (fun _ => ?_)
    refine Li_sts hR62 (j := 71) rfl (by decide) rfl (by simp only [ss_71 hR62]) (fun r64 m65 hR66 => ?_)
    exact Li_ret rfl hR66
  refine Li_ite (by simp only [aa_2 hR8, pp_2 hR8]) ?_ ?_
  · refine Li_chk (fun ⟨c67, c68⟩ => ⟨(by simp only [pp_3 hR8]; decide), c67, c68⟩) (fun _ => ?_)
    refine Li_cal (by simp only [aa_3 hR8, pp_3 hR8]; exact li_X12_isMarked hR8) (fun v70 r69 m71 hR72 => ?_)
    refine Li_ite Iff.rfl ?_ ?_
    · refine Li_chk (fun ⟨c73, c74⟩ => ⟨(by simp only [pp_4 hR72]; decide), c73, c74⟩) (fun _ => ?_)
      refine Li_chk (fun c75 => (by simp only [aa_4 hR72, pp_4 hR72, ss_40 hR8]; exact c75)) (fun _ => ?_)
      refine Li_sts hR72 (j := 40) rfl (by decide) rfl (by simp only [aa_4 hR72, pp_4 hR72, ss_40 hR8]) (fun r76 m77 hR78 => ?_)
      exact Li_ret rfl hR78
    · refine Li_chk (fun c79 => (by simp only [ss_40 hR8]; exact c79)) (fun _ => ?_)
      refine Li_sts hR72 (j := 40) rfl (by decide) rfl (by simp only [ss_40 hR8]) (fun r80 m81 hR82 => ?_)
      exact Li_ret rfl hR82
  refine Li_ite (by simp only [aa_2 hR8, pp_2 hR8]) ?_ ?_
  · refine Li_chk (fun ⟨c83, c84⟩ => ⟨(by simp only [pp_3 hR8]; decide), c83, c84⟩) (fun _ => ?_)
    refine Li_ite (by simp only [aa_3 hR8, pp_3 hR8, ss_45 hR8]) ?_ ?_
    · refine Li_sts hR8 (j := 45) rfl (by decide) rfl (by simp only [ss_45 hR8]) (fun r85 m86 hR87 => ?_)
      exact Li_ret rfl hR87
    · refine Li_chk (fun ⟨c88, c89⟩ => ⟨c88, c89⟩) (fun _ => ?_)
      refine Li_sts hR8 (j := 45) rfl (by decide) rfl (by simp only [aa_3 hR8, pp_3 hR8]) (fun r90 m91 hR92 => ?_)
      exact Li_ret rfl hR92
  refine Li_ite (by simp only [aa_2 hR8, pp_2 hR8]) ?_ ?_
  · refine Li_chk (fun ⟨c93, c94⟩ => ⟨(by simp only [pp_3 hR8]; decide), c93, c94⟩) (fun _ => ?_)
    refine Li_chk (fun ⟨c95, c96⟩ => ⟨(by simp only [pp_4 hR8]; decide), c95, c96⟩) (fun _ => ?_)
    refine Li_ite (by simp only [aa_4 hR8, pp_4 hR8]) ?_ ?_
    · simp only [aa_3 hR8, pp_3 hR8, ss_41 hR8]
      exact li_X12_passes_324 hR8
    · refine Li_chk (fun ⟨c97, c98⟩ => ⟨c97, c98⟩) (fun _ => ?_)
      simp only [aa_3 hR8, aa_4 hR8, pp_3 hR8, pp_4 hR8]
      exact li_X12_passes_324 hR8
  refine Li_ite (by simp only [aa_2 hR8, pp_2 hR8]) ?_ ?_
  · refine Li_chk (fun ⟨c99, c100⟩ => ⟨(by simp only [pp_3 hR8]; decide), c99, c100⟩) (fun _ => ?_)
    refine Li_cal (by simp only [aa_3 hR8, pp_3 hR8]; exact li_X12_fails hR8) (fun v102 r101 m103 hR104 => ?_)
    exact Li_ret rfl hR104
  refine Li_ite (by simp only [aa_2 hR8, pp_2 hR8]) ?_ ?_
  · refine Li_cal (li_X12_againOrFails hR8) (fun v106 r105 m107 hR108 => ?_)
    exact Li_ret rfl hR108
  refine Li_ite (by simp only [aa_2 hR8, pp_2 hR8]) ?_ ?_
  · refine Li_cal (by simp only [ss_41 hR8]; exact li_X12_ends hR8) (fun v110 r109 m111 hR112 => ?_)
    exact Li_ret rfl hR112
  refine Li_sts hR8 (j := 40) rfl (by decide) rfl rfl (fun r113 m114 hR115 => ?_)
  refine Li_cal (li_X12_waitsAt hR115) (fun v117 r116 m118 hR119 => ?_)
  exact Li_ret rfl hR119
theorem li_X12_passes {a1 : Int} {r : Rst} {m : Mem} (hR : Rp r m) : LiR (G_passes a1 r) (X12_passes 10 a1 m) m := li_X12_passes_0 hR
theorem li_X12_goesOn_126 {k0 : Rst → Option G2} {k0' : Int → Mem → Option R2} (hk0 : ∀ {r : Rst} {m : Mem}, Rp r m → LiR (k0 r) (k0' 10 m) m) {s0 s1 : Int} {r : Rst} {m : Mem} (hR : Rp r m) : LiR (G_goesOn_126 k0 s0 s1 r) (X12_goesOn_126 k0' 10 s0 s1 10 m) m := by
  unfold G_goesOn_126 X12_goesOn_126
  refine Li_chk (fun c1 => c1) (fun _ => ?_)
  refine Li_chkX ((by decide)) ?_
  refine Li_sts hR (j := 45) rfl (by decide) rfl rfl (fun r2 m3 hR4 => ?_)
  refine Li_chkX ((by decide)) ?_
  refine Li_cal (by simp only [ss_40 hR4]; exact li_X12_passes hR4) (fun v6 r5 m7 hR8 => ?_)
  exact hk0 hR8
theorem li_X12_goesOn_106 {k0 : Rst → Option G2} {k0' : Int → Mem → Option R2} (hk0 : ∀ {r : Rst} {m : Mem}, Rp r m → LiR (k0 r) (k0' 10 m) m) {s0 : Int} {r : Rst} {m : Mem} (hR : Rp r m) : LiR (G_goesOn_106 k0 s0 r) (X12_goesOn_106 k0' 10 s0 10 m) m := by
  unfold G_goesOn_106 X12_goesOn_106
  refine Li_chk (fun c1 => ⟨(by decide), c1⟩) (fun _ => ?_)
  refine Li_sts hR (j := 46) rfl (by decide) rfl rfl (fun r2 m3 hR4 => ?_)
  refine Li_chkX ((by decide)) ?_
  refine Li_ite (by simp only [ss_46 hR4]) ?_ ?_
  · simp only [ss_45 hR4]
    exact li_X12_goesOn_126 hk0 hR4
  · simp only [ss_45 hR4]
    exact li_X12_goesOn_126 hk0 hR4
theorem li_X12_goesOn_36 {k0 : Rst → Option G2} {k0' : Int → Mem → Option R2} (hk0 : ∀ {r : Rst} {m : Mem}, Rp r m → LiR (k0 r) (k0' 10 m) m) {r : Rst} {m : Mem} (hR : Rp r m) : LiR (G_goesOn_36 k0 r) (X12_goesOn_36 k0' 10 m) m := by
  unfold G_goesOn_36 X12_goesOn_36
  refine Li_chkX ((by decide)) ?_
  refine Li_chk (fun ⟨c1, c2⟩ => ⟨(by simp only [pp_5 hR]; decide), (by simp only [ss_77 hR]; exact c1), (by simp only [ss_77 hR]; exact c2)⟩) (fun _ => ?_)
  refine Li_ite (by simp only [aa_5 hR, pp_5 hR, ss_40 hR, ss_77 hR]) ?_ ?_
  · refine Li_cal (by simp only [ss_41 hR]; exact li_X12_ends hR) (fun v12 r11 m13 hR14 => ?_)
    exact hk0 hR14
  · refine Li_ite (by simp only [ss_44 hR]) ?_ ?_
    · refine Li_cal (li_X12_fails hR) (fun v8 r7 m9 hR10 => ?_)
      exact hk0 hR10
    · refine Li_chk (fun c3 => (by simp only [ss_44 hR]; exact c3)) (fun _ => ?_)
      refine Li_sts hR (j := 44) rfl (by decide) rfl (by simp only [ss_44 hR]) (fun r4 m5 hR6 => ?_)
      refine Li_ite (by simp only [ss_45 hR6]) ?_ ?_
      · exact li_X12_goesOn_106 hk0 hR6
      · exact li_X12_goesOn_106 hk0 hR6
theorem li_X12_goesOn_0 : ∀ (n : Nat) {r : Rst} {m : Mem}, Rp r m → LiR (G_goesOn_0 n r) (X12_goesOn_0 n 10 m) m := by
  intro n
  induction n with
  | zero =>
    intro r m hR
    exact Li_none
  | succ n ih =>
    intro r m hR
    rw [G_goesOn_0, X12_goesOn_0]
    refine Li_chkX ((by decide)) ?_
    refine Li_ite (by simp only [ss_42 hR]) ?_ ?_
    · refine Li_ite (by simp only [ss_55 hR]) ?_ ?_
      · refine Li_ite (by simp only [ss_47 hR]) ?_ ?_
        · exact li_X12_goesOn_36 ih hR
        · refine Li_ite (by simp only [ss_45 hR]) ?_ ?_
          · refine Li_cal (li_X12_fails hR) (fun v2 r1 m3 hR4 => ?_)
            exact ih hR4
          · exact li_X12_goesOn_36 ih hR
      · exact Li_ret rfl hR
    · exact Li_ret rfl hR
theorem li_X12_goesOn {r : Rst} {m : Mem} (hR : Rp r m) : LiR (G_goesOn r) (X12_goesOn 10 m) m := li_X12_goesOn_0 fuel9 hR
theorem li_X12_waiting_5 : ∀ (n : Nat) {l1 l2 l3 l4 : Int} {r : Rst} {m : Mem}, Rp r m → LiR (G_waiting_5 n l1 l2 l3 l4 r) (X12_waiting_5 n 10 l1 l2 l3 l4 m) m := by
  intro n
  induction n with
  | zero =>
    intro l1 l2 l3 l4 r m hR
    exact Li_none
  | succ n ih =>
    intro l1 l2 l3 l4 r m hR
    rw [G_waiting_5, X12_waiting_5]
    refine Li_chkX ((by decide)) ?_
    refine Li_ite (by simp only [ss_55 hR]) ?_ ?_
    · exact Li_ret rfl hR
    · refine Li_chk (fun ⟨c1, c2⟩ => ⟨(by simp only [pp_56 hR]; decide), c1, c2⟩) (fun _ => ?_)
      refine Li_ite (by simp only [aa_56 hR, pp_56 hR]) ?_ ?_
      · refine Li_chk (fun ⟨c4, c5⟩ => ⟨(by simp only [pp_58 hR]; decide), c4, c5⟩) (fun _ => ?_)
        refine Li_ite (by simp only [aa_58 hR, pp_58 hR]) ?_ ?_
        · refine Li_chk (fun ⟨c7, c8⟩ => ⟨(by simp only [pp_60 hR]; decide), c7, c8⟩) (fun _ => ?_)
          refine Li_ite (by simp only [aa_60 hR, pp_60 hR]) ?_ ?_
          · refine Li_chk (fun c10 => c10) (fun _ => ?_)
            exact ih hR
          · refine Li_chk (fun c9 => c9) (fun _ => ?_)
            exact ih hR
        · refine Li_chk (fun c6 => c6) (fun _ => ?_)
          exact ih hR
      · refine Li_chk (fun c3 => c3) (fun _ => ?_)
        exact ih hR
theorem li_X12_waiting_0 {l1 l2 : Int} {r : Rst} {m : Mem} (hR : Rp r m) : LiR (G_waiting_0 l1 l2 r) (X12_waiting_0 10 l1 l2 m) m := by
  unfold G_waiting_0 X12_waiting_0
  exact li_X12_waiting_5 fuel9 hR
theorem li_X12_waiting {a1 a2 : Int} {r : Rst} {m : Mem} (hR : Rp r m) : LiR (G_waiting a1 a2 r) (X12_waiting 10 a1 a2 m) m := li_X12_waiting_0 hR
theorem li_X12_waitingTimer_4 : ∀ (n : Nat) {l1 l2 l3 : Int} {r : Rst} {m : Mem}, Rp r m → LiR (G_waitingTimer_4 n l1 l2 l3 r) (X12_waitingTimer_4 n 10 l1 l2 l3 m) m := by
  intro n
  induction n with
  | zero =>
    intro l1 l2 l3 r m hR
    exact Li_none
  | succ n ih =>
    intro l1 l2 l3 r m hR
    rw [G_waitingTimer_4, X12_waitingTimer_4]
    refine Li_chkX ((by decide)) ?_
    refine Li_ite (by simp only [ss_55 hR]) ?_ ?_
    · exact Li_ret rfl hR
    · refine Li_chk (fun ⟨c1, c2⟩ => ⟨(by simp only [pp_59 hR]; decide), c1, c2⟩) (fun _ => ?_)
      refine Li_ite (by simp only [aa_59 hR, pp_59 hR]) ?_ ?_
      · refine Li_chk (fun ⟨c4, c5⟩ => ⟨(by simp only [pp_60 hR]; decide), c4, c5⟩) (fun _ => ?_)
        refine Li_ite (by simp only [aa_60 hR, pp_60 hR]) ?_ ?_
        · refine Li_chk (fun c7 => c7) (fun _ => ?_)
          exact ih hR
        · refine Li_chk (fun c6 => c6) (fun _ => ?_)
          exact ih hR
      · refine Li_chk (fun c3 => c3) (fun _ => ?_)
        exact ih hR
theorem li_X12_waitingTimer_0 {l1 : Int} {r : Rst} {m : Mem} (hR : Rp r m) : LiR (G_waitingTimer_0 l1 r) (X12_waitingTimer_0 10 l1 m) m := by
  unfold G_waitingTimer_0 X12_waitingTimer_0
  exact li_X12_waitingTimer_4 fuel9 hR
theorem li_X12_waitingTimer {a1 : Int} {r : Rst} {m : Mem} (hR : Rp r m) : LiR (G_waitingTimer a1 r) (X12_waitingTimer 10 a1 m) m := li_X12_waitingTimer_0 hR
theorem li_X12_waitingSignal_9 : ∀ (n : Nat) {l1 l2 l3 : Int} {r : Rst} {m : Mem}, Rp r m → LiR (G_waitingSignal_9 n l1 l2 l3 r) (X12_waitingSignal_9 n 10 l1 l2 l3 m) m := by
  intro n
  induction n with
  | zero =>
    intro l1 l2 l3 r m hR
    exact Li_none
  | succ n ih =>
    intro l1 l2 l3 r m hR
    rw [G_waitingSignal_9, X12_waitingSignal_9]
    refine Li_ite Iff.rfl ?_ ?_
    · exact Li_ret rfl hR
    · refine Li_chkX ((by decide)) ?_
      refine Li_chk (fun ⟨c1, c2⟩ => ⟨(by simp only [pp_56 hR]; decide), c1, c2⟩) (fun _ => ?_)
      refine Li_ite (by simp only [aa_56 hR, pp_56 hR]) ?_ ?_
      · refine Li_chk (fun ⟨c4, c5⟩ => ⟨(by simp only [pp_57 hR]; decide), c4, c5⟩) (fun _ => ?_)
        refine Li_ite (by simp only [aa_57 hR, pp_57 hR]) ?_ ?_
        · refine Li_chk (fun ⟨c7, c8⟩ => ⟨(by simp only [pp_60 hR]; decide), c7, c8⟩) (fun _ => ?_)
          refine Li_ite (by simp only [aa_60 hR, pp_60 hR]) ?_ ?_
          · refine Li_chk (fun c10 => c10) (fun _ => ?_)
            exact ih hR
          · refine Li_chk (fun c9 => c9) (fun _ => ?_)
            exact ih hR
        · refine Li_chk (fun c6 => c6) (fun _ => ?_)
          exact ih hR
      · refine Li_chk (fun c3 => c3) (fun _ => ?_)
        exact ih hR
theorem li_X12_waitingSignal_0 {l1 : Int} {r : Rst} {m : Mem} (hR : Rp r m) : LiR (G_waitingSignal_0 l1 r) (X12_waitingSignal_0 10 l1 m) m := by
  unfold G_waitingSignal_0 X12_waitingSignal_0
  refine Li_chkX ((by decide)) ?_
  refine Li_chk (fun c1 => (by simp only [ss_55 hR]; exact c1)) (fun _ => ?_)
  simp only [ss_55 hR]
  exact li_X12_waitingSignal_9 fuel9 hR
theorem li_X12_waitingSignal {a1 : Int} {r : Rst} {m : Mem} (hR : Rp r m) : LiR (G_waitingSignal a1 r) (X12_waitingSignal 10 a1 m) m := li_X12_waitingSignal_0 hR
theorem li_X12_takesSignal_97 {l2 l3 : Int} {r : Rst} {m : Mem} (hR : Rp r m) : LiR (G_takesSignal_97 l2 l3 r) (X12_takesSignal_97 10 l2 l3 m) m := by
  unfold G_takesSignal_97 X12_takesSignal_97
  refine Li_chkX ((by decide)) ?_
  refine Li_cal (li_X12_gets hR) (fun v2 r1 m3 hR4 => ?_)
  exact Li_ret rfl hR4
theorem li_X12_takesSignal_56 {l2 s0 : Int} {r : Rst} {m : Mem} (hR : Rp r m) : LiR (G_takesSignal_56 l2 s0 r) (X12_takesSignal_56 10 l2 s0 m) m := by
  unfold G_takesSignal_56 X12_takesSignal_56
  refine Li_ite Iff.rfl ?_ ?_
  · exact Li_ret rfl hR
  · refine Li_chkX ((by decide)) ?_
    refine Li_chk (fun c1 => (by simp only [ss_68 hR]; exact c1)) (fun _ => ?_)
    refine Li_chk (fun ⟨c2, c3⟩ => ⟨(by simp only [pp_67 hR]; decide), (by simp only [ss_68 hR]; exact c2), (by simp only [ss_68 hR]; exact c3)⟩) (fun _ => ?_)
    refine Li_sta hR (j := 67) rfl (by decide) (pp_67 hR) (by simp only [ss_68 hR]) rfl (fun r4 m5 hR6 => ?_)
    refine Li_chk (fun ⟨c7, c8⟩ => ⟨(by simp only [pp_59 hR6]; decide), c7, c8⟩) (fun _ => ?_)
    refine Li_ite (by simp only [aa_59 hR6, pp_59 hR6]) ?_ ?_
    · exact li_X12_takesSignal_97 hR6
    · refine Li_chk (fun ⟨c9, c10⟩ => ⟨c9, c10⟩) (fun _ => ?_)
      refine Li_cal (by simp only [aa_59 hR6, pp_59 hR6]; exact li_X12_decides hR6) (fun v12 r11 m13 hR14 => ?_)
      exact li_X12_takesSignal_97 hR14
theorem li_X12_takesSignal_0 {l1 l2 : Int} {r : Rst} {m : Mem} (hR : Rp r m) : LiR (G_takesSignal_0 l1 l2 r) (X12_takesSignal_0 10 l1 l2 m) m := by
  unfold G_takesSignal_0 X12_takesSignal_0
  refine Li_chkX ((by decide)) ?_
  refine Li_chk (fun ⟨c1, c2⟩ => ⟨(by simp only [pp_65 hR]; decide), (by simp only [ss_68 hR]; exact c1), (by simp only [ss_68 hR]; exact c2)⟩) (fun _ => ?_)
  refine Li_sta hR (j := 65) rfl (by decide) (pp_65 hR) (by simp only [ss_68 hR]) rfl (fun r3 m4 hR5 => ?_)
  refine Li_chk (fun ⟨c6, c7⟩ => ⟨(by simp only [pp_66 hR5]; decide), (by simp only [ss_68 hR5]; exact c6), (by simp only [ss_68 hR5]; exact c7)⟩) (fun _ => ?_)
  refine Li_sta hR5 (j := 66) rfl (by decide) (pp_66 hR5) (by simp only [ss_68 hR5]) rfl (fun r8 m9 hR10 => ?_)
  refine Li_chk (fun ⟨c11, c12⟩ => ⟨(by simp only [pp_67 hR10]; decide), (by simp only [ss_68 hR10]; exact c11), (by simp only [ss_68 hR10]; exact c12)⟩) (fun _ => ?_)
  refine Li_sta hR10 (j := 67) rfl (by decide) (pp_67 hR10) (by simp only [ss_68 hR10]) rfl (fun r13 m14 hR15 => ?_)
  refine Li_chk (fun c16 => (by simp only [ss_68 hR15]; exact c16)) (fun _ => ?_)
  refine Li_sts hR15 (j := 68) rfl (by decide) rfl (by simp only [ss_68 hR15]) (fun r17 m18 hR19 => ?_)
  refine Li_ite (by simp only [ss_42 hR19]) ?_ ?_
  · refine Li_cal (li_X12_waitingSignal hR19) (fun v21 r20 m22 hR23 => ?_)
    exact li_X12_takesSignal_56 hR23
  · exact li_X12_takesSignal_56 hR19
theorem li_X12_takesSignal {a1 a2 : Int} {r : Rst} {m : Mem} (hR : Rp r m) : LiR (G_takesSignal a1 a2 r) (X12_takesSignal 10 a1 a2 m) m := li_X12_takesSignal_0 hR
theorem li_X12_takesOver_28 {l1 l3 s0 : Int} {r : Rst} {m : Mem} (hR : Rp r m) : LiR (G_takesOver_28 l1 l3 s0 r) (X12_takesOver_28 10 l1 l3 s0 m) m := by
  unfold G_takesOver_28 X12_takesOver_28
  refine Li_ite Iff.rfl ?_ ?_
  · exact Li_ret rfl hR
  · refine Li_ite Iff.rfl ?_ ?_
    · refine Li_chkX ((by decide)) ?_
      refine Li_chk (fun ⟨c16, c17⟩ => ⟨(by simp only [pp_60 hR]; decide), c16, c17⟩) (fun _ => ?_)
      refine Li_sta hR (j := 60) rfl (by decide) (pp_60 hR) rfl rfl (fun r18 m19 hR20 => ?_)
      refine Li_chk (fun ⟨c21, c22⟩ => ⟨(by simp only [pp_61 hR20]; decide), c21, c22⟩) (fun _ => ?_)
      refine Li_sta hR20 (j := 61) rfl (by decide) (pp_61 hR20) rfl rfl (fun r23 m24 hR25 => ?_)
      exact Li_ret rfl hR25
    · refine Li_ite Iff.rfl ?_ ?_
      · refine Li_chkX ((by decide)) ?_
        refine Li_chk (fun ⟨c1, c2⟩ => ⟨(by simp only [pp_56 hR]; decide), c1, c2⟩) (fun _ => ?_)
        refine Li_ite (by simp only [aa_56 hR, pp_56 hR]) ?_ ?_
        · refine Li_cal (li_X12_gets hR) (fun v9 r8 m10 hR11 => ?_)
          exact Li_ret rfl hR11
        · refine Li_chk (fun ⟨c3, c4⟩ => ⟨(by simp only [pp_60 hR]; decide), c3, c4⟩) (fun _ => ?_)
          refine Li_sta hR (j := 60) rfl (by decide) (pp_60 hR) rfl rfl (fun r5 m6 hR7 => ?_)
          exact Li_ret rfl hR7
      · refine Li_chkX ((by decide)) ?_
        refine Li_cal (li_X12_gets hR) (fun v13 r12 m14 hR15 => ?_)
        exact Li_ret rfl hR15
theorem li_X12_takesOver_24 {l1 l2 l3 s0 : Int} {r : Rst} {m : Mem} (hR : Rp r m) : LiR (G_takesOver_24 l1 l2 l3 s0 r) (X12_takesOver_24 10 l1 l2 l3 s0 10 m) m := by
  unfold G_takesOver_24 X12_takesOver_24
  refine Li_chkX ((by decide)) ?_
  refine Li_cal (li_X12_waiting hR) (fun v2 r1 m3 hR4 => ?_)
  exact li_X12_takesOver_28 hR4
theorem li_X12_takesOver_0 {l1 l2 l3 : Int} {r : Rst} {m : Mem} (hR : Rp r m) : LiR (G_takesOver_0 l1 l2 l3 r) (X12_takesOver_0 10 l1 l2 l3 m) m := by
  unfold G_takesOver_0 X12_takesOver_0
  refine Li_ite Iff.rfl ?_ ?_
  · refine Li_chkX ((by decide)) ?_
    refine Li_cal (li_X12_waitingTimer hR) (fun v2 r1 m3 hR4 => ?_)
    exact li_X12_takesOver_28 hR4
  · refine Li_ite Iff.rfl ?_ ?_
    · exact li_X12_takesOver_24 hR
    · exact li_X12_takesOver_24 hR
theorem li_X12_takesOver {a1 a2 a3 : Int} {r : Rst} {m : Mem} (hR : Rp r m) : LiR (G_takesOver a1 a2 a3 r) (X12_takesOver 10 a1 a2 a3 m) m := li_X12_takesOver_0 hR
theorem li_X12_takes_142 {r : Rst} {m : Mem} (hR : Rp r m) : LiR (G_takes_142 r) (X12_takes_142 10 m) m := by
  unfold G_takes_142 X12_takes_142
  refine Li_chkX ((by decide)) ?_
  refine Li_cal (li_X12_goesOn hR) (fun v2 r1 m3 hR4 => ?_)
  exact Li_ret rfl hR4
theorem li_X12_takes_117 {r : Rst} {m : Mem} (hR : Rp r m) : LiR (G_takes_117 r) (X12_takes_117 10 m) m := by
  unfold G_takes_117 X12_takes_117
  refine Li_chkX ((by decide)) ?_
  refine Li_ite (by simp only [ss_42 hR]) ?_ ?_
  · refine Li_ite (by simp only [ss_55 hR]) ?_ ?_
    · exact li_X12_takes_142 hR
    · refine Li_cal (li_X12_areDone hR) (fun v2 r1 m3 hR4 => ?_)
      refine Li_ite Iff.rfl ?_ ?_
      · exact li_X12_takes_142 hR4
      · refine Li_cal (li_X12_finishes hR4) (fun v6 r5 m7 hR8 => ?_)
        exact li_X12_takes_142 hR8
  · exact li_X12_takes_142 hR
theorem li_X12_takes_103 {l1 l2 l3 : Int} {r : Rst} {m : Mem} (hR : Rp r m) : LiR (G_takes_103 l1 l2 l3 r) (X12_takes_103 10 l1 l2 l3 m) m := by
  unfold G_takes_103 X12_takes_103
  refine Li_chkX ((by decide)) ?_
  refine Li_ite (by simp only [ss_42 hR]) ?_ ?_
  · refine Li_cal (li_X12_takesOver hR) (fun v2 r1 m3 hR4 => ?_)
    exact li_X12_takes_117 hR4
  · exact li_X12_takes_117 hR
theorem li_X12_takes_88 {l1 l2 l3 : Int} {r : Rst} {m : Mem} (hR : Rp r m) : LiR (G_takes_88 l1 l2 l3 r) (X12_takes_88 10 l1 l2 l3 m) m := by
  unfold G_takes_88 X12_takes_88
  refine Li_chkX ((by decide)) ?_
  refine Li_ite (by simp only [ss_54 hR]) ?_ ?_
  · refine Li_cal (li_X12_undoesNext hR) (fun v2 r1 m3 hR4 => ?_)
    exact li_X12_takes_117 hR4
  · exact li_X12_takes_103 hR
theorem li_X12_takes_0 {l1 l2 l3 : Int} {r : Rst} {m : Mem} (hR : Rp r m) : LiR (G_takes_0 l1 l2 l3 r) (X12_takes_0 10 l1 l2 l3 m) m := by
  unfold G_takes_0 X12_takes_0
  refine Li_chkX ((by decide)) ?_
  refine Li_sts hR (j := 44) rfl (by decide) rfl rfl (fun r1 m2 hR3 => ?_)
  refine Li_ite Iff.rfl ?_ ?_
  · refine Li_sts hR3 (j := 41) rfl (by decide) rfl rfl (fun r15 m16 hR17 => ?_)
    exact li_X12_takes_117 hR17
  · refine Li_ite Iff.rfl ?_ ?_
    · refine Li_cal (li_X12_takesSignal hR3) (fun v12 r11 m13 hR14 => ?_)
      exact li_X12_takes_117 hR14
    · refine Li_ite Iff.rfl ?_ ?_
      · refine Li_sts hR3 (j := 47) rfl (by decide) rfl rfl (fun r4 m5 hR6 => ?_)
        refine Li_ite (by simp only [ss_42 hR6]) ?_ ?_
        · refine Li_ite (by simp only [ss_55 hR6]) ?_ ?_
          · exact li_X12_takes_117 hR6
          · refine Li_ite (by simp only [ss_46 hR6]) ?_ ?_
            · refine Li_cal (li_X12_cuts hR6) (fun v8 r7 m9 hR10 => ?_)
              exact li_X12_takes_117 hR10
            · exact li_X12_takes_117 hR6
        · exact li_X12_takes_117 hR6
      · refine Li_ite (by simp only [ss_42 hR3]) ?_ ?_
        · refine Li_ite Iff.rfl ?_ ?_
          · exact li_X12_takes_88 hR3
          · refine Li_ite Iff.rfl ?_ ?_
            · exact li_X12_takes_88 hR3
            · exact li_X12_takes_103 hR3
        · exact li_X12_takes_103 hR3
theorem li_X12_takes {a1 a2 a3 : Int} {r : Rst} {m : Mem} (hR : Rp r m) : LiR (G_takes a1 a2 a3 r) (X12_takes 10 a1 a2 a3 m) m := li_X12_takes_0 hR
theorem li_X12_takesAll_7 : ∀ (n : Nat) {l2 l3 : Int} {r : Rst} {m : Mem}, Rp r m → LiR (G_takesAll_7 n l2 l3 r) (X12_takesAll_7 n 10 l2 l3 m) m := by
  intro n
  induction n with
  | zero =>
    intro l2 l3 r m hR
    exact Li_none
  | succ n ih =>
    intro l2 l3 r m hR
    rw [G_takesAll_7, X12_takesAll_7]
    refine Li_ite Iff.rfl ?_ ?_
    · exact Li_ret rfl hR
    · refine Li_chkX ((by decide)) ?_
      refine Li_chk (fun ⟨c1, c2⟩ => ⟨(by simp only [pp_19 hR]; decide), c1, c2⟩) (fun _ => ?_)
      refine Li_ite (by simp only [aa_19 hR, pp_19 hR]) ?_ ?_
      · refine Li_chk (fun c3 => c3) (fun _ => ?_)
        exact ih hR
      · refine Li_chk (fun ⟨c4, c5⟩ => ⟨c4, c5⟩) (fun _ => ?_)
        refine Li_chk (fun ⟨c6, c7⟩ => ⟨(by simp only [pp_20 hR]; decide), c6, c7⟩) (fun _ => ?_)
        refine Li_chk (fun ⟨c8, c9⟩ => ⟨(by simp only [pp_21 hR]; decide), c8, c9⟩) (fun _ => ?_)
        refine Li_cal (by simp only [aa_19 hR, aa_20 hR, aa_21 hR, pp_19 hR, pp_20 hR, pp_21 hR]; exact li_X12_takes hR) (fun v11 r10 m12 hR13 => ?_)
        refine Li_chk (fun c14 => c14) (fun _ => ?_)
        exact ih hR13
theorem li_X12_takesAll_0 {l1 l2 : Int} {r : Rst} {m : Mem} (hR : Rp r m) : LiR (G_takesAll_0 l1 l2 r) (X12_takesAll_0 10 l1 l2 m) m := by
  unfold G_takesAll_0 X12_takesAll_0
  refine Li_chkX ((by decide)) ?_
  refine Li_sts hR (j := 76) rfl (by decide) rfl rfl (fun r1 m2 hR3 => ?_)
  exact li_X12_takesAll_7 fuel9 hR3
theorem li_X12_takesAll {a1 a2 : Int} {r : Rst} {m : Mem} (hR : Rp r m) : LiR (G_takesAll a1 a2 r) (X12_takesAll 10 a1 a2 m) m := li_X12_takesAll_0 hR
theorem li_X12_endOf_4 : ∀ (n : Nat) {l2 l3 : Int} {r : Rst} {m : Mem}, Rp r m → LiR (G_endOf_4 n l2 l3 r) (X12_endOf_4 n 10 l2 l3 m) m := by
  intro n
  induction n with
  | zero =>
    intro l2 l3 r m hR
    exact Li_none
  | succ n ih =>
    intro l2 l3 r m hR
    rw [G_endOf_4, X12_endOf_4]
    refine Li_ite Iff.rfl ?_ ?_
    · exact Li_ret rfl hR
    · refine Li_chkX ((by decide)) ?_
      refine Li_chk (fun ⟨c1, c2⟩ => ⟨(by simp only [pp_19 hR]; decide), c1, c2⟩) (fun _ => ?_)
      refine Li_ite (by simp only [aa_19 hR, pp_19 hR]) ?_ ?_
      · exact Li_ret rfl hR
      · refine Li_chk (fun c3 => c3) (fun _ => ?_)
        exact ih hR
theorem li_X12_endOf_0 {l1 l2 : Int} {r : Rst} {m : Mem} (hR : Rp r m) : LiR (G_endOf_0 l1 l2 r) (X12_endOf_0 10 l1 l2 m) m := by
  unfold G_endOf_0 X12_endOf_0
  refine Li_chk (fun c1 => c1) (fun _ => ?_)
  exact li_X12_endOf_4 fuel9 hR
theorem li_X12_endOf {a1 a2 : Int} {r : Rst} {m : Mem} (hR : Rp r m) : LiR (G_endOf a1 a2 r) (X12_endOf 10 a1 a2 m) m := li_X12_endOf_0 hR
theorem li_X12_isAsTold_24 : ∀ (n : Nat) {l1 l2 : Int} {r : Rst} {m : Mem}, Rp r m → LiR (G_isAsTold_24 n l1 l2 r) (X12_isAsTold_24 n 10 l1 l2 m) m := by
  intro n
  induction n with
  | zero =>
    intro l1 l2 r m hR
    exact Li_none
  | succ n ih =>
    intro l1 l2 r m hR
    rw [G_isAsTold_24, X12_isAsTold_24]
    refine Li_chkX ((by decide)) ?_
    refine Li_ite (by simp only [ss_76 hR]) ?_ ?_
    · exact Li_ret rfl hR
    · refine Li_ite Iff.rfl ?_ ?_
      · exact Li_ret rfl hR
      · refine Li_chk (fun ⟨c1, c2⟩ => ⟨(by simp only [pp_72 hR]; decide), c1, c2⟩) (fun _ => ?_)
        refine Li_chk (fun c3 => (by simp only [ss_78 hR]; exact c3)) (fun _ => ?_)
        refine Li_chk (fun ⟨c4, c5⟩ => ⟨(by simp only [pp_19 hR]; decide), (by simp only [ss_78 hR]; exact c4), (by simp only [ss_78 hR]; exact c5)⟩) (fun _ => ?_)
        refine Li_ite (by simp only [aa_19 hR, aa_72 hR, pp_19 hR, pp_72 hR, ss_78 hR]) ?_ ?_
        · refine Li_chk (fun ⟨c7, c8⟩ => ⟨(by simp only [pp_73 hR]; decide), c7, c8⟩) (fun _ => ?_)
          refine Li_chk (fun c9 => (by simp only [ss_78 hR]; exact c9)) (fun _ => ?_)
          refine Li_chk (fun ⟨c10, c11⟩ => ⟨(by simp only [pp_20 hR]; decide), (by simp only [ss_78 hR]; exact c10), (by simp only [ss_78 hR]; exact c11)⟩) (fun _ => ?_)
          refine Li_ite (by simp only [aa_20 hR, aa_73 hR, pp_20 hR, pp_73 hR, ss_78 hR]) ?_ ?_
          · refine Li_chk (fun ⟨c13, c14⟩ => ⟨(by simp only [pp_74 hR]; decide), c13, c14⟩) (fun _ => ?_)
            refine Li_chk (fun c15 => (by simp only [ss_78 hR]; exact c15)) (fun _ => ?_)
            refine Li_chk (fun ⟨c16, c17⟩ => ⟨(by simp only [pp_21 hR]; decide), (by simp only [ss_78 hR]; exact c16), (by simp only [ss_78 hR]; exact c17)⟩) (fun _ => ?_)
            refine Li_ite (by simp only [aa_21 hR, aa_74 hR, pp_21 hR, pp_74 hR, ss_78 hR]) ?_ ?_
            · refine Li_chk (fun c19 => c19) (fun _ => ?_)
              exact ih hR
            · refine Li_chk (fun c18 => c18) (fun _ => ?_)
              exact ih hR
          · refine Li_chk (fun c12 => c12) (fun _ => ?_)
            exact ih hR
        · refine Li_chk (fun c6 => c6) (fun _ => ?_)
          exact ih hR
theorem li_X12_isAsTold_0 {r : Rst} {m : Mem} (hR : Rp r m) : LiR (G_isAsTold_0 r) (X12_isAsTold_0 10 m) m := by
  unfold G_isAsTold_0 X12_isAsTold_0
  refine Li_chkX ((by decide)) ?_
  refine Li_chk (fun c1 => (by simp only [ss_78 hR, ss_79 hR]; exact c1)) (fun _ => ?_)
  refine Li_ite (by simp only [ss_76 hR, ss_78 hR, ss_79 hR]) ?_ ?_
  · exact li_X12_isAsTold_24 fuel9 hR
  · exact li_X12_isAsTold_24 fuel9 hR
theorem li_X12_isAsTold {r : Rst} {m : Mem} (hR : Rp r m) : LiR (G_isAsTold r) (X12_isAsTold 10 m) m := Li_bool (li_X12_isAsTold_0 hR)
theorem li_X12_plays_58 : ∀ (n : Nat) {l4 l5 l6 : Int} {r : Rst} {m : Mem}, Rp r m → LiR (G_plays_58 n l4 l5 l6 r) (X12_plays_58 n 10 l4 l5 l6 m) m := by
  intro n
  induction n with
  | zero =>
    intro l4 l5 l6 r m hR
    exact Li_none
  | succ n ih =>
    intro l4 l5 l6 r m hR
    rw [G_plays_58, X12_plays_58]
    refine Li_ite Iff.rfl ?_ ?_
    · exact Li_ret rfl hR
    · refine Li_chkX ((by decide)) ?_
      refine Li_chk (fun ⟨c1, c2⟩ => ⟨(by simp only [pp_19 hR]; decide), c1, c2⟩) (fun _ => ?_)
      refine Li_ite (by simp only [aa_19 hR, pp_19 hR]) ?_ ?_
      · refine Li_chk (fun c4 => c4) (fun _ => ?_)
        refine Li_sts hR (j := 78) rfl (by decide) rfl rfl (fun r5 m6 hR7 => ?_)
        refine Li_cal (li_X12_endOf hR7) (fun v9 r8 m10 hR11 => ?_)
        refine Li_sts hR11 (j := 79) rfl (by decide) rfl rfl (fun r12 m13 hR14 => ?_)
        refine Li_cal (li_X12_takesAll hR14) (fun v16 r15 m17 hR18 => ?_)
        refine Li_cal (li_X12_isAsTold hR18) (fun v20 r19 m21 hR22 => ?_)
        refine Li_ite Iff.rfl ?_ ?_
        · exact Li_ret rfl hR22
        · refine Li_chk (fun c23 => c23) (fun _ => ?_)
          simp only [ss_79 hR22]
          exact ih hR22
      · refine Li_chk (fun c3 => c3) (fun _ => ?_)
        exact ih hR
theorem li_X12_plays_0 {l1 l2 : Int} {r : Rst} {m : Mem} (hR : Rp r m) : LiR (G_plays_0 l1 l2 r) (X12_plays_0 10 l1 l2 m) m := by
  unfold G_plays_0 X12_plays_0
  refine Li_chkX ((by decide)) ?_
  refine Li_cal (li_X12_rowOfRun hR) (fun v2 r1 m3 hR4 => ?_)
  refine Li_chk (fun c5 => c5) (fun _ => ?_)
  refine Li_chk (fun ⟨c6, c7⟩ => ⟨(by simp only [pp_18 hR4]; decide), c6, c7⟩) (fun _ => ?_)
  refine Li_chk (fun c8 => (by simp only [aa_18 hR4, pp_18 hR4]; exact c8)) (fun _ => ?_)
  refine Li_chk (fun c9 => c9) (fun _ => ?_)
  refine Li_chk (fun ⟨c10, c11⟩ => ⟨(by simp only [pp_7 hR4]; decide), c10, c11⟩) (fun _ => ?_)
  refine Li_cal (by simp only [aa_7 hR4, pp_7 hR4]; exact li_X12_rowOf hR4) (fun v13 r12 m14 hR15 => ?_)
  refine Li_cal (li_X12_begins hR15) (fun v17 r16 m18 hR19 => ?_)
  refine Li_chk (fun ⟨c20, c21⟩ => ⟨(by simp only [pp_12 hR19]; decide), c20, c21⟩) (fun _ => ?_)
  refine Li_sts hR19 (j := 83) rfl (by decide) rfl (by simp only [aa_12 hR19, pp_12 hR19]) (fun r22 m23 hR24 => ?_)
  refine Li_sts hR24 (j := 80) rfl (by decide) rfl rfl (fun r25 m26 hR27 => ?_)
  simp only [aa_18 hR4, pp_18 hR4]
  exact li_X12_plays_58 fuel9 hR27
theorem li_X12_plays {a1 a2 : Int} {r : Rst} {m : Mem} (hR : Rp r m) : LiR (G_plays a1 a2 r) (X12_plays 10 a1 a2 m) m := li_X12_plays_0 hR
theorem li_X12_isAny_11 : ∀ (n : Nat) {l2 l3 l4 : Int} {r : Rst} {m : Mem}, Rp r m → LiR (G_isAny_11 n l2 l3 l4 r) (X12_isAny_11 n 10 l2 l3 l4 m) m := by
  intro n
  induction n with
  | zero =>
    intro l2 l3 l4 r m hR
    exact Li_none
  | succ n ih =>
    intro l2 l3 l4 r m hR
    rw [G_isAny_11, X12_isAny_11]
    refine Li_chkX ((by decide)) ?_
    refine Li_chk (fun ⟨c1, c2⟩ => ⟨(by simp only [pp_18 hR]; decide), c1, c2⟩) (fun _ => ?_)
    refine Li_ite (by simp only [aa_18 hR, pp_18 hR]) ?_ ?_
    · exact Li_ret rfl hR
    · refine Li_ite Iff.rfl ?_ ?_
      · refine Li_chk (fun c4 => c4) (fun _ => ?_)
        refine Li_chk (fun c5 => c5) (fun _ => ?_)
        refine Li_chk (fun ⟨c6, c7⟩ => ⟨(by simp only [pp_19 hR]; decide), c6, c7⟩) (fun _ => ?_)
        refine Li_ite (by simp only [aa_19 hR, pp_19 hR]) ?_ ?_
        · refine Li_chk (fun c9 => c9) (fun _ => ?_)
          exact ih hR
        · refine Li_chk (fun c8 => c8) (fun _ => ?_)
          exact ih hR
      · refine Li_chk (fun c3 => c3) (fun _ => ?_)
        exact ih hR
theorem li_X12_isAny_0 {l1 : Int} {r : Rst} {m : Mem} (hR : Rp r m) : LiR (G_isAny_0 l1 r) (X12_isAny_0 10 l1 m) m := by
  unfold G_isAny_0 X12_isAny_0
  refine Li_chkX ((by decide)) ?_
  refine Li_cal (li_X12_rowOfRun hR) (fun v2 r1 m3 hR4 => ?_)
  exact li_X12_isAny_11 fuel9 hR4
theorem li_X12_isAny {a1 : Int} {r : Rst} {m : Mem} (hR : Rp r m) : LiR (G_isAny a1 r) (X12_isAny 10 a1 m) m := Li_bool (li_X12_isAny_0 hR)
theorem li_X12_isDueNow_0 {l1 : Int} {r : Rst} {m : Mem} (hR : Rp r m) : LiR (G_isDueNow_0 l1 r) (X12_isDueNow_0 10 l1 m) m := by
  unfold G_isDueNow_0 X12_isDueNow_0
  refine Li_chkX ((by decide)) ?_
  refine Li_cal (li_X12_rowOfRun hR) (fun v2 r1 m3 hR4 => ?_)
  refine Li_cal (li_X12_isRunning hR4) (fun v6 r5 m7 hR8 => ?_)
  refine Li_ite Iff.rfl ?_ ?_
  · exact Li_ret rfl hR8
  · refine Li_chk (fun c9 => c9) (fun _ => ?_)
    refine Li_chk (fun ⟨c10, c11⟩ => ⟨(by simp only [pp_18 hR8]; decide), c10, c11⟩) (fun _ => ?_)
    refine Li_chk (fun c12 => (by simp only [aa_18 hR8, pp_18 hR8]; exact c12)) (fun _ => ?_)
    refine Li_chk (fun c13 => (by simp only [aa_18 hR8, pp_18 hR8]; exact c13)) (fun _ => ?_)
    refine Li_chk (fun ⟨c14, c15⟩ => ⟨(by simp only [pp_19 hR8]; decide), (by simp only [aa_18 hR8, pp_18 hR8]; exact c14), (by simp only [aa_18 hR8, pp_18 hR8]; exact c15)⟩) (fun _ => ?_)
    refine Li_ite (by simp only [aa_18 hR8, aa_19 hR8, pp_18 hR8, pp_19 hR8]) ?_ ?_
    · exact Li_ret rfl hR8
    · exact Li_ret rfl hR8
theorem li_X12_isDueNow {a1 : Int} {r : Rst} {m : Mem} (hR : Rp r m) : LiR (G_isDueNow a1 r) (X12_isDueNow 10 a1 m) m := Li_bool (li_X12_isDueNow_0 hR)
theorem li_X12_takesOff_14 : ∀ (n : Nat) {l1 l2 l3 : Int} {r : Rst} {m : Mem}, Rp r m → LiR (G_takesOff_14 n l1 l2 l3 r) (X12_takesOff_14 n 10 l1 l2 l3 m) m := by
  intro n
  induction n with
  | zero =>
    intro l1 l2 l3 r m hR
    exact Li_none
  | succ n ih =>
    intro l1 l2 l3 r m hR
    rw [G_takesOff_14, X12_takesOff_14]
    refine Li_ite Iff.rfl ?_ ?_
    · exact Li_ret rfl hR
    · refine Li_chkX ((by decide)) ?_
      refine Li_chk (fun ⟨c1, c2⟩ => ⟨(by simp only [pp_39 hR]; decide), c1, c2⟩) (fun _ => ?_)
      refine Li_chk (fun c3 => c3) (fun _ => ?_)
      refine Li_chk (fun c4 => c4) (fun _ => ?_)
      refine Li_ite (by simp only [aa_39 hR, pp_39 hR]) ?_ ?_
      · refine Li_chk (fun ⟨c13, c14⟩ => ⟨c13, c14⟩) (fun _ => ?_)
        refine Li_sta hR (j := 39) rfl (by decide) (pp_39 hR) rfl rfl (fun r15 m16 hR17 => ?_)
        refine Li_chk (fun c18 => c18) (fun _ => ?_)
        exact ih hR17
      · refine Li_chk (fun ⟨c5, c6⟩ => ⟨c5, c6⟩) (fun _ => ?_)
        refine Li_chk (fun ⟨c7, c8⟩ => ⟨c7, c8⟩) (fun _ => ?_)
        refine Li_sta hR (j := 39) rfl (by decide) (pp_39 hR) rfl (by simp only [aa_39 hR, pp_39 hR]) (fun r9 m10 hR11 => ?_)
        refine Li_chk (fun c12 => c12) (fun _ => ?_)
        exact ih hR11
theorem li_X12_takesOff_0 {l1 l2 : Int} {r : Rst} {m : Mem} (hR : Rp r m) : LiR (G_takesOff_0 l1 l2 r) (X12_takesOff_0 10 l1 l2 m) m := by
  unfold G_takesOff_0 X12_takesOff_0
  refine Li_chkX ((by decide)) ?_
  refine Li_chk (fun c1 => c1) (fun _ => ?_)
  refine Li_chk (fun c2 => c2) (fun _ => ?_)
  refine Li_chk (fun ⟨c3, c4⟩ => ⟨(by simp only [pp_23 hR]; decide), c3, c4⟩) (fun _ => ?_)
  refine Li_sta hR (j := 23) rfl (by decide) (pp_23 hR) rfl rfl (fun r5 m6 hR7 => ?_)
  exact li_X12_takesOff_14 fuel9 hR7
theorem li_X12_takesOff {a1 a2 : Int} {r : Rst} {m : Mem} (hR : Rp r m) : LiR (G_takesOff a1 a2 r) (X12_takesOff 10 a1 a2 m) m := li_X12_takesOff_0 hR
theorem li_X12_putsActivity_0 {l1 l2 : Int} {r : Rst} {m : Mem} (hR : Rp r m) : LiR (G_putsActivity_0 l1 l2 r) (X12_putsActivity_0 10 l1 l2 m) m := by
  unfold G_putsActivity_0 X12_putsActivity_0
  refine Li_chk (fun c1 => c1) (fun _ => ?_)
  refine Li_chkX ((by decide)) ?_
  refine Li_chk (fun ⟨c2, c3⟩ => ⟨(by simp only [pp_22 hR]; decide), c2, c3⟩) (fun _ => ?_)
  refine Li_chk (fun c4 => (by simp only [aa_22 hR, pp_22 hR]; exact c4)) (fun _ => ?_)
  refine Li_chk (fun ⟨c5, c6⟩ => ⟨(by simp only [pp_23 hR]; decide), (by simp only [aa_22 hR, pp_22 hR]; exact c5), (by simp only [aa_22 hR, pp_22 hR]; exact c6)⟩) (fun _ => ?_)
  refine Li_sta hR (j := 23) rfl (by decide) (pp_23 hR) (by simp only [aa_22 hR, pp_22 hR]) rfl (fun r7 m8 hR9 => ?_)
  refine Li_chk (fun ⟨c10, c11⟩ => ⟨(by simp only [pp_24 hR9]; decide), (by simp only [aa_22 hR, pp_22 hR]; exact c10), (by simp only [aa_22 hR, pp_22 hR]; exact c11)⟩) (fun _ => ?_)
  refine Li_sta hR9 (j := 24) rfl (by decide) (pp_24 hR9) (by simp only [aa_22 hR, pp_22 hR]) rfl (fun r12 m13 hR14 => ?_)
  refine Li_chk (fun ⟨c15, c16⟩ => ⟨(by simp only [pp_25 hR14]; decide), (by simp only [aa_22 hR, pp_22 hR]; exact c15), (by simp only [aa_22 hR, pp_22 hR]; exact c16)⟩) (fun _ => ?_)
  refine Li_sta hR14 (j := 25) rfl (by decide) (pp_25 hR14) (by simp only [aa_22 hR, pp_22 hR]) rfl (fun r17 m18 hR19 => ?_)
  refine Li_chk (fun ⟨c20, c21⟩ => ⟨(by simp only [pp_26 hR19]; decide), (by simp only [aa_22 hR, pp_22 hR]; exact c20), (by simp only [aa_22 hR, pp_22 hR]; exact c21)⟩) (fun _ => ?_)
  refine Li_sta hR19 (j := 26) rfl (by decide) (pp_26 hR19) (by simp only [aa_22 hR, pp_22 hR]) (by simp only [ss_1 hR19]) (fun r22 m23 hR24 => ?_)
  refine Li_chk (fun ⟨c25, c26⟩ => ⟨(by simp only [pp_28 hR24]; decide), (by simp only [aa_22 hR, pp_22 hR]; exact c25), (by simp only [aa_22 hR, pp_22 hR]; exact c26)⟩) (fun _ => ?_)
  refine Li_sta hR24 (j := 28) rfl (by decide) (pp_28 hR24) (by simp only [aa_22 hR, pp_22 hR]) (by simp only [ss_29 hR24]) (fun r27 m28 hR29 => ?_)
  refine Li_chk (fun c30 => (by simp only [ss_29 hR29]; exact c30)) (fun _ => ?_)
  refine Li_sts hR29 (j := 29) rfl (by decide) rfl (by simp only [ss_29 hR29]) (fun r31 m32 hR33 => ?_)
  refine Li_chk (fun ⟨c34, c35⟩ => ⟨(by simp only [pp_22 hR33]; decide), c34, c35⟩) (fun _ => ?_)
  refine Li_chk (fun c36 => (by simp only [aa_22 hR33, pp_22 hR33]; exact c36)) (fun _ => ?_)
  refine Li_chk (fun ⟨c37, c38⟩ => ⟨c37, c38⟩) (fun _ => ?_)
  refine Li_sta hR33 (j := 22) rfl (by decide) (pp_22 hR33) rfl (by simp only [aa_22 hR33, pp_22 hR33]) (fun r39 m40 hR41 => ?_)
  exact Li_ret rfl hR41
theorem li_X12_putsActivity {a1 a2 : Int} {r : Rst} {m : Mem} (hR : Rp r m) : LiR (G_putsActivity a1 a2 r) (X12_putsActivity 10 a1 a2 m) m := li_X12_putsActivity_0 hR
theorem li_X12_setsTimer__0 {l1 l2 l3 : Int} {r : Rst} {m : Mem} (hR : Rp r m) : LiR (G_setsTimer__0 l1 l2 l3 r) (X12_setsTimer__0 10 l1 l2 l3 m) m := by
  unfold G_setsTimer__0 X12_setsTimer__0
  refine Li_ite Iff.rfl ?_ ?_
  · refine Li_chkX ((by decide)) ?_
    refine Li_chk (fun c1 => c1) (fun _ => ?_)
    refine Li_chk (fun c2 => c2) (fun _ => ?_)
    refine Li_chk (fun ⟨c3, c4⟩ => ⟨(by simp only [pp_31 hR]; decide), c3, c4⟩) (fun _ => ?_)
    refine Li_sta hR (j := 31) rfl (by decide) (pp_31 hR) rfl rfl (fun r5 m6 hR7 => ?_)
    exact Li_ret rfl hR7
  · refine Li_chkX ((by decide)) ?_
    refine Li_chk (fun c8 => c8) (fun _ => ?_)
    refine Li_chk (fun ⟨c9, c10⟩ => ⟨(by simp only [pp_30 hR]; decide), c9, c10⟩) (fun _ => ?_)
    refine Li_chk (fun c11 => (by simp only [aa_30 hR, pp_30 hR]; exact c11)) (fun _ => ?_)
    refine Li_chk (fun c12 => (by simp only [ss_1 hR]; exact c12)) (fun _ => ?_)
    refine Li_chk (fun ⟨c13, c14⟩ => ⟨(by simp only [pp_31 hR]; decide), (by simp only [aa_30 hR, pp_30 hR]; exact c13), (by simp only [aa_30 hR, pp_30 hR]; exact c14)⟩) (fun _ => ?_)
    refine Li_sta hR (j := 31) rfl (by decide) (pp_31 hR) (by simp only [aa_30 hR, pp_30 hR]) (by simp only [ss_1 hR]) (fun r15 m16 hR17 => ?_)
    refine Li_chk (fun ⟨c18, c19⟩ => ⟨(by simp only [pp_30 hR17]; decide), c18, c19⟩) (fun _ => ?_)
    refine Li_chk (fun c20 => (by simp only [aa_30 hR17, pp_30 hR17]; exact c20)) (fun _ => ?_)
    refine Li_chk (fun ⟨c21, c22⟩ => ⟨c21, c22⟩) (fun _ => ?_)
    refine Li_sta hR17 (j := 30) rfl (by decide) (pp_30 hR17) rfl (by simp only [aa_30 hR17, pp_30 hR17]) (fun r23 m24 hR25 => ?_)
    exact Li_ret rfl hR25
theorem li_X12_setsTimer_ {a1 a2 a3 : Int} {r : Rst} {m : Mem} (hR : Rp r m) : LiR (G_setsTimer_ a1 a2 a3 r) (X12_setsTimer_ 10 a1 a2 a3 m) m := li_X12_setsTimer__0 hR
theorem li_X12_makesChild_71 {l1 s0 s1 : Int} {r : Rst} {m : Mem} (hR : Rp r m) : LiR (G_makesChild_71 l1 s0 s1 r) (X12_makesChild_71 10 l1 s0 s1 43 m) m := by
  unfold G_makesChild_71 X12_makesChild_71
  refine Li_chk (fun ⟨c1, c2⟩ => ⟨(by decide), c1, c2⟩) (fun _ => ?_)
  refine Li_sta hR (j := 33) rfl (by decide) rfl rfl rfl (fun r3 m4 hR5 => ?_)
  refine Li_chkX ((by decide)) ?_
  refine Li_chk (fun ⟨c6, c7⟩ => ⟨(by simp only [pp_32 hR5]; decide), c6, c7⟩) (fun _ => ?_)
  refine Li_chk (fun c8 => (by simp only [aa_32 hR5, pp_32 hR5]; exact c8)) (fun _ => ?_)
  refine Li_chk (fun ⟨c9, c10⟩ => ⟨c9, c10⟩) (fun _ => ?_)
  refine Li_sta hR5 (j := 32) rfl (by decide) (pp_32 hR5) rfl (by simp only [aa_32 hR5, pp_32 hR5]) (fun r11 m12 hR13 => ?_)
  exact Li_ret rfl hR13
theorem li_X12_makesChild_0 {l1 l2 : Int} {r : Rst} {m : Mem} (hR : Rp r m) : LiR (G_makesChild_0 l1 l2 r) (X12_makesChild_0 10 l1 l2 m) m := by
  unfold G_makesChild_0 X12_makesChild_0
  refine Li_chk (fun c1 => c1) (fun _ => ?_)
  refine Li_chkX ((by decide)) ?_
  refine Li_chk (fun ⟨c2, c3⟩ => ⟨(by simp only [pp_32 hR]; decide), c2, c3⟩) (fun _ => ?_)
  refine Li_chk (fun c4 => (by simp only [aa_32 hR, pp_32 hR]; exact c4)) (fun _ => ?_)
  refine Li_chk (fun ⟨c5, c6⟩ => ⟨(by simp only [pp_74 hR]; decide), c5, c6⟩) (fun _ => ?_)
  refine Li_chk (fun ⟨c7, c8⟩ => ⟨(by simp only [pp_34 hR]; decide), (by simp only [aa_32 hR, pp_32 hR]; exact c7), (by simp only [aa_32 hR, pp_32 hR]; exact c8)⟩) (fun _ => ?_)
  refine Li_sta hR (j := 34) rfl (by decide) (pp_34 hR) (by simp only [aa_32 hR, pp_32 hR]) (by simp only [aa_74 hR, pp_74 hR]) (fun r9 m10 hR11 => ?_)
  refine Li_ite (by simp only [ss_16 hR11]) ?_ ?_
  · simp only [aa_32 hR, pp_32 hR, pp_33 hR11]
    exact li_X12_makesChild_71 hR11
  · refine Li_chk (fun ⟨c12, c13⟩ => ⟨(by simp only [pp_73 hR11]; decide), c12, c13⟩) (fun _ => ?_)
    refine Li_chk (fun ⟨c14, c15⟩ => ⟨(by simp only [pp_8 hR11]; decide), c14, c15⟩) (fun _ => ?_)
    refine Li_chk (fun ⟨c16, c17⟩ => ⟨(by simp only [pp_32 hR11]; decide), c16, c17⟩) (fun _ => ?_)
    refine Li_chk (fun ⟨c18, c19⟩ => ⟨(by simp only [pp_75 hR11]; decide), c18, c19⟩) (fun _ => ?_)
    refine Li_cal (by simp only [aa_32 hR11, aa_73 hR11, aa_75 hR11, aa_8 hR11, pp_32 hR11, pp_73 hR11, pp_75 hR11, pp_8 hR11]; exact li_X12_makesFlow hR11) (fun v21 r20 m22 hR23 => ?_)
    simp only [aa_32 hR, pp_32 hR, pp_33 hR11]
    exact li_X12_makesChild_71 hR23
theorem li_X12_makesChild {a1 a2 : Int} {r : Rst} {m : Mem} (hR : Rp r m) : LiR (G_makesChild a1 a2 r) (X12_makesChild 10 a1 a2 m) m := li_X12_makesChild_0 hR
theorem li_X12_closesOne_116 {k56 : Int → Int → Rst → Option G2} {k56' : Int → Int → Int → Mem → Option R2} (hk56 : ∀ {l1 l2 : Int} {r : Rst} {m : Mem}, Rp r m → LiR (k56 l1 l2 r) (k56' 10 l1 l2 m) m) {l1 l2 l3 : Int} {r : Rst} {m : Mem} (hR : Rp r m) : LiR (G_closesOne_116 k56 l1 l2 l3 r) (X12_closesOne_116 k56' 10 l1 l2 l3 m) m := by
  unfold G_closesOne_116 X12_closesOne_116
  refine Li_ite Iff.rfl ?_ ?_
  · refine Li_chk (fun c1 => c1) (fun _ => ?_)
    exact hk56 hR
  · refine Li_chkX ((by decide)) ?_
    refine Li_cal (li_X12_isRunning hR) (fun v3 r2 m4 hR5 => ?_)
    refine Li_ite Iff.rfl ?_ ?_
    · refine Li_chk (fun c6 => c6) (fun _ => ?_)
      exact hk56 hR5
    · refine Li_chk (fun c7 => c7) (fun _ => ?_)
      refine Li_chk (fun c8 => c8) (fun _ => ?_)
      refine Li_chk (fun ⟨c9, c10⟩ => ⟨(by simp only [pp_34 hR5]; decide), c9, c10⟩) (fun _ => ?_)
      refine Li_ite (by simp only [aa_34 hR5, pp_34 hR5]) ?_ ?_
      · refine Li_cal (li_X12_rowOfRun hR5) (fun v13 r12 m14 hR15 => ?_)
        refine Li_chk (fun ⟨c16, c17⟩ => ⟨(by simp only [pp_17 hR5]; decide), c16, c17⟩) (fun _ => ?_)
        refine Li_sta hR15 (j := 17) rfl (by decide) (pp_17 hR5) rfl rfl (fun r18 m19 hR20 => ?_)
        refine Li_chk (fun ⟨c21, c22⟩ => ⟨(by simp only [pp_15 hR20]; decide), c21, c22⟩) (fun _ => ?_)
        refine Li_sta hR20 (j := 15) rfl (by decide) (pp_15 hR20) rfl rfl (fun r23 m24 hR25 => ?_)
        refine Li_chk (fun ⟨c26, c27⟩ => ⟨(by simp only [pp_81 hR25]; decide), (by simp only [ss_82 hR25]; exact c26), (by simp only [ss_82 hR25]; exact c27)⟩) (fun _ => ?_)
        refine Li_sta hR25 (j := 81) rfl (by decide) (pp_81 hR25) (by simp only [ss_82 hR25]) rfl (fun r28 m29 hR30 => ?_)
        refine Li_chk (fun c31 => (by simp only [ss_82 hR30]; exact c31)) (fun _ => ?_)
        refine Li_sts hR30 (j := 82) rfl (by decide) rfl (by simp only [ss_82 hR30]) (fun r32 m33 hR34 => ?_)
        refine Li_chk (fun c35 => c35) (fun _ => ?_)
        exact hk56 hR34
      · refine Li_chk (fun c11 => c11) (fun _ => ?_)
        exact hk56 hR5
theorem li_X12_closesOne_56 : ∀ (n : Nat) {l1 l2 : Int} {r : Rst} {m : Mem}, Rp r m → LiR (G_closesOne_56 n l1 l2 r) (X12_closesOne_56 n 10 l1 l2 m) m := by
  intro n
  induction n with
  | zero =>
    intro l1 l2 r m hR
    exact Li_none
  | succ n ih =>
    intro l1 l2 r m hR
    rw [G_closesOne_56, X12_closesOne_56]
    refine Li_chkX ((by decide)) ?_
    refine Li_chk (fun ⟨c1, c2⟩ => ⟨(by simp only [pp_32 hR]; decide), c1, c2⟩) (fun _ => ?_)
    refine Li_ite (by simp only [aa_32 hR, pp_32 hR]) ?_ ?_
    · exact Li_ret rfl hR
    · refine Li_chk (fun c3 => c3) (fun _ => ?_)
      refine Li_chk (fun c4 => c4) (fun _ => ?_)
      refine Li_chk (fun ⟨c5, c6⟩ => ⟨(by simp only [pp_33 hR]; decide), c5, c6⟩) (fun _ => ?_)
      refine Li_ite (by simp only [aa_33 hR, pp_33 hR]) ?_ ?_
      · simp only [aa_33 hR, pp_33 hR]
        exact li_X12_closesOne_116 ih hR
      · refine Li_cal (by simp only [aa_33 hR, pp_33 hR]; exact li_X12_isRunning hR) (fun v8 r7 m9 hR10 => ?_)
        refine Li_ite Iff.rfl ?_ ?_
        · simp only [aa_33 hR, pp_33 hR]
          exact li_X12_closesOne_116 ih hR10
        · refine Li_chk (fun c11 => c11) (fun _ => ?_)
          refine Li_chk (fun c12 => c12) (fun _ => ?_)
          refine Li_chk (fun ⟨c13, c14⟩ => ⟨(by simp only [pp_34 hR10]; decide), c13, c14⟩) (fun _ => ?_)
          refine Li_ite (by simp only [aa_34 hR10, pp_34 hR10]) ?_ ?_
          · refine Li_cal (by simp only [aa_33 hR, pp_33 hR]; exact li_X12_cancels hR10) (fun v16 r15 m17 hR18 => ?_)
            refine Li_chk (fun c19 => c19) (fun _ => ?_)
            exact ih hR18
          · simp only [aa_33 hR, pp_33 hR]
            exact li_X12_closesOne_116 ih hR10
theorem li_X12_closesOne_26 {k56 : Int → Int → Rst → Option G2} {k56' : Int → Int → Int → Mem → Option R2} (hk56 : ∀ {l1 l2 : Int} {r : Rst} {m : Mem}, Rp r m → LiR (k56 l1 l2 r) (k56' 10 l1 l2 m) m) : ∀ (n : Nat) {l1 l2 : Int} {r : Rst} {m : Mem}, Rp r m → LiR (G_closesOne_26 k56 n l1 l2 r) (X12_closesOne_26 k56' n 10 l1 l2 m) m := by
  intro n
  induction n with
  | zero =>
    intro l1 l2 r m hR
    exact Li_none
  | succ n ih =>
    intro l1 l2 r m hR
    rw [G_closesOne_26, X12_closesOne_26]
    refine Li_chkX ((by decide)) ?_
    refine Li_chk (fun ⟨c1, c2⟩ => ⟨(by simp only [pp_30 hR]; decide), c1, c2⟩) (fun _ => ?_)
    refine Li_ite (by simp only [aa_30 hR, pp_30 hR]) ?_ ?_
    · exact hk56 hR
    · refine Li_chk (fun c3 => c3) (fun _ => ?_)
      refine Li_chk (fun c4 => c4) (fun _ => ?_)
      refine Li_chk (fun ⟨c5, c6⟩ => ⟨(by simp only [pp_31 hR]; decide), c5, c6⟩) (fun _ => ?_)
      refine Li_sta hR (j := 31) rfl (by decide) (pp_31 hR) rfl rfl (fun r7 m8 hR9 => ?_)
      refine Li_chk (fun c10 => c10) (fun _ => ?_)
      exact ih hR9
theorem li_X12_closesOne_2 {k26 : Int → Int → Rst → Option G2} {k26' : Int → Int → Int → Mem → Option R2} (hk26 : ∀ {l1 l2 : Int} {r : Rst} {m : Mem}, Rp r m → LiR (k26 l1 l2 r) (k26' 10 l1 l2 m) m) : ∀ (n : Nat) {l1 l2 : Int} {r : Rst} {m : Mem}, Rp r m → LiR (G_closesOne_2 k26 n l1 l2 r) (X12_closesOne_2 k26' n 10 l1 l2 m) m := by
  intro n
  induction n with
  | zero =>
    intro l1 l2 r m hR
    exact Li_none
  | succ n ih =>
    intro l1 l2 r m hR
    rw [G_closesOne_2, X12_closesOne_2]
    refine Li_chkX ((by decide)) ?_
    refine Li_chk (fun ⟨c1, c2⟩ => ⟨(by simp only [pp_22 hR]; decide), c1, c2⟩) (fun _ => ?_)
    refine Li_ite (by simp only [aa_22 hR, pp_22 hR]) ?_ ?_
    · exact hk26 hR
    · refine Li_cal (li_X12_takesOff hR) (fun v4 r3 m5 hR6 => ?_)
      refine Li_chk (fun c7 => c7) (fun _ => ?_)
      exact ih hR6
theorem li_X12_closesOne_0 {l1 : Int} {r : Rst} {m : Mem} (hR : Rp r m) : LiR (G_closesOne_0 l1 r) (X12_closesOne_0 10 l1 m) m := by
  unfold G_closesOne_0 X12_closesOne_0
  exact li_X12_closesOne_2 (fun hR => li_X12_closesOne_26 (fun hR => li_X12_closesOne_56 fuel9 hR) fuel9 hR) fuel9 hR
theorem li_X12_closesOne {a1 : Int} {r : Rst} {m : Mem} (hR : Rp r m) : LiR (G_closesOne a1 r) (X12_closesOne 10 a1 m) m := li_X12_closesOne_0 hR
theorem li_X12_closes_25 : ∀ (n : Nat) {r : Rst} {m : Mem}, Rp r m → LiR (G_closes_25 n r) (X12_closes_25 n 10 m) m := by
  intro n
  induction n with
  | zero =>
    intro r m hR
    exact Li_none
  | succ n ih =>
    intro r m hR
    rw [G_closes_25, X12_closes_25]
    refine Li_chkX ((by decide)) ?_
    refine Li_ite (by simp only [ss_82 hR]) ?_ ?_
    · exact Li_ret rfl hR
    · refine Li_chk (fun c1 => (by simp only [ss_82 hR]; exact c1)) (fun _ => ?_)
      refine Li_sts hR (j := 82) rfl (by decide) rfl (by simp only [ss_82 hR]) (fun r2 m3 hR4 => ?_)
      refine Li_chk (fun ⟨c5, c6⟩ => ⟨(by simp only [pp_81 hR4]; decide), (by simp only [ss_82 hR4]; exact c5), (by simp only [ss_82 hR4]; exact c6)⟩) (fun _ => ?_)
      refine Li_cal (by simp only [aa_81 hR4, pp_81 hR4, ss_82 hR4]; exact li_X12_closesOne hR4) (fun v8 r7 m9 hR10 => ?_)
      exact ih hR10
theorem li_X12_closes_0 {l1 : Int} {r : Rst} {m : Mem} (hR : Rp r m) : LiR (G_closes_0 l1 r) (X12_closes_0 10 l1 m) m := by
  unfold G_closes_0 X12_closes_0
  refine Li_chkX ((by decide)) ?_
  refine Li_sts hR (j := 82) rfl (by decide) rfl rfl (fun r1 m2 hR3 => ?_)
  refine Li_chk (fun ⟨c4, c5⟩ => ⟨(by simp only [pp_81 hR3]; decide), (by simp only [ss_82 hR3]; exact c4), (by simp only [ss_82 hR3]; exact c5)⟩) (fun _ => ?_)
  refine Li_sta hR3 (j := 81) rfl (by decide) (pp_81 hR3) (by simp only [ss_82 hR3]) rfl (fun r6 m7 hR8 => ?_)
  refine Li_chk (fun c9 => (by simp only [ss_82 hR8]; exact c9)) (fun _ => ?_)
  refine Li_sts hR8 (j := 82) rfl (by decide) rfl (by simp only [ss_82 hR8]) (fun r10 m11 hR12 => ?_)
  exact li_X12_closes_25 fuel9 hR12
theorem li_X12_closes {a1 : Int} {r : Rst} {m : Mem} (hR : Rp r m) : LiR (G_closes a1 r) (X12_closes 10 a1 m) m := li_X12_closes_0 hR
theorem li_X12_over_94 {l1 : Int} {r : Rst} {m : Mem} (hR : Rp r m) : LiR (G_over_94 l1 r) (X12_over_94 10 l1 m) m := by
  unfold G_over_94 X12_over_94
  refine Li_chkX ((by decide)) ?_
  refine Li_ite (by simp only [ss_47 hR]) ?_ ?_
  · exact Li_ret rfl hR
  · refine Li_cal (li_X12_happens hR) (fun v2 r1 m3 hR4 => ?_)
    refine Li_ite Iff.rfl ?_ ?_
    · exact Li_ret rfl hR4
    · exact Li_ret rfl hR4
theorem li_X12_over_39 {k94 : Int → Rst → Option G2} {k94' : Int → Int → Mem → Option R2} (hk94 : ∀ {l1 : Int} {r : Rst} {m : Mem}, Rp r m → LiR (k94 l1 r) (k94' 10 l1 m) m) : ∀ (n : Nat) {l1 l5 : Int} {r : Rst} {m : Mem}, Rp r m → LiR (G_over_39 k94 n l1 l5 r) (X12_over_39 k94' n 10 l1 l5 m) m := by
  intro n
  induction n with
  | zero =>
    intro l1 l5 r m hR
    exact Li_none
  | succ n ih =>
    intro l1 l5 r m hR
    rw [G_over_39, X12_over_39]
    refine Li_chkX ((by decide)) ?_
    refine Li_ite (by simp only [ss_68 hR]) ?_ ?_
    · exact hk94 hR
    · refine Li_chk (fun ⟨c1, c2⟩ => ⟨(by simp only [pp_67 hR]; decide), c1, c2⟩) (fun _ => ?_)
      refine Li_ite (by simp only [aa_67 hR, pp_67 hR]) ?_ ?_
      · refine Li_chk (fun ⟨c4, c5⟩ => ⟨(by simp only [pp_65 hR]; decide), c4, c5⟩) (fun _ => ?_)
        refine Li_chk (fun ⟨c6, c7⟩ => ⟨(by simp only [pp_66 hR]; decide), c6, c7⟩) (fun _ => ?_)
        refine Li_cal (by simp only [aa_65 hR, aa_66 hR, pp_65 hR, pp_66 hR]; exact li_X12_happens hR) (fun v9 r8 m10 hR11 => ?_)
        refine Li_ite Iff.rfl ?_ ?_
        · refine Li_chk (fun c12 => c12) (fun _ => ?_)
          exact ih hR11
        · refine Li_chk (fun c13 => c13) (fun _ => ?_)
          exact ih hR11
      · refine Li_chk (fun c3 => c3) (fun _ => ?_)
        exact ih hR
theorem li_X12_over_166 {s0 s1 s2 s3 : Int} {r : Rst} {m : Mem} (hR : Rp r m) : LiR (G_over_166 s0 s1 s2 s3 r) (X12_over_166 s0 s1 s2 s3 10 m) m := by
  unfold G_over_166 X12_over_166
  refine Li_chkX ((by decide)) ?_
  refine Li_cal (li_X12_happens hR) (fun v2 r1 m3 hR4 => ?_)
  exact Li_ret rfl hR4
theorem li_X12_over_0 {l1 l2 l3 : Int} {r : Rst} {m : Mem} (hR : Rp r m) : LiR (G_over_0 l1 l2 l3 r) (X12_over_0 10 l1 l2 l3 m) m := by
  unfold G_over_0 X12_over_0
  refine Li_chkX ((by decide)) ?_
  refine Li_cal (li_X12_rowOfRun hR) (fun v2 r1 m3 hR4 => ?_)
  refine Li_chk (fun ⟨c5, c6⟩ => ⟨(by simp only [pp_17 hR]; decide), c5, c6⟩) (fun _ => ?_)
  refine Li_sta hR4 (j := 17) rfl (by decide) (pp_17 hR) rfl rfl (fun r7 m8 hR9 => ?_)
  refine Li_cal (li_X12_closes hR9) (fun v11 r10 m12 hR13 => ?_)
  refine Li_chk (fun ⟨c14, c15⟩ => ⟨(by simp only [pp_9 hR13]; decide), c14, c15⟩) (fun _ => ?_)
  refine Li_ite Iff.rfl ?_ ?_
  · refine Li_cal (li_X12_beginsRun hR13) (fun v23 r22 m24 hR25 => ?_)
    exact li_X12_over_39 (fun hR => li_X12_over_94 hR) fuel9 hR25
  · refine Li_ite (by simp only [aa_9 hR13, pp_9 hR13]) ?_ ?_
    · exact Li_ret rfl hR13
    · refine Li_chk (fun ⟨c16, c17⟩ => ⟨(by simp only [pp_12 hR13]; decide), (by simp only [aa_9 hR13, pp_9 hR13]; exact c16), (by simp only [aa_9 hR13, pp_9 hR13]; exact c17)⟩) (fun _ => ?_)
      refine Li_chk (fun ⟨c18, c19⟩ => ⟨(by simp only [pp_10 hR13]; decide), c18, c19⟩) (fun _ => ?_)
      refine Li_ite (by simp only [aa_10 hR13, aa_12 hR13, aa_9 hR13, pp_10 hR13, pp_12 hR13, pp_9 hR13]) ?_ ?_
      · refine Li_chk (fun ⟨c20, c21⟩ => ⟨(by simp only [pp_11 hR13]; decide), c20, c21⟩) (fun _ => ?_)
        refine Li_ite Iff.rfl ?_ ?_
        · simp only [aa_11 hR13, aa_9 hR13, pp_11 hR13, pp_9 hR13]
          exact li_X12_over_166 hR13
        · simp only [aa_11 hR13, aa_9 hR13, pp_11 hR13, pp_9 hR13]
          exact li_X12_over_166 hR13
      · exact Li_ret rfl hR13
theorem li_X12_over {a1 a2 a3 : Int} {r : Rst} {m : Mem} (hR : Rp r m) : LiR (G_over a1 a2 a3 r) (X12_over 10 a1 a2 a3 m) m := li_X12_over_0 hR
theorem li_X12_does_191 : ∀ (n : Nat) {l1 l3 : Int} {r : Rst} {m : Mem}, Rp r m → LiR (G_does_191 n l1 l3 r) (X12_does_191 n 10 l1 l3 m) m := by
  intro n
  induction n with
  | zero =>
    intro l1 l3 r m hR
    exact Li_none
  | succ n ih =>
    intro l1 l3 r m hR
    rw [G_does_191, X12_does_191]
    refine Li_chkX ((by decide)) ?_
    refine Li_chk (fun ⟨c1, c2⟩ => ⟨(by simp only [pp_32 hR]; decide), c1, c2⟩) (fun _ => ?_)
    refine Li_ite (by simp only [aa_32 hR, pp_32 hR]) ?_ ?_
    · exact Li_ret rfl hR
    · refine Li_chk (fun c3 => c3) (fun _ => ?_)
      refine Li_chk (fun c4 => c4) (fun _ => ?_)
      refine Li_chk (fun ⟨c5, c6⟩ => ⟨(by simp only [pp_33 hR]; decide), c5, c6⟩) (fun _ => ?_)
      refine Li_ite (by simp only [aa_33 hR, pp_33 hR]) ?_ ?_
      · refine Li_cal (li_X12_happens hR) (fun v9 r8 m10 hR11 => ?_)
        refine Li_ite Iff.rfl ?_ ?_
        · refine Li_chk (fun c12 => c12) (fun _ => ?_)
          exact ih hR11
        · refine Li_chk (fun c13 => c13) (fun _ => ?_)
          exact ih hR11
      · refine Li_chk (fun c7 => c7) (fun _ => ?_)
        exact ih hR
theorem li_X12_does_165 {l1 l2 : Int} {r : Rst} {m : Mem} (hR : Rp r m) : LiR (G_does_165 l1 l2 r) (X12_does_165 10 l1 l2 m) m := by
  unfold G_does_165 X12_does_165
  refine Li_chkX ((by decide)) ?_
  refine Li_ite (by simp only [ss_42 hR]) ?_ ?_
  · refine Li_cal (by simp only [ss_49 hR, ss_50 hR]; exact li_X12_over hR) (fun v2 r1 m3 hR4 => ?_)
    exact Li_ret rfl hR4
  · exact li_X12_does_191 fuel9 hR
theorem li_X12_does_9 {k165 : Int → Int → Rst → Option G2} {k165' : Int → Int → Int → Mem → Option R2} (hk165 : ∀ {l1 l2 : Int} {r : Rst} {m : Mem}, Rp r m → LiR (k165 l1 l2 r) (k165' 10 l1 l2 m) m) : ∀ (n : Nat) {l1 l2 l3 : Int} {r : Rst} {m : Mem}, Rp r m → LiR (G_does_9 k165 n l1 l2 l3 r) (X12_does_9 k165' n 10 l1 l2 l3 m) m := by
  intro n
  induction n with
  | zero =>
    intro l1 l2 l3 r m hR
    exact Li_none
  | succ n ih =>
    intro l1 l2 l3 r m hR
    rw [G_does_9, X12_does_9]
    refine Li_chkX ((by decide)) ?_
    refine Li_ite (by simp only [ss_76 hR]) ?_ ?_
    · exact hk165 hR
    · refine Li_chk (fun ⟨c1, c2⟩ => ⟨(by simp only [pp_72 hR]; decide), c1, c2⟩) (fun _ => ?_)
      refine Li_ite (by simp only [aa_72 hR, pp_72 hR]) ?_ ?_
      · refine Li_chk (fun ⟨c3, c4⟩ => ⟨(by simp only [pp_74 hR]; decide), c3, c4⟩) (fun _ => ?_)
        refine Li_cal (by simp only [aa_74 hR, pp_74 hR]; exact li_X12_putsActivity hR) (fun v6 r5 m7 hR8 => ?_)
        refine Li_chk (fun c9 => c9) (fun _ => ?_)
        exact ih hR8
      refine Li_ite (by simp only [aa_72 hR, pp_72 hR]) ?_ ?_
      · refine Li_chk (fun ⟨c10, c11⟩ => ⟨(by simp only [pp_73 hR]; decide), c10, c11⟩) (fun _ => ?_)
        refine Li_cal (by simp only [aa_73 hR, pp_73 hR]; exact li_X12_takesOff hR) (fun v13 r12 m14 hR15 => ?_)
        refine Li_chk (fun c16 => c16) (fun _ => ?_)
        exact ih hR15
      refine Li_ite (by simp only [aa_72 hR, pp_72 hR]) ?_ ?_
      · refine Li_chk (fun ⟨c17, c18⟩ => ⟨(by simp only [pp_73 hR]; decide), c17, c18⟩) (fun _ => ?_)
        refine Li_cal (by simp only [aa_73 hR, pp_73 hR]; exact li_X12_setsTimer_ hR) (fun v20 r19 m21 hR22 => ?_)
        refine Li_chk (fun c23 => c23) (fun _ => ?_)
        exact ih hR22
      refine Li_ite (by simp only [aa_72 hR, pp_72 hR]) ?_ ?_
      · refine Li_chk (fun ⟨c24, c25⟩ => ⟨(by simp only [pp_73 hR]; decide), c24, c25⟩) (fun _ => ?_)
        refine Li_cal (by simp only [aa_73 hR, pp_73 hR]; exact li_X12_setsTimer_ hR) (fun v27 r26 m28 hR29 => ?_)
        refine Li_chk (fun c30 => c30) (fun _ => ?_)
        exact ih hR29
      refine Li_ite (by simp only [aa_72 hR, pp_72 hR]) ?_ ?_
      · refine Li_cal (li_X12_makesChild hR) (fun v32 r31 m33 hR34 => ?_)
        refine Li_chk (fun c35 => c35) (fun _ => ?_)
        exact ih hR34
      refine Li_ite (by simp only [aa_72 hR, pp_72 hR]) ?_ ?_
      · refine Li_chk (fun c36 => c36) (fun _ => ?_)
        exact ih hR
      refine Li_ite (by simp only [aa_72 hR, pp_72 hR]) ?_ ?_
      · refine Li_chk (fun c37 => c37) (fun _ => ?_)
        refine Li_chk (fun ⟨c38, c39⟩ => ⟨(by simp only [pp_73 hR]; decide), c38, c39⟩) (fun _ => ?_)
        refine Li_chk (fun c40 => (by simp only [aa_73 hR, pp_73 hR]; exact c40)) (fun _ => ?_)
        refine Li_chk (fun ⟨c41, c42⟩ => ⟨(by simp only [pp_74 hR]; decide), c41, c42⟩) (fun _ => ?_)
        refine Li_chk (fun ⟨c43, c44⟩ => ⟨(by simp only [pp_13 hR]; decide), (by simp only [aa_73 hR, pp_73 hR]; exact c43), (by simp only [aa_73 hR, pp_73 hR]; exact c44)⟩) (fun _ => ?_)
        refine Li_sta hR (j := 13) rfl (by decide) (pp_13 hR) (by simp only [aa_73 hR, pp_73 hR]) (by simp only [aa_74 hR, pp_74 hR]) (fun r45 m46 hR47 => ?_)
        refine Li_chk (fun c48 => c48) (fun _ => ?_)
        exact ih hR47
      refine Li_ite (by simp only [aa_72 hR, pp_72 hR]) ?_ ?_
      · refine Li_chk (fun ⟨c49, c50⟩ => ⟨(by simp only [pp_74 hR]; decide), c49, c50⟩) (fun _ => ?_)
        refine Li_cal (by simp only [aa_74 hR, pp_74 hR]; exact li_X12_putsActivity hR) (fun v52 r51 m53 hR54 => ?_)
        refine Li_chk (fun c55 => c55) (fun _ => ?_)
        exact ih hR54
      refine Li_chk (fun c56 => c56) (fun _ => ?_)
      exact ih hR
theorem li_X12_does_0 {l1 : Int} {r : Rst} {m : Mem} (hR : Rp r m) : LiR (G_does_0 l1 r) (X12_does_0 10 l1 m) m := by
  unfold G_does_0 X12_does_0
  refine Li_chkX ((by decide)) ?_
  refine Li_chk (fun ⟨c1, c2⟩ => ⟨(by simp only [pp_32 hR]; decide), c1, c2⟩) (fun _ => ?_)
  simp only [aa_32 hR, pp_32 hR]
  exact li_X12_does_9 (fun hR => li_X12_does_165 hR) fuel9 hR
theorem li_X12_does {a1 : Int} {r : Rst} {m : Mem} (hR : Rp r m) : LiR (G_does a1 r) (X12_does 10 a1 m) m := li_X12_does_0 hR
theorem li_X12_decide_265 {l1 : Int} {r : Rst} {m : Mem} (hR : Rp r m) : LiR (G_decide_265 l1 r) (X12_decide_265 10 l1 m) m := by
  unfold G_decide_265 X12_decide_265
  refine Li_chkX ((by decide)) ?_
  refine Li_cal (li_X12_does hR) (fun v2 r1 m3 hR4 => ?_)
  exact Li_ret (by simp only [ss_76 hR]) hR4
theorem li_X12_decide_224 {k265 : Int → Rst → Option G2} {k265' : Int → Int → Mem → Option R2} (hk265 : ∀ {l1 : Int} {r : Rst} {m : Mem}, Rp r m → LiR (k265 l1 r) (k265' 10 l1 m) m) : ∀ (n : Nat) {l1 l7 : Int} {r : Rst} {m : Mem}, Rp r m → LiR (G_decide_224 k265 n l1 l7 r) (X12_decide_224 k265' n 10 l1 l7 m) m := by
  intro n
  induction n with
  | zero =>
    intro l1 l7 r m hR
    exact Li_none
  | succ n ih =>
    intro l1 l7 r m hR
    rw [G_decide_224, X12_decide_224]
    refine Li_chkX ((by decide)) ?_
    refine Li_ite (by simp only [ss_76 hR]) ?_ ?_
    · exact hk265 hR
    · refine Li_chk (fun ⟨c1, c2⟩ => ⟨(by simp only [pp_72 hR]; decide), c1, c2⟩) (fun _ => ?_)
      refine Li_chk (fun ⟨c3, c4⟩ => ⟨(by simp only [pp_73 hR]; decide), c3, c4⟩) (fun _ => ?_)
      refine Li_chk (fun ⟨c5, c6⟩ => ⟨(by simp only [pp_74 hR]; decide), c5, c6⟩) (fun _ => ?_)
      refine Li_cal (by simp only [aa_72 hR, aa_73 hR, aa_74 hR, pp_72 hR, pp_73 hR, pp_74 hR]; exact li_X12_writes hR) (fun v8 r7 m9 hR10 => ?_)
      refine Li_chk (fun c11 => c11) (fun _ => ?_)
      exact ih hR10
theorem li_X12_decide_211 {l1 l2 s0 s1 : Int} {r : Rst} {m : Mem} (hR : Rp r m) : LiR (G_decide_211 l1 l2 s0 s1 r) (X12_decide_211 10 l1 l2 s0 s1 25 m) m := by
  unfold G_decide_211 X12_decide_211
  refine Li_chk (fun ⟨c1, c2⟩ => ⟨(by decide), c1, c2⟩) (fun _ => ?_)
  refine Li_sta hR (j := 15) rfl (by decide) rfl rfl rfl (fun r3 m4 hR5 => ?_)
  refine Li_chkX ((by decide)) ?_
  refine Li_cal (li_X12_writes hR5) (fun v7 r6 m8 hR9 => ?_)
  exact li_X12_decide_224 (fun hR => li_X12_decide_265 hR) fuel9 hR9
theorem li_X12_decide_191 {l1 l2 : Int} {r : Rst} {m : Mem} (hR : Rp r m) : LiR (G_decide_191 l1 l2 r) (X12_decide_191 10 l1 l2 m) m := by
  unfold G_decide_191 X12_decide_191
  refine Li_chkX ((by decide)) ?_
  refine Li_ite (by simp only [ss_42 hR]) ?_ ?_
  · simp only [pp_15 hR, ss_40 hR]
    exact li_X12_decide_211 hR
  · simp only [pp_15 hR]
    exact li_X12_decide_211 hR
theorem li_X12_decide_158 {l1 l2 s0 : Int} {r : Rst} {m : Mem} (hR : Rp r m) : LiR (G_decide_158 l1 l2 s0 r) (X12_decide_158 10 l1 l2 s0 m) m := by
  unfold G_decide_158 X12_decide_158
  refine Li_ite Iff.rfl ?_ ?_
  · refine Li_chkX ((by decide)) ?_
    refine Li_chk (fun ⟨c1, c2⟩ => ⟨(by simp only [pp_14 hR]; decide), c1, c2⟩) (fun _ => ?_)
    refine Li_sta hR (j := 14) rfl (by decide) (pp_14 hR) rfl (by simp only [ss_41 hR]) (fun r3 m4 hR5 => ?_)
    exact li_X12_decide_191 hR5
  · refine Li_chkX ((by decide)) ?_
    refine Li_sts hR (j := 76) rfl (by decide) rfl rfl (fun r6 m7 hR8 => ?_)
    refine Li_cal (li_X12_ends hR8) (fun v10 r9 m11 hR12 => ?_)
    exact li_X12_decide_191 hR12
theorem li_X12_decide_150 {l1 l2 s0 s1 : Int} {r : Rst} {m : Mem} (hR : Rp r m) : LiR (G_decide_150 l1 l2 s0 s1 r) (X12_decide_150 10 l1 l2 s0 s1 m) m := by
  unfold G_decide_150 X12_decide_150
  refine Li_ite Iff.rfl ?_ ?_
  · exact li_X12_decide_158 hR
  · exact li_X12_decide_158 hR
theorem li_X12_decide_55 {l1 l2 s0 : Int} {r : Rst} {m : Mem} (hR : Rp r m) : LiR (G_decide_55 l1 l2 s0 r) (X12_decide_55 10 l1 l2 s0 10 m) m := by
  unfold G_decide_55 X12_decide_55
  refine Li_chkX ((by decide)) ?_
  refine Li_cal (li_X12_isFine hR) (fun v2 r1 m3 hR4 => ?_)
  refine Li_ite Iff.rfl ?_ ?_
  · exact Li_ret rfl hR4
  · refine Li_chkX ((by decide)) ?_
    refine Li_cal (li_X12_isDueNow hR4) (fun v6 r5 m7 hR8 => ?_)
    refine Li_ite Iff.rfl ?_ ?_
    · exact Li_ret rfl hR8
    · refine Li_cal (li_X12_plays hR8) (fun v10 r9 m11 hR12 => ?_)
      refine Li_ite Iff.rfl ?_ ?_
      · exact Li_ret rfl hR12
      · refine Li_cal (li_X12_rowOfRun hR12) (fun v14 r13 m15 hR16 => ?_)
        refine Li_sts hR16 (j := 80) rfl (by decide) rfl rfl (fun r17 m18 hR19 => ?_)
        refine Li_chk (fun c20 => c20) (fun _ => ?_)
        refine Li_chk (fun ⟨c21, c22⟩ => ⟨(by simp only [pp_18 hR19]; decide), c21, c22⟩) (fun _ => ?_)
        refine Li_chk (fun c23 => (by simp only [aa_18 hR19, pp_18 hR19]; exact c23)) (fun _ => ?_)
        refine Li_cal (by simp only [aa_18 hR19, pp_18 hR19]; exact li_X12_takesAll hR19) (fun v25 r24 m26 hR27 => ?_)
        refine Li_chk (fun ⟨c28, c29⟩ => ⟨(by simp only [pp_18 hR27]; decide), c28, c29⟩) (fun _ => ?_)
        refine Li_chk (fun c30 => (by simp only [aa_18 hR27, pp_18 hR27]; exact c30)) (fun _ => ?_)
        refine Li_chk (fun c31 => (by simp only [aa_18 hR27, pp_18 hR27, ss_76 hR27]; exact c31)) (fun _ => ?_)
        refine Li_ite (by simp only [ss_42 hR27]) ?_ ?_
        · simp only [aa_18 hR27, pp_18 hR27, ss_76 hR27]
          exact li_X12_decide_150 hR27
        · simp only [aa_18 hR27, pp_18 hR27, ss_76 hR27]
          exact li_X12_decide_150 hR27
theorem li_X12_decide_32 {l1 l2 s0 : Int} {r : Rst} {m : Mem} (hR : Rp r m) : LiR (G_decide_32 l1 l2 s0 r) (X12_decide_32 10 l1 l2 s0 m) m := by
  unfold G_decide_32 X12_decide_32
  refine Li_ite Iff.rfl ?_ ?_
  · exact li_X12_decide_55 hR
  · refine Li_chkX ((by decide)) ?_
    refine Li_cal (li_X12_isRunning hR) (fun v2 r1 m3 hR4 => ?_)
    refine Li_ite Iff.rfl ?_ ?_
    · exact li_X12_decide_55 hR4
    · exact li_X12_decide_55 hR4
theorem li_X12_decide_0 {l1 l2 : Int} {r : Rst} {m : Mem} (hR : Rp r m) : LiR (G_decide_0 l1 l2 r) (X12_decide_0 10 l1 l2 m) m := by
  unfold G_decide_0 X12_decide_0
  refine Li_chkX ((by decide)) ?_
  refine Li_cal (li_X12_isFlow hR) (fun v2 r1 m3 hR4 => ?_)
  refine Li_ite Iff.rfl ?_ ?_
  · exact li_X12_decide_32 hR4
  · refine Li_chk (fun ⟨c5, c6⟩ => ⟨(by simp only [pp_7 hR4]; decide), c5, c6⟩) (fun _ => ?_)
    refine Li_chk (fun ⟨c7, c8⟩ => ⟨(by simp only [pp_6 hR4]; decide), (by simp only [aa_7 hR4, pp_7 hR4]; exact c7), (by simp only [aa_7 hR4, pp_7 hR4]; exact c8)⟩) (fun _ => ?_)
    refine Li_cal (by simp only [aa_6 hR4, aa_7 hR4, pp_6 hR4, pp_7 hR4]; exact li_X12_isIn hR4) (fun v10 r9 m11 hR12 => ?_)
    refine Li_ite Iff.rfl ?_ ?_
    · exact li_X12_decide_32 hR12
    · exact li_X12_decide_32 hR12
theorem li_X12_decide {a1 a2 : Int} {r : Rst} {m : Mem} (hR : Rp r m) : LiR (G_decide a1 a2 r) (X12_decide 10 a1 a2 m) m := li_X12_decide_0 hR
theorem li_X12_setRate_27 {l1 l2 s0 : Int} {r : Rst} {m : Mem} (hR : Rp r m) : LiR (G_setRate_27 l1 l2 s0 r) (X12_setRate_27 10 l1 l2 s0 10 m) m := by
  unfold G_setRate_27 X12_setRate_27
  refine Li_chkX ((by decide)) ?_
  refine Li_cal (li_X12_isFine hR) (fun v2 r1 m3 hR4 => ?_)
  refine Li_ite Iff.rfl ?_ ?_
  · exact Li_ret rfl hR4
  · refine Li_chkX ((by decide)) ?_
    refine Li_chk (fun ⟨c5, c6⟩ => ⟨(by simp only [pp_35 hR4]; decide), c5, c6⟩) (fun _ => ?_)
    refine Li_chk (fun ⟨c7, c8⟩ => ⟨c7, c8⟩) (fun _ => ?_)
    refine Li_sta hR4 (j := 35) rfl (by decide) (pp_35 hR4) rfl rfl (fun r9 m10 hR11 => ?_)
    exact Li_ret (by simp only [aa_35 hR4, pp_35 hR4]) hR11
theorem li_X12_setRate_0 {l1 l2 : Int} {r : Rst} {m : Mem} (hR : Rp r m) : LiR (G_setRate_0 l1 l2 r) (X12_setRate_0 10 l1 l2 m) m := by
  unfold G_setRate_0 X12_setRate_0
  refine Li_cal (li_X12_isQueue hR) (fun v2 r1 m3 hR4 => ?_)
  refine Li_ite Iff.rfl ?_ ?_
  · exact li_X12_setRate_27 hR4
  · refine Li_cal (li_X12_isIn hR4) (fun v6 r5 m7 hR8 => ?_)
    refine Li_ite Iff.rfl ?_ ?_
    · exact li_X12_setRate_27 hR8
    · exact li_X12_setRate_27 hR8
theorem li_X12_setRate {a1 a2 : Int} {r : Rst} {m : Mem} (hR : Rp r m) : LiR (G_setRate a1 a2 r) (X12_setRate 10 a1 a2 m) m := li_X12_setRate_0 hR
theorem li_X12_told_0 {l1 : Int} {r : Rst} {m : Mem} (hR : Rp r m) : LiR (G_told_0 l1 r) (X12_told_0 10 l1 m) m := by
  unfold G_told_0 X12_told_0
  refine Li_chk (fun c1 => c1) (fun _ => ?_)
  refine Li_chk (fun c2 => c2) (fun _ => ?_)
  refine Li_chkX ((by decide)) ?_
  refine Li_chk (fun ⟨c3, c4⟩ => ⟨(by simp only [pp_12 hR]; decide), c3, c4⟩) (fun _ => ?_)
  refine Li_chk (fun c5 => (by simp only [aa_12 hR, pp_12 hR]; exact c5)) (fun _ => ?_)
  refine Li_chk (fun c6 => (by simp only [aa_12 hR, pp_12 hR]; exact c6)) (fun _ => ?_)
  refine Li_chk (fun c7 => c7) (fun _ => ?_)
  refine Li_chk (fun c8 => (by simp only [aa_12 hR, pp_12 hR]; exact c8)) (fun _ => ?_)
  exact Li_ret (by simp only [aa_12 hR, pp_12 hR]) hR
theorem li_X12_told {a1 : Int} {r : Rst} {m : Mem} (hR : Rp r m) : LiR (G_told a1 r) (X12_told 10 a1 m) m := li_X12_told_0 hR
theorem li_X12_isAhead_0 {l1 l2 l3 : Int} {r : Rst} {m : Mem} (hR : Rp r m) : LiR (G_isAhead_0 l1 l2 l3 r) (X12_isAhead_0 10 l1 l2 l3 m) m := by
  unfold G_isAhead_0 X12_isAhead_0
  refine Li_chkX ((by decide)) ?_
  refine Li_chk (fun c1 => c1) (fun _ => ?_)
  refine Li_chk (fun c2 => c2) (fun _ => ?_)
  refine Li_chk (fun ⟨c3, c4⟩ => ⟨(by simp only [pp_8 hR]; decide), c3, c4⟩) (fun _ => ?_)
  refine Li_chk (fun c5 => (by simp only [aa_8 hR, pp_8 hR]; exact c5)) (fun _ => ?_)
  refine Li_chk (fun ⟨c6, c7⟩ => ⟨(by simp only [pp_37 hR]; decide), (by simp only [aa_8 hR, pp_8 hR]; exact c6), (by simp only [aa_8 hR, pp_8 hR]; exact c7)⟩) (fun _ => ?_)
  refine Li_chk (fun c8 => c8) (fun _ => ?_)
  refine Li_chk (fun c9 => c9) (fun _ => ?_)
  refine Li_chk (fun ⟨c10, c11⟩ => ⟨c10, c11⟩) (fun _ => ?_)
  refine Li_chk (fun c12 => (by simp only [aa_8 hR, pp_8 hR]; exact c12)) (fun _ => ?_)
  refine Li_chk (fun ⟨c13, c14⟩ => ⟨(by simp only [aa_8 hR, pp_8 hR]; exact c13), (by simp only [aa_8 hR, pp_8 hR]; exact c14)⟩) (fun _ => ?_)
  refine Li_chk (fun c15 => c15) (fun _ => ?_)
  refine Li_chk (fun ⟨c16, c17⟩ => ⟨c16, c17⟩) (fun _ => ?_)
  refine Li_chk (fun c18 => c18) (fun _ => ?_)
  refine Li_chk (fun ⟨c19, c20⟩ => ⟨c19, c20⟩) (fun _ => ?_)
  refine Li_ite (by simp only [aa_8 hR, pp_8 hR]) ?_ ?_
  · refine Li_chk (fun ⟨c21, c22⟩ => ⟨(by simp only [pp_26 hR]; decide), c21, c22⟩) (fun _ => ?_)
    refine Li_chk (fun ⟨c23, c24⟩ => ⟨c23, c24⟩) (fun _ => ?_)
    refine Li_ite (by simp only [aa_26 hR, pp_26 hR]) ?_ ?_
    · exact Li_ret rfl hR
    · refine Li_chk (fun ⟨c25, c26⟩ => ⟨c25, c26⟩) (fun _ => ?_)
      refine Li_chk (fun ⟨c27, c28⟩ => ⟨c27, c28⟩) (fun _ => ?_)
      refine Li_ite (by simp only [aa_26 hR, pp_26 hR]) ?_ ?_
      · refine Li_chk (fun ⟨c29, c30⟩ => ⟨(by simp only [pp_28 hR]; decide), c29, c30⟩) (fun _ => ?_)
        refine Li_chk (fun ⟨c31, c32⟩ => ⟨c31, c32⟩) (fun _ => ?_)
        refine Li_ite (by simp only [aa_28 hR, pp_28 hR]) ?_ ?_
        · exact Li_ret rfl hR
        · exact Li_ret rfl hR
      · exact Li_ret rfl hR
  · refine Li_ite (by simp only [aa_37 hR, aa_8 hR, pp_37 hR, pp_8 hR]) ?_ ?_
    · exact Li_ret rfl hR
    · refine Li_ite (by simp only [aa_37 hR, aa_8 hR, pp_37 hR, pp_8 hR]) ?_ ?_
      · refine Li_chk (fun c33 => c33) (fun _ => ?_)
        refine Li_chk (fun ⟨c34, c35⟩ => ⟨c34, c35⟩) (fun _ => ?_)
        refine Li_chk (fun c36 => c36) (fun _ => ?_)
        refine Li_chk (fun ⟨c37, c38⟩ => ⟨c37, c38⟩) (fun _ => ?_)
        refine Li_ite (by simp only [aa_8 hR, pp_8 hR]) ?_ ?_
        · exact Li_ret rfl hR
        · exact Li_ret rfl hR
      · exact Li_ret rfl hR
theorem li_X12_isAhead {a1 a2 a3 : Int} {r : Rst} {m : Mem} (hR : Rp r m) : LiR (G_isAhead a1 a2 a3 r) (X12_isAhead 10 a1 a2 a3 m) m := Li_bool (li_X12_isAhead_0 hR)
theorem li_X12_isReady_0 {l1 l2 : Int} {r : Rst} {m : Mem} (hR : Rp r m) : LiR (G_isReady_0 l1 l2 r) (X12_isReady_0 10 l1 l2 m) m := by
  unfold G_isReady_0 X12_isReady_0
  refine Li_chk (fun c1 => c1) (fun _ => ?_)
  refine Li_chkX ((by decide)) ?_
  refine Li_chk (fun c2 => c2) (fun _ => ?_)
  refine Li_chk (fun ⟨c3, c4⟩ => ⟨(by simp only [pp_22 hR]; decide), c3, c4⟩) (fun _ => ?_)
  refine Li_ite (by simp only [aa_22 hR, pp_22 hR]) ?_ ?_
  · exact Li_ret rfl hR
  · refine Li_chk (fun ⟨c5, c6⟩ => ⟨(by simp only [pp_23 hR]; decide), c5, c6⟩) (fun _ => ?_)
    refine Li_ite (by simp only [aa_23 hR, pp_23 hR]) ?_ ?_
    · refine Li_chk (fun ⟨c7, c8⟩ => ⟨(by simp only [pp_24 hR]; decide), c7, c8⟩) (fun _ => ?_)
      refine Li_ite (by simp only [aa_24 hR, pp_24 hR]) ?_ ?_
      · exact Li_ret rfl hR
      · exact Li_ret rfl hR
    · exact Li_ret rfl hR
theorem li_X12_isReady {a1 a2 : Int} {r : Rst} {m : Mem} (hR : Rp r m) : LiR (G_isReady a1 a2 r) (X12_isReady 10 a1 a2 m) m := Li_bool (li_X12_isReady_0 hR)
theorem li_X12_next_4 : ∀ (n : Nat) {l1 l2 l3 : Int} {r : Rst} {m : Mem}, Rp r m → LiR (G_next_4 n l1 l2 l3 r) (X12_next_4 n 10 l1 l2 l3 m) m := by
  intro n
  induction n with
  | zero =>
    intro l1 l2 l3 r m hR
    exact Li_none
  | succ n ih =>
    intro l1 l2 l3 r m hR
    rw [G_next_4, X12_next_4]
    refine Li_chkX ((by decide)) ?_
    refine Li_chk (fun c1 => (by simp only [ss_16 hR]; exact c1)) (fun _ => ?_)
    refine Li_ite (by simp only [ss_16 hR]) ?_ ?_
    · exact Li_ret rfl hR
    · refine Li_cal (li_X12_isReady hR) (fun v3 r2 m4 hR5 => ?_)
      refine Li_ite Iff.rfl ?_ ?_
      · refine Li_chk (fun c6 => c6) (fun _ => ?_)
        exact ih hR5
      · refine Li_ite Iff.rfl ?_ ?_
        · refine Li_chk (fun c7 => c7) (fun _ => ?_)
          exact ih hR5
        · refine Li_cal (li_X12_isAhead hR5) (fun v9 r8 m10 hR11 => ?_)
          refine Li_ite Iff.rfl ?_ ?_
          · refine Li_chk (fun c12 => c12) (fun _ => ?_)
            exact ih hR11
          · refine Li_chk (fun c13 => c13) (fun _ => ?_)
            exact ih hR11
theorem li_X12_next_0 {l1 : Int} {r : Rst} {m : Mem} (hR : Rp r m) : LiR (G_next_0 l1 r) (X12_next_0 10 l1 m) m := by
  unfold G_next_0 X12_next_0
  exact li_X12_next_4 fuel9 hR
theorem li_X12_next {a1 : Int} {r : Rst} {m : Mem} (hR : Rp r m) : LiR (G_next a1 r) (X12_next 10 a1 m) m := li_X12_next_0 hR
theorem li_X12_take_85 {l1 l2 s0 : Int} {r : Rst} {m : Mem} (hR : Rp r m) : LiR (G_take_85 l1 l2 s0 r) (X12_take_85 10 l1 l2 s0 m) m := by
  unfold G_take_85 X12_take_85
  refine Li_ite Iff.rfl ?_ ?_
  · exact Li_ret rfl hR
  · refine Li_chkX ((by decide)) ?_
    refine Li_chk (fun ⟨c1, c2⟩ => ⟨(by simp only [pp_36 hR]; decide), c1, c2⟩) (fun _ => ?_)
    refine Li_chk (fun c3 => (by simp only [aa_36 hR, pp_36 hR]; exact c3)) (fun _ => ?_)
    refine Li_chk (fun ⟨c4, c5⟩ => ⟨c4, c5⟩) (fun _ => ?_)
    refine Li_sta hR (j := 36) rfl (by decide) (pp_36 hR) rfl (by simp only [aa_36 hR, pp_36 hR]) (fun r6 m7 hR8 => ?_)
    refine Li_chk (fun c9 => c9) (fun _ => ?_)
    refine Li_chk (fun c10 => c10) (fun _ => ?_)
    refine Li_chk (fun ⟨c11, c12⟩ => ⟨(by simp only [pp_8 hR8]; decide), c11, c12⟩) (fun _ => ?_)
    refine Li_chk (fun c13 => (by simp only [aa_8 hR8, pp_8 hR8]; exact c13)) (fun _ => ?_)
    refine Li_chk (fun ⟨c14, c15⟩ => ⟨(by simp only [pp_37 hR8]; decide), (by simp only [aa_8 hR8, pp_8 hR8]; exact c14), (by simp only [aa_8 hR8, pp_8 hR8]; exact c15)⟩) (fun _ => ?_)
    refine Li_chk (fun c16 => (by simp only [aa_37 hR8, aa_8 hR8, pp_37 hR8, pp_8 hR8]; exact c16)) (fun _ => ?_)
    refine Li_chk (fun ⟨c17, c18⟩ => ⟨(by simp only [aa_8 hR8, pp_8 hR8]; exact c17), (by simp only [aa_8 hR8, pp_8 hR8]; exact c18)⟩) (fun _ => ?_)
    refine Li_sta hR8 (j := 37) rfl (by decide) (pp_37 hR8) (by simp only [aa_8 hR8, pp_8 hR8]) (by simp only [aa_37 hR8, aa_8 hR8, pp_37 hR8, pp_8 hR8]) (fun r19 m20 hR21 => ?_)
    refine Li_chk (fun ⟨c22, c23⟩ => ⟨(by simp only [pp_23 hR21]; decide), c22, c23⟩) (fun _ => ?_)
    refine Li_sta hR21 (j := 23) rfl (by decide) (pp_23 hR21) rfl rfl (fun r24 m25 hR26 => ?_)
    refine Li_chk (fun ⟨c27, c28⟩ => ⟨(by simp only [pp_25 hR26]; decide), c27, c28⟩) (fun _ => ?_)
    refine Li_chk (fun c29 => (by simp only [aa_25 hR26, pp_25 hR26]; exact c29)) (fun _ => ?_)
    refine Li_chk (fun ⟨c30, c31⟩ => ⟨c30, c31⟩) (fun _ => ?_)
    refine Li_sta hR26 (j := 25) rfl (by decide) (pp_25 hR26) rfl (by simp only [aa_25 hR26, pp_25 hR26]) (fun r32 m33 hR34 => ?_)
    refine Li_chk (fun c35 => (by simp only [ss_1 hR34]; exact c35)) (fun _ => ?_)
    refine Li_chk (fun ⟨c36, c37⟩ => ⟨(by simp only [pp_27 hR34]; decide), c36, c37⟩) (fun _ => ?_)
    refine Li_sta hR34 (j := 27) rfl (by decide) (pp_27 hR34) rfl (by simp only [ss_1 hR34]) (fun r38 m39 hR40 => ?_)
    refine Li_chk (fun ⟨c41, c42⟩ => ⟨(by simp only [pp_39 hR40]; decide), c41, c42⟩) (fun _ => ?_)
    refine Li_sta hR40 (j := 39) rfl (by decide) (pp_39 hR40) rfl rfl (fun r43 m44 hR45 => ?_)
    refine Li_cal (li_X12_told hR45) (fun v47 r46 m48 hR49 => ?_)
    exact Li_ret rfl hR49
theorem li_X12_take_53 {l1 l2 s0 : Int} {r : Rst} {m : Mem} (hR : Rp r m) : LiR (G_take_53 l1 l2 s0 r) (X12_take_53 10 l1 l2 s0 10 m) m := by
  unfold G_take_53 X12_take_53
  refine Li_chkX ((by decide)) ?_
  refine Li_cal (li_X12_isFine hR) (fun v2 r1 m3 hR4 => ?_)
  refine Li_ite Iff.rfl ?_ ?_
  · exact Li_ret rfl hR4
  · refine Li_chkX ((by decide)) ?_
    refine Li_chk (fun ⟨c5, c6⟩ => ⟨(by simp only [pp_36 hR4]; decide), c5, c6⟩) (fun _ => ?_)
    refine Li_chk (fun ⟨c7, c8⟩ => ⟨(by simp only [pp_35 hR4]; decide), c7, c8⟩) (fun _ => ?_)
    refine Li_ite (by simp only [aa_35 hR4, aa_36 hR4, pp_35 hR4, pp_36 hR4]) ?_ ?_
    · exact li_X12_take_85 hR4
    · refine Li_cal (li_X12_next hR4) (fun v10 r9 m11 hR12 => ?_)
      exact li_X12_take_85 hR12
theorem li_X12_take_19 {l1 l2 s0 : Int} {r : Rst} {m : Mem} (hR : Rp r m) : LiR (G_take_19 l1 l2 s0 r) (X12_take_19 10 l1 l2 s0 m) m := by
  unfold G_take_19 X12_take_19
  refine Li_ite Iff.rfl ?_ ?_
  · exact li_X12_take_53 hR
  · refine Li_chkX ((by decide)) ?_
    refine Li_chk (fun ⟨c1, c2⟩ => ⟨(by simp only [pp_38 hR]; decide), c1, c2⟩) (fun _ => ?_)
    refine Li_ite (by simp only [aa_38 hR, pp_38 hR]) ?_ ?_
    · exact li_X12_take_53 hR
    · refine Li_chk (fun ⟨c3, c4⟩ => ⟨(by simp only [pp_39 hR]; decide), c3, c4⟩) (fun _ => ?_)
      refine Li_ite (by simp only [aa_39 hR, pp_39 hR]) ?_ ?_
      · exact li_X12_take_53 hR
      · exact li_X12_take_53 hR
theorem li_X12_take_0 {l1 l2 : Int} {r : Rst} {m : Mem} (hR : Rp r m) : LiR (G_take_0 l1 l2 r) (X12_take_0 10 l1 l2 m) m := by
  unfold G_take_0 X12_take_0
  refine Li_cal (li_X12_isWorker hR) (fun v2 r1 m3 hR4 => ?_)
  refine Li_ite Iff.rfl ?_ ?_
  · exact li_X12_take_19 hR4
  · refine Li_cal (li_X12_isQueue hR4) (fun v6 r5 m7 hR8 => ?_)
    refine Li_ite Iff.rfl ?_ ?_
    · exact li_X12_take_19 hR8
    · exact li_X12_take_19 hR8
theorem li_X12_take {a1 a2 : Int} {r : Rst} {m : Mem} (hR : Rp r m) : LiR (G_take a1 a2 r) (X12_take 10 a1 a2 m) m := li_X12_take_0 hR
theorem li_X12_has_13 {l1 s0 : Int} {r : Rst} {m : Mem} (hR : Rp r m) : LiR (G_has_13 l1 s0 r) (X12_has_13 10 l1 s0 10 m) m := by
  unfold G_has_13 X12_has_13
  refine Li_chkX ((by decide)) ?_
  refine Li_cal (li_X12_isFine hR) (fun v2 r1 m3 hR4 => ?_)
  refine Li_ite Iff.rfl ?_ ?_
  · exact Li_ret rfl hR4
  · refine Li_chkX ((by decide)) ?_
    refine Li_chk (fun ⟨c5, c6⟩ => ⟨(by simp only [pp_39 hR4]; decide), c5, c6⟩) (fun _ => ?_)
    refine Li_ite (by simp only [aa_39 hR4, pp_39 hR4]) ?_ ?_
    · exact Li_ret rfl hR4
    · refine Li_chk (fun ⟨c7, c8⟩ => ⟨c7, c8⟩) (fun _ => ?_)
      refine Li_cal (by simp only [aa_39 hR4, pp_39 hR4]; exact li_X12_told hR4) (fun v10 r9 m11 hR12 => ?_)
      exact Li_ret rfl hR12
theorem li_X12_has_0 {l1 : Int} {r : Rst} {m : Mem} (hR : Rp r m) : LiR (G_has_0 l1 r) (X12_has_0 10 l1 m) m := by
  unfold G_has_0 X12_has_0
  refine Li_cal (li_X12_isWorker hR) (fun v2 r1 m3 hR4 => ?_)
  refine Li_ite Iff.rfl ?_ ?_
  · exact li_X12_has_13 hR4
  · exact li_X12_has_13 hR4
theorem li_X12_has {a1 : Int} {r : Rst} {m : Mem} (hR : Rp r m) : LiR (G_has a1 r) (X12_has 10 a1 m) m := li_X12_has_0 hR
theorem li_X12_beat_29 {l1 s0 : Int} {r : Rst} {m : Mem} (hR : Rp r m) : LiR (G_beat_29 l1 s0 r) (X12_beat_29 10 l1 s0 10 m) m := by
  unfold G_beat_29 X12_beat_29
  refine Li_chkX ((by decide)) ?_
  refine Li_cal (li_X12_isFine hR) (fun v2 r1 m3 hR4 => ?_)
  refine Li_ite Iff.rfl ?_ ?_
  · exact Li_ret rfl hR4
  · refine Li_chkX ((by decide)) ?_
    refine Li_chk (fun ⟨c5, c6⟩ => ⟨(by simp only [pp_39 hR4]; decide), c5, c6⟩) (fun _ => ?_)
    refine Li_chk (fun c7 => (by simp only [ss_1 hR4]; exact c7)) (fun _ => ?_)
    refine Li_chk (fun ⟨c8, c9⟩ => ⟨(by simp only [pp_27 hR4]; decide), (by simp only [aa_39 hR4, pp_39 hR4]; exact c8), (by simp only [aa_39 hR4, pp_39 hR4]; exact c9)⟩) (fun _ => ?_)
    refine Li_sta hR4 (j := 27) rfl (by decide) (pp_27 hR4) (by simp only [aa_39 hR4, pp_39 hR4]) (by simp only [ss_1 hR4]) (fun r10 m11 hR12 => ?_)
    refine Li_chk (fun ⟨c13, c14⟩ => ⟨(by simp only [pp_39 hR12]; decide), c13, c14⟩) (fun _ => ?_)
    refine Li_chk (fun ⟨c15, c16⟩ => ⟨(by simp only [pp_27 hR12]; decide), (by simp only [aa_39 hR12, pp_39 hR12]; exact c15), (by simp only [aa_39 hR12, pp_39 hR12]; exact c16)⟩) (fun _ => ?_)
    exact Li_ret (by simp only [aa_27 hR12, aa_39 hR12, pp_27 hR12, pp_39 hR12]) hR12
theorem li_X12_beat_0 {l1 : Int} {r : Rst} {m : Mem} (hR : Rp r m) : LiR (G_beat_0 l1 r) (X12_beat_0 10 l1 m) m := by
  unfold G_beat_0 X12_beat_0
  refine Li_cal (li_X12_isWorker hR) (fun v2 r1 m3 hR4 => ?_)
  refine Li_ite Iff.rfl ?_ ?_
  · exact li_X12_beat_29 hR4
  · refine Li_chkX ((by decide)) ?_
    refine Li_chk (fun ⟨c5, c6⟩ => ⟨(by simp only [pp_39 hR4]; decide), c5, c6⟩) (fun _ => ?_)
    refine Li_ite (by simp only [aa_39 hR4, pp_39 hR4]) ?_ ?_
    · exact li_X12_beat_29 hR4
    · exact li_X12_beat_29 hR4
theorem li_X12_beat {a1 : Int} {r : Rst} {m : Mem} (hR : Rp r m) : LiR (G_beat a1 r) (X12_beat 10 a1 m) m := li_X12_beat_0 hR
theorem li_X12_end_40 {l1 l2 s0 : Int} {r : Rst} {m : Mem} (hR : Rp r m) : LiR (G_end_40 l1 l2 s0 r) (X12_end_40 10 l1 l2 s0 10 m) m := by
  unfold G_end_40 X12_end_40
  refine Li_chkX ((by decide)) ?_
  refine Li_cal (li_X12_isFine hR) (fun v2 r1 m3 hR4 => ?_)
  refine Li_ite Iff.rfl ?_ ?_
  · exact Li_ret rfl hR4
  · refine Li_chkX ((by decide)) ?_
    refine Li_chk (fun ⟨c5, c6⟩ => ⟨(by simp only [pp_39 hR4]; decide), c5, c6⟩) (fun _ => ?_)
    refine Li_chk (fun c7 => (by simp only [aa_39 hR4, pp_39 hR4]; exact c7)) (fun _ => ?_)
    refine Li_chk (fun c8 => (by simp only [aa_39 hR4, pp_39 hR4]; exact c8)) (fun _ => ?_)
    refine Li_cal (by simp only [aa_39 hR4, pp_39 hR4]; exact li_X12_takesOff hR4) (fun v10 r9 m11 hR12 => ?_)
    refine Li_chk (fun c13 => (by simp only [aa_39 hR4, pp_39 hR4]; exact c13)) (fun _ => ?_)
    refine Li_chk (fun c14 => (by simp only [aa_39 hR4, pp_39 hR4]; exact c14)) (fun _ => ?_)
    refine Li_cal (by simp only [aa_39 hR4, pp_39 hR4]; exact li_X12_happens hR12) (fun v16 r15 m17 hR18 => ?_)
    exact Li_ret rfl hR18
theorem li_X12_end_0 {l1 l2 : Int} {r : Rst} {m : Mem} (hR : Rp r m) : LiR (G_end_0 l1 l2 r) (X12_end_0 10 l1 l2 m) m := by
  unfold G_end_0 X12_end_0
  refine Li_cal (li_X12_isWorker hR) (fun v2 r1 m3 hR4 => ?_)
  refine Li_ite Iff.rfl ?_ ?_
  · exact li_X12_end_40 hR4
  · refine Li_cal (li_X12_isValue hR4) (fun v6 r5 m7 hR8 => ?_)
    refine Li_ite Iff.rfl ?_ ?_
    · exact li_X12_end_40 hR8
    · refine Li_chkX ((by decide)) ?_
      refine Li_chk (fun ⟨c9, c10⟩ => ⟨(by simp only [pp_39 hR8]; decide), c9, c10⟩) (fun _ => ?_)
      refine Li_ite (by simp only [aa_39 hR8, pp_39 hR8]) ?_ ?_
      · exact li_X12_end_40 hR8
      · exact li_X12_end_40 hR8
theorem li_X12_end {a1 a2 : Int} {r : Rst} {m : Mem} (hR : Rp r m) : LiR (G_end a1 a2 r) (X12_end 10 a1 a2 m) m := Li_bool (li_X12_end_0 hR)
theorem li_X12_failsTry_0 {l1 : Int} {r : Rst} {m : Mem} (hR : Rp r m) : LiR (G_failsTry_0 l1 r) (X12_failsTry_0 10 l1 m) m := by
  unfold G_failsTry_0 X12_failsTry_0
  refine Li_chkX ((by decide)) ?_
  refine Li_chk (fun ⟨c1, c2⟩ => ⟨(by simp only [pp_25 hR]; decide), c1, c2⟩) (fun _ => ?_)
  refine Li_chk (fun c3 => c3) (fun _ => ?_)
  refine Li_chk (fun c4 => c4) (fun _ => ?_)
  refine Li_cal (li_X12_takesOff hR) (fun v6 r5 m7 hR8 => ?_)
  refine Li_ite (by simp only [aa_25 hR, pp_25 hR]) ?_ ?_
  · refine Li_chk (fun c21 => c21) (fun _ => ?_)
    refine Li_chk (fun c22 => c22) (fun _ => ?_)
    refine Li_cal (li_X12_happens hR8) (fun v24 r23 m25 hR26 => ?_)
    exact Li_ret rfl hR26
  · refine Li_chk (fun ⟨c9, c10⟩ => ⟨(by simp only [pp_23 hR8]; decide), c9, c10⟩) (fun _ => ?_)
    refine Li_sta hR8 (j := 23) rfl (by decide) (pp_23 hR8) rfl rfl (fun r11 m12 hR13 => ?_)
    refine Li_chk (fun c14 => (by simp only [aa_25 hR, pp_25 hR]; exact c14)) (fun _ => ?_)
    refine Li_chk (fun c15 => (by simp only [aa_25 hR, pp_25 hR, ss_1 hR13]; exact c15)) (fun _ => ?_)
    refine Li_chk (fun ⟨c16, c17⟩ => ⟨(by simp only [pp_26 hR13]; decide), c16, c17⟩) (fun _ => ?_)
    refine Li_sta hR13 (j := 26) rfl (by decide) (pp_26 hR13) rfl (by simp only [aa_25 hR, pp_25 hR, ss_1 hR13]) (fun r18 m19 hR20 => ?_)
    exact Li_ret rfl hR20
theorem li_X12_failsTry {a1 : Int} {r : Rst} {m : Mem} (hR : Rp r m) : LiR (G_failsTry a1 r) (X12_failsTry 10 a1 m) m := li_X12_failsTry_0 hR
theorem li_X12_fail_29 {l1 s0 : Int} {r : Rst} {m : Mem} (hR : Rp r m) : LiR (G_fail_29 l1 s0 r) (X12_fail_29 10 l1 s0 10 m) m := by
  unfold G_fail_29 X12_fail_29
  refine Li_chkX ((by decide)) ?_
  refine Li_cal (li_X12_isFine hR) (fun v2 r1 m3 hR4 => ?_)
  refine Li_ite Iff.rfl ?_ ?_
  · exact Li_ret rfl hR4
  · refine Li_chkX ((by decide)) ?_
    refine Li_chk (fun ⟨c5, c6⟩ => ⟨(by simp only [pp_39 hR4]; decide), c5, c6⟩) (fun _ => ?_)
    refine Li_chk (fun ⟨c7, c8⟩ => ⟨(by simp only [pp_25 hR4]; decide), (by simp only [aa_39 hR4, pp_39 hR4]; exact c7), (by simp only [aa_39 hR4, pp_39 hR4]; exact c8)⟩) (fun _ => ?_)
    refine Li_chk (fun ⟨c9, c10⟩ => ⟨c9, c10⟩) (fun _ => ?_)
    refine Li_cal (by simp only [aa_39 hR4, pp_39 hR4]; exact li_X12_failsTry hR4) (fun v12 r11 m13 hR14 => ?_)
    exact Li_ret (by simp only [aa_25 hR4, aa_39 hR4, pp_25 hR4, pp_39 hR4]) hR14
theorem li_X12_fail_0 {l1 : Int} {r : Rst} {m : Mem} (hR : Rp r m) : LiR (G_fail_0 l1 r) (X12_fail_0 10 l1 m) m := by
  unfold G_fail_0 X12_fail_0
  refine Li_cal (li_X12_isWorker hR) (fun v2 r1 m3 hR4 => ?_)
  refine Li_ite Iff.rfl ?_ ?_
  · exact li_X12_fail_29 hR4
  · refine Li_chkX ((by decide)) ?_
    refine Li_chk (fun ⟨c5, c6⟩ => ⟨(by simp only [pp_39 hR4]; decide), c5, c6⟩) (fun _ => ?_)
    refine Li_ite (by simp only [aa_39 hR4, pp_39 hR4]) ?_ ?_
    · exact li_X12_fail_29 hR4
    · exact li_X12_fail_29 hR4
theorem li_X12_fail {a1 : Int} {r : Rst} {m : Mem} (hR : Rp r m) : LiR (G_fail a1 r) (X12_fail 10 a1 m) m := li_X12_fail_0 hR
theorem li_X12_run_56 {l1 l2 l3 s0 s1 : Int} {r : Rst} {m : Mem} (hR : Rp r m) : LiR (G_run_56 l1 l2 l3 s0 s1 r) (X12_run_56 10 l1 l2 l3 s0 s1 49 m) m := by
  unfold G_run_56 X12_run_56
  refine Li_chk (fun ⟨c1, c2⟩ => ⟨(by decide), c1, c2⟩) (fun _ => ?_)
  refine Li_sta hR (j := 39) rfl (by decide) rfl rfl rfl (fun r3 m4 hR5 => ?_)
  refine Li_chkX ((by decide)) ?_
  refine Li_chk (fun ⟨c6, c7, c8⟩ => ⟨(by simp only [pp_38 hR5]; decide), c6, c7, c8⟩) (fun _ => ?_)
  refine Li_sta hR5 (j := 38) rfl (by decide) (pp_38 hR5) rfl rfl (fun r9 m10 hR11 => ?_)
  exact Li_ret rfl hR11
theorem li_X12_run_36 {l1 l2 s0 : Int} {r : Rst} {m : Mem} (hR : Rp r m) : LiR (G_run_36 l1 l2 s0 r) (X12_run_36 10 l1 l2 s0 m) m := by
  unfold G_run_36 X12_run_36
  refine Li_chkX ((by decide)) ?_
  refine Li_ite Iff.rfl ?_ ?_
  · simp only [pp_39 hR]
    exact li_X12_run_56 hR
  · refine Li_chk (fun ⟨c1, c2⟩ => ⟨(by simp only [pp_39 hR]; decide), c1, c2⟩) (fun _ => ?_)
    simp only [aa_39 hR, pp_39 hR]
    exact li_X12_run_56 hR
theorem li_X12_run_13 {l1 l2 s0 : Int} {r : Rst} {m : Mem} (hR : Rp r m) : LiR (G_run_13 l1 l2 s0 r) (X12_run_13 10 l1 l2 s0 10 m) m := by
  unfold G_run_13 X12_run_13
  refine Li_chkX ((by decide)) ?_
  refine Li_cal (li_X12_isFine hR) (fun v2 r1 m3 hR4 => ?_)
  refine Li_ite Iff.rfl ?_ ?_
  · exact Li_ret rfl hR4
  · refine Li_chkX ((by decide)) ?_
    refine Li_chk (fun ⟨c5, c6⟩ => ⟨(by simp only [pp_39 hR4]; decide), c5, c6⟩) (fun _ => ?_)
    refine Li_ite (by simp only [aa_39 hR4, pp_39 hR4]) ?_ ?_
    · exact li_X12_run_36 hR4
    · exact li_X12_run_36 hR4
theorem li_X12_run_0 {l1 l2 : Int} {r : Rst} {m : Mem} (hR : Rp r m) : LiR (G_run_0 l1 l2 r) (X12_run_0 10 l1 l2 m) m := by
  unfold G_run_0 X12_run_0
  refine Li_cal (li_X12_isWorker hR) (fun v2 r1 m3 hR4 => ?_)
  refine Li_ite Iff.rfl ?_ ?_
  · exact li_X12_run_13 hR4
  · exact li_X12_run_13 hR4
theorem li_X12_run {a1 a2 : Int} {r : Rst} {m : Mem} (hR : Rp r m) : LiR (G_run a1 a2 r) (X12_run 10 a1 a2 m) m := Li_bool (li_X12_run_0 hR)
theorem li_X12_ready_25 : ∀ (n : Nat) {l1 l2 l3 : Int} {r : Rst} {m : Mem}, Rp r m → LiR (G_ready_25 n l1 l2 l3 r) (X12_ready_25 n 10 l1 l2 l3 m) m := by
  intro n
  induction n with
  | zero =>
    intro l1 l2 l3 r m hR
    exact Li_none
  | succ n ih =>
    intro l1 l2 l3 r m hR
    rw [G_ready_25, X12_ready_25]
    refine Li_chkX ((by decide)) ?_
    refine Li_chk (fun c1 => (by simp only [ss_16 hR]; exact c1)) (fun _ => ?_)
    refine Li_ite (by simp only [ss_16 hR]) ?_ ?_
    · exact Li_ret rfl hR
    · refine Li_cal (li_X12_isReady hR) (fun v3 r2 m4 hR5 => ?_)
      refine Li_ite Iff.rfl ?_ ?_
      · refine Li_chk (fun c6 => c6) (fun _ => ?_)
        refine Li_chk (fun c7 => c7) (fun _ => ?_)
        exact ih hR5
      · refine Li_chk (fun c8 => c8) (fun _ => ?_)
        refine Li_chk (fun c9 => c9) (fun _ => ?_)
        exact ih hR5
theorem li_X12_ready_13 {l1 s0 : Int} {r : Rst} {m : Mem} (hR : Rp r m) : LiR (G_ready_13 l1 s0 r) (X12_ready_13 10 l1 s0 10 m) m := by
  unfold G_ready_13 X12_ready_13
  refine Li_chkX ((by decide)) ?_
  refine Li_cal (li_X12_isFine hR) (fun v2 r1 m3 hR4 => ?_)
  refine Li_ite Iff.rfl ?_ ?_
  · exact Li_ret rfl hR4
  · exact li_X12_ready_25 fuel9 hR4
theorem li_X12_ready_0 {l1 : Int} {r : Rst} {m : Mem} (hR : Rp r m) : LiR (G_ready_0 l1 r) (X12_ready_0 10 l1 m) m := by
  unfold G_ready_0 X12_ready_0
  refine Li_cal (li_X12_isQueue hR) (fun v2 r1 m3 hR4 => ?_)
  refine Li_ite Iff.rfl ?_ ?_
  · exact li_X12_ready_13 hR4
  · exact li_X12_ready_13 hR4
theorem li_X12_ready {a1 : Int} {r : Rst} {m : Mem} (hR : Rp r m) : LiR (G_ready a1 r) (X12_ready 10 a1 m) m := li_X12_ready_0 hR
theorem li_X12_taken_32 {l1 l2 s0 : Int} {r : Rst} {m : Mem} (hR : Rp r m) : LiR (G_taken_32 l1 l2 s0 r) (X12_taken_32 10 l1 l2 s0 10 m) m := by
  unfold G_taken_32 X12_taken_32
  refine Li_chkX ((by decide)) ?_
  refine Li_cal (li_X12_isFine hR) (fun v2 r1 m3 hR4 => ?_)
  refine Li_ite Iff.rfl ?_ ?_
  · exact Li_ret rfl hR4
  · refine Li_chkX ((by decide)) ?_
    refine Li_chk (fun c5 => c5) (fun _ => ?_)
    refine Li_chk (fun c6 => c6) (fun _ => ?_)
    refine Li_chk (fun ⟨c7, c8⟩ => ⟨(by simp only [pp_37 hR4]; decide), c7, c8⟩) (fun _ => ?_)
    exact Li_ret (by simp only [aa_37 hR4, pp_37 hR4]) hR4
theorem li_X12_taken_21 {l1 l2 s0 : Int} {r : Rst} {m : Mem} (hR : Rp r m) : LiR (G_taken_21 l1 l2 s0 r) (X12_taken_21 10 l1 l2 s0 m) m := by
  unfold G_taken_21 X12_taken_21
  refine Li_ite Iff.rfl ?_ ?_
  · exact li_X12_taken_32 hR
  · exact li_X12_taken_32 hR
theorem li_X12_taken_0 {l1 l2 : Int} {r : Rst} {m : Mem} (hR : Rp r m) : LiR (G_taken_0 l1 l2 r) (X12_taken_0 10 l1 l2 m) m := by
  unfold G_taken_0 X12_taken_0
  refine Li_cal (li_X12_isQueue hR) (fun v2 r1 m3 hR4 => ?_)
  refine Li_ite Iff.rfl ?_ ?_
  · exact li_X12_taken_21 hR4
  · refine Li_cal (li_X12_isIn hR4) (fun v6 r5 m7 hR8 => ?_)
    refine Li_ite Iff.rfl ?_ ?_
    · exact li_X12_taken_21 hR8
    · exact li_X12_taken_21 hR8
theorem li_X12_taken {a1 a2 : Int} {r : Rst} {m : Mem} (hR : Rp r m) : LiR (G_taken a1 a2 r) (X12_taken 10 a1 a2 m) m := li_X12_taken_0 hR
theorem li_X12_ticksOnce_220 {k165 : Int → Rst → Option G2} {k165' : Int → Int → Mem → Option R2} (hk165 : ∀ {l1 : Int} {r : Rst} {m : Mem}, Rp r m → LiR (k165 l1 r) (k165' 10 l1 m) m) {l1 s0 : Int} {r : Rst} {m : Mem} (hR : Rp r m) : LiR (G_ticksOnce_220 k165 l1 s0 r) (X12_ticksOnce_220 k165' 10 l1 s0 m) m := by
  unfold G_ticksOnce_220 X12_ticksOnce_220
  refine Li_chkX ((by decide)) ?_
  refine Li_ite Iff.rfl ?_ ?_
  · refine Li_chk (fun ⟨c1, c2⟩ => ⟨(by simp only [pp_23 hR]; decide), c1, c2⟩) (fun _ => ?_)
    refine Li_chk (fun ⟨c3, c4⟩ => ⟨c3, c4⟩) (fun _ => ?_)
    refine Li_sta hR (j := 23) rfl (by decide) (pp_23 hR) rfl (by simp only [aa_23 hR, pp_23 hR]) (fun r5 m6 hR7 => ?_)
    refine Li_chk (fun c8 => c8) (fun _ => ?_)
    exact hk165 hR7
  · refine Li_chk (fun ⟨c9, c10⟩ => ⟨(by simp only [pp_23 hR]; decide), c9, c10⟩) (fun _ => ?_)
    refine Li_sta hR (j := 23) rfl (by decide) (pp_23 hR) rfl rfl (fun r11 m12 hR13 => ?_)
    refine Li_chk (fun c14 => c14) (fun _ => ?_)
    exact hk165 hR13
theorem li_X12_ticksOnce_165 : ∀ (n : Nat) {l1 : Int} {r : Rst} {m : Mem}, Rp r m → LiR (G_ticksOnce_165 n l1 r) (X12_ticksOnce_165 n 10 l1 m) m := by
  intro n
  induction n with
  | zero =>
    intro l1 r m hR
    exact Li_none
  | succ n ih =>
    intro l1 r m hR
    rw [G_ticksOnce_165, X12_ticksOnce_165]
    refine Li_chkX ((by decide)) ?_
    refine Li_chk (fun c1 => (by simp only [ss_16 hR]; exact c1)) (fun _ => ?_)
    refine Li_ite (by simp only [ss_16 hR]) ?_ ?_
    · exact Li_ret rfl hR
    · refine Li_chk (fun c2 => c2) (fun _ => ?_)
      refine Li_chk (fun c3 => c3) (fun _ => ?_)
      refine Li_chk (fun ⟨c4, c5⟩ => ⟨(by simp only [pp_22 hR]; decide), c4, c5⟩) (fun _ => ?_)
      refine Li_ite (by simp only [aa_22 hR, pp_22 hR]) ?_ ?_
      · exact li_X12_ticksOnce_220 ih hR
      · refine Li_chk (fun ⟨c6, c7⟩ => ⟨(by simp only [pp_23 hR]; decide), c6, c7⟩) (fun _ => ?_)
        refine Li_ite (by simp only [aa_23 hR, pp_23 hR]) ?_ ?_
        · refine Li_chk (fun ⟨c8, c9⟩ => ⟨(by simp only [pp_26 hR]; decide), c8, c9⟩) (fun _ => ?_)
          refine Li_ite (by simp only [aa_26 hR, pp_26 hR, ss_1 hR]) ?_ ?_
          · exact li_X12_ticksOnce_220 ih hR
          · exact li_X12_ticksOnce_220 ih hR
        · exact li_X12_ticksOnce_220 ih hR
theorem li_X12_ticksOnce_102 {k165 : Int → Rst → Option G2} {k165' : Int → Int → Mem → Option R2} (hk165 : ∀ {l1 : Int} {r : Rst} {m : Mem}, Rp r m → LiR (k165 l1 r) (k165' 10 l1 m) m) : ∀ (n : Nat) {l1 : Int} {r : Rst} {m : Mem}, Rp r m → LiR (G_ticksOnce_102 k165 n l1 r) (X12_ticksOnce_102 k165' n 10 l1 m) m := by
  intro n
  induction n with
  | zero =>
    intro l1 r m hR
    exact Li_none
  | succ n ih =>
    intro l1 r m hR
    rw [G_ticksOnce_102, X12_ticksOnce_102]
    refine Li_chkX ((by decide)) ?_
    refine Li_chk (fun c1 => (by simp only [ss_16 hR]; exact c1)) (fun _ => ?_)
    refine Li_ite (by simp only [ss_16 hR]) ?_ ?_
    · exact hk165 hR
    · refine Li_chk (fun c2 => c2) (fun _ => ?_)
      refine Li_chk (fun c3 => c3) (fun _ => ?_)
      refine Li_chk (fun ⟨c4, c5⟩ => ⟨(by simp only [pp_22 hR]; decide), c4, c5⟩) (fun _ => ?_)
      refine Li_ite (by simp only [aa_22 hR, pp_22 hR]) ?_ ?_
      · refine Li_chk (fun c6 => c6) (fun _ => ?_)
        exact ih hR
      · refine Li_chk (fun ⟨c7, c8⟩ => ⟨(by simp only [pp_23 hR]; decide), c7, c8⟩) (fun _ => ?_)
        refine Li_ite (by simp only [aa_23 hR, pp_23 hR]) ?_ ?_
        · refine Li_chk (fun ⟨c10, c11⟩ => ⟨(by simp only [pp_27 hR]; decide), c10, c11⟩) (fun _ => ?_)
          refine Li_ite (by simp only [aa_27 hR, pp_27 hR, ss_1 hR]) ?_ ?_
          · refine Li_cal (li_X12_failsTry hR) (fun v14 r13 m15 hR16 => ?_)
            refine Li_chk (fun c17 => c17) (fun _ => ?_)
            exact ih hR16
          · refine Li_chk (fun c12 => c12) (fun _ => ?_)
            exact ih hR
        · refine Li_chk (fun c9 => c9) (fun _ => ?_)
          exact ih hR
theorem li_X12_ticksOnce_32 {k102 : Int → Rst → Option G2} {k102' : Int → Int → Mem → Option R2} (hk102 : ∀ {l1 : Int} {r : Rst} {m : Mem}, Rp r m → LiR (k102 l1 r) (k102' 10 l1 m) m) : ∀ (n : Nat) {l1 : Int} {r : Rst} {m : Mem}, Rp r m → LiR (G_ticksOnce_32 k102 n l1 r) (X12_ticksOnce_32 k102' n 10 l1 m) m := by
  intro n
  induction n with
  | zero =>
    intro l1 r m hR
    exact Li_none
  | succ n ih =>
    intro l1 r m hR
    rw [G_ticksOnce_32, X12_ticksOnce_32]
    refine Li_chkX ((by decide)) ?_
    refine Li_chk (fun c1 => (by simp only [ss_16 hR]; exact c1)) (fun _ => ?_)
    refine Li_ite (by simp only [ss_16 hR]) ?_ ?_
    · exact hk102 hR
    · refine Li_chk (fun c2 => c2) (fun _ => ?_)
      refine Li_chk (fun c3 => c3) (fun _ => ?_)
      refine Li_chk (fun ⟨c4, c5⟩ => ⟨(by simp only [pp_30 hR]; decide), c4, c5⟩) (fun _ => ?_)
      refine Li_ite (by simp only [aa_30 hR, pp_30 hR]) ?_ ?_
      · refine Li_chk (fun c6 => c6) (fun _ => ?_)
        exact ih hR
      · refine Li_chk (fun ⟨c7, c8⟩ => ⟨(by simp only [pp_31 hR]; decide), c7, c8⟩) (fun _ => ?_)
        refine Li_ite (by simp only [aa_31 hR, pp_31 hR, ss_1 hR]) ?_ ?_
        · refine Li_chk (fun ⟨c10, c11⟩ => ⟨c10, c11⟩) (fun _ => ?_)
          refine Li_sta hR (j := 31) rfl (by decide) (pp_31 hR) rfl rfl (fun r12 m13 hR14 => ?_)
          refine Li_chk (fun c15 => c15) (fun _ => ?_)
          refine Li_chk (fun c16 => c16) (fun _ => ?_)
          refine Li_cal (li_X12_happens hR14) (fun v18 r17 m19 hR20 => ?_)
          refine Li_chk (fun c21 => c21) (fun _ => ?_)
          exact ih hR20
        · refine Li_chk (fun c9 => c9) (fun _ => ?_)
          exact ih hR
theorem li_X12_ticksOnce_12 {k32 : Int → Rst → Option G2} {k32' : Int → Int → Mem → Option R2} (hk32 : ∀ {l1 : Int} {r : Rst} {m : Mem}, Rp r m → LiR (k32 l1 r) (k32' 10 l1 m) m) : ∀ (n : Nat) {l1 : Int} {r : Rst} {m : Mem}, Rp r m → LiR (G_ticksOnce_12 k32 n l1 r) (X12_ticksOnce_12 k32' n 10 l1 m) m := by
  intro n
  induction n with
  | zero =>
    intro l1 r m hR
    exact Li_none
  | succ n ih =>
    intro l1 r m hR
    rw [G_ticksOnce_12, X12_ticksOnce_12]
    refine Li_ite Iff.rfl ?_ ?_
    · exact hk32 hR
    · refine Li_chkX ((by decide)) ?_
      refine Li_chk (fun ⟨c1, c2⟩ => ⟨(by simp only [pp_36 hR]; decide), c1, c2⟩) (fun _ => ?_)
      refine Li_sta hR (j := 36) rfl (by decide) (pp_36 hR) rfl rfl (fun r3 m4 hR5 => ?_)
      refine Li_chk (fun c6 => c6) (fun _ => ?_)
      exact ih hR5
theorem li_X12_ticksOnce_0 {r : Rst} {m : Mem} (hR : Rp r m) : LiR (G_ticksOnce_0 r) (X12_ticksOnce_0 10 m) m := by
  unfold G_ticksOnce_0 X12_ticksOnce_0
  refine Li_chkX ((by decide)) ?_
  refine Li_chk (fun c1 => (by simp only [ss_1 hR]; exact c1)) (fun _ => ?_)
  refine Li_sts hR (j := 1) rfl (by decide) rfl (by simp only [ss_1 hR]) (fun r2 m3 hR4 => ?_)
  exact li_X12_ticksOnce_12 (fun hR => li_X12_ticksOnce_32 (fun hR => li_X12_ticksOnce_102 (fun hR => li_X12_ticksOnce_165 fuel9 hR) fuel9 hR) fuel9 hR) fuel9 hR4
theorem li_X12_ticksOnce {r : Rst} {m : Mem} (hR : Rp r m) : LiR (G_ticksOnce r) (X12_ticksOnce 10 m) m := li_X12_ticksOnce_0 hR
theorem li_X12_tick_26 : ∀ (n : Nat) {l1 l2 : Int} {r : Rst} {m : Mem}, Rp r m → LiR (G_tick_26 n l1 l2 r) (X12_tick_26 n 10 l1 l2 m) m := by
  intro n
  induction n with
  | zero =>
    intro l1 l2 r m hR
    exact Li_none
  | succ n ih =>
    intro l1 l2 r m hR
    rw [G_tick_26, X12_tick_26]
    refine Li_ite Iff.rfl ?_ ?_
    · refine Li_chkX ((by decide)) ?_
      exact Li_ret (by simp only [ss_1 hR]) hR
    · refine Li_chkX ((by decide)) ?_
      refine Li_cal (li_X12_ticksOnce hR) (fun v2 r1 m3 hR4 => ?_)
      refine Li_chk (fun c5 => c5) (fun _ => ?_)
      exact ih hR4
theorem li_X12_tick_16 {l1 s0 : Int} {r : Rst} {m : Mem} (hR : Rp r m) : LiR (G_tick_16 l1 s0 r) (X12_tick_16 10 l1 s0 10 m) m := by
  unfold G_tick_16 X12_tick_16
  refine Li_chkX ((by decide)) ?_
  refine Li_cal (li_X12_isFine hR) (fun v2 r1 m3 hR4 => ?_)
  refine Li_ite Iff.rfl ?_ ?_
  · exact Li_ret rfl hR4
  · exact li_X12_tick_26 fuel9 hR4
theorem li_X12_tick_0 {l1 : Int} {r : Rst} {m : Mem} (hR : Rp r m) : LiR (G_tick_0 l1 r) (X12_tick_0 10 l1 m) m := by
  unfold G_tick_0 X12_tick_0
  refine Li_cal (li_X12_isIn hR) (fun v2 r1 m3 hR4 => ?_)
  refine Li_ite Iff.rfl ?_ ?_
  · exact li_X12_tick_16 hR4
  · exact li_X12_tick_16 hR4
theorem li_X12_tick {a1 : Int} {r : Rst} {m : Mem} (hR : Rp r m) : LiR (G_tick a1 r) (X12_tick 10 a1 m) m := li_X12_tick_0 hR
theorem li_X12_clock_0 {r : Rst} {m : Mem} (hR : Rp r m) : LiR (G_clock_0 r) (X12_clock_0 10 m) m := by
  unfold G_clock_0 X12_clock_0
  refine Li_chkX ((by decide)) ?_
  refine Li_sts hR (j := 0) rfl (by decide) rfl rfl (fun r1 m2 hR3 => ?_)
  exact Li_ret (by simp only [ss_1 hR3]) hR3
theorem li_X12_clock {r : Rst} {m : Mem} (hR : Rp r m) : LiR (G_clock r) (X12_clock 10 m) m := li_X12_clock_0 hR
theorem li_X12_workflows_0 {r : Rst} {m : Mem} (hR : Rp r m) : LiR (G_workflows_0 r) (X12_workflows_0 10 m) m := by
  unfold G_workflows_0 X12_workflows_0
  refine Li_chkX ((by decide)) ?_
  refine Li_sts hR (j := 0) rfl (by decide) rfl rfl (fun r1 m2 hR3 => ?_)
  exact Li_ret (by simp only [ss_16 hR3]) hR3
theorem li_X12_workflows {r : Rst} {m : Mem} (hR : Rp r m) : LiR (G_workflows r) (X12_workflows 10 m) m := li_X12_workflows_0 hR
theorem li_X12_parent_14 {l1 s0 : Int} {r : Rst} {m : Mem} (hR : Rp r m) : LiR (G_parent_14 l1 s0 r) (X12_parent_14 10 l1 s0 10 m) m := by
  unfold G_parent_14 X12_parent_14
  refine Li_chkX ((by decide)) ?_
  refine Li_cal (li_X12_isFine hR) (fun v2 r1 m3 hR4 => ?_)
  refine Li_ite Iff.rfl ?_ ?_
  · exact Li_ret rfl hR4
  · refine Li_chkX ((by decide)) ?_
    refine Li_chk (fun ⟨c5, c6⟩ => ⟨(by simp only [pp_9 hR4]; decide), c5, c6⟩) (fun _ => ?_)
    exact Li_ret (by simp only [aa_9 hR4, pp_9 hR4]) hR4
theorem li_X12_parent_0 {l1 : Int} {r : Rst} {m : Mem} (hR : Rp r m) : LiR (G_parent_0 l1 r) (X12_parent_0 10 l1 m) m := by
  unfold G_parent_0 X12_parent_0
  refine Li_chkX ((by decide)) ?_
  refine Li_cal (li_X12_isFlow hR) (fun v2 r1 m3 hR4 => ?_)
  refine Li_ite Iff.rfl ?_ ?_
  · exact li_X12_parent_14 hR4
  · exact li_X12_parent_14 hR4
theorem li_X12_parent {a1 : Int} {r : Rst} {m : Mem} (hR : Rp r m) : LiR (G_parent a1 r) (X12_parent 10 a1 m) m := li_X12_parent_0 hR
theorem li_X12_runs_14 {l1 s0 : Int} {r : Rst} {m : Mem} (hR : Rp r m) : LiR (G_runs_14 l1 s0 r) (X12_runs_14 10 l1 s0 10 m) m := by
  unfold G_runs_14 X12_runs_14
  refine Li_chkX ((by decide)) ?_
  refine Li_cal (li_X12_isFine hR) (fun v2 r1 m3 hR4 => ?_)
  refine Li_ite Iff.rfl ?_ ?_
  · exact Li_ret rfl hR4
  · refine Li_chkX ((by decide)) ?_
    refine Li_chk (fun ⟨c5, c6⟩ => ⟨(by simp only [pp_12 hR4]; decide), c5, c6⟩) (fun _ => ?_)
    exact Li_ret (by simp only [aa_12 hR4, pp_12 hR4]) hR4
theorem li_X12_runs_0 {l1 : Int} {r : Rst} {m : Mem} (hR : Rp r m) : LiR (G_runs_0 l1 r) (X12_runs_0 10 l1 m) m := by
  unfold G_runs_0 X12_runs_0
  refine Li_chkX ((by decide)) ?_
  refine Li_cal (li_X12_isFlow hR) (fun v2 r1 m3 hR4 => ?_)
  refine Li_ite Iff.rfl ?_ ?_
  · exact li_X12_runs_14 hR4
  · exact li_X12_runs_14 hR4
theorem li_X12_runs {a1 : Int} {r : Rst} {m : Mem} (hR : Rp r m) : LiR (G_runs a1 r) (X12_runs 10 a1 m) m := li_X12_runs_0 hR
theorem li_X12_isRun_0 {l1 l2 : Int} {r : Rst} {m : Mem} (hR : Rp r m) : LiR (G_isRun_0 l1 l2 r) (X12_isRun_0 10 l1 l2 m) m := by
  unfold G_isRun_0 X12_isRun_0
  refine Li_chkX ((by decide)) ?_
  refine Li_cal (li_X12_isFlow hR) (fun v2 r1 m3 hR4 => ?_)
  refine Li_ite Iff.rfl ?_ ?_
  · exact Li_ret rfl hR4
  · refine Li_chk (fun ⟨c5, c6⟩ => ⟨(by simp only [pp_12 hR4]; decide), c5, c6⟩) (fun _ => ?_)
    refine Li_cal (by simp only [aa_12 hR4, pp_12 hR4]; exact li_X12_isIn hR4) (fun v8 r7 m9 hR10 => ?_)
    refine Li_ite Iff.rfl ?_ ?_
    · exact Li_ret rfl hR10
    · exact Li_ret rfl hR10
theorem li_X12_isRun {a1 a2 : Int} {r : Rst} {m : Mem} (hR : Rp r m) : LiR (G_isRun a1 a2 r) (X12_isRun 10 a1 a2 m) m := Li_bool (li_X12_isRun_0 hR)
theorem li_X12_state_15 {l1 l2 s0 : Int} {r : Rst} {m : Mem} (hR : Rp r m) : LiR (G_state_15 l1 l2 s0 r) (X12_state_15 10 l1 l2 s0 10 m) m := by
  unfold G_state_15 X12_state_15
  refine Li_chkX ((by decide)) ?_
  refine Li_cal (li_X12_isFine hR) (fun v2 r1 m3 hR4 => ?_)
  refine Li_ite Iff.rfl ?_ ?_
  · exact Li_ret rfl hR4
  · refine Li_chkX ((by decide)) ?_
    refine Li_chk (fun c5 => c5) (fun _ => ?_)
    refine Li_chk (fun c6 => c6) (fun _ => ?_)
    refine Li_chk (fun c7 => c7) (fun _ => ?_)
    refine Li_chk (fun ⟨c8, c9⟩ => ⟨(by simp only [pp_17 hR4]; decide), c8, c9⟩) (fun _ => ?_)
    exact Li_ret (by simp only [aa_17 hR4, pp_17 hR4]) hR4
theorem li_X12_state_0 {l1 l2 : Int} {r : Rst} {m : Mem} (hR : Rp r m) : LiR (G_state_0 l1 l2 r) (X12_state_0 10 l1 l2 m) m := by
  unfold G_state_0 X12_state_0
  refine Li_chkX ((by decide)) ?_
  refine Li_cal (li_X12_isRun hR) (fun v2 r1 m3 hR4 => ?_)
  refine Li_ite Iff.rfl ?_ ?_
  · exact li_X12_state_15 hR4
  · exact li_X12_state_15 hR4
theorem li_X12_state {a1 a2 : Int} {r : Rst} {m : Mem} (hR : Rp r m) : LiR (G_state a1 a2 r) (X12_state 10 a1 a2 m) m := li_X12_state_0 hR
theorem li_X12_events_15 {l1 l2 s0 : Int} {r : Rst} {m : Mem} (hR : Rp r m) : LiR (G_events_15 l1 l2 s0 r) (X12_events_15 10 l1 l2 s0 10 m) m := by
  unfold G_events_15 X12_events_15
  refine Li_chkX ((by decide)) ?_
  refine Li_cal (li_X12_isFine hR) (fun v2 r1 m3 hR4 => ?_)
  refine Li_ite Iff.rfl ?_ ?_
  · exact Li_ret rfl hR4
  · refine Li_chkX ((by decide)) ?_
    refine Li_chk (fun c5 => c5) (fun _ => ?_)
    refine Li_chk (fun c6 => c6) (fun _ => ?_)
    refine Li_chk (fun c7 => c7) (fun _ => ?_)
    refine Li_chk (fun ⟨c8, c9⟩ => ⟨(by simp only [pp_18 hR4]; decide), c8, c9⟩) (fun _ => ?_)
    exact Li_ret (by simp only [aa_18 hR4, pp_18 hR4]) hR4
theorem li_X12_events_0 {l1 l2 : Int} {r : Rst} {m : Mem} (hR : Rp r m) : LiR (G_events_0 l1 l2 r) (X12_events_0 10 l1 l2 m) m := by
  unfold G_events_0 X12_events_0
  refine Li_chkX ((by decide)) ?_
  refine Li_cal (li_X12_isRun hR) (fun v2 r1 m3 hR4 => ?_)
  refine Li_ite Iff.rfl ?_ ?_
  · exact li_X12_events_15 hR4
  · exact li_X12_events_15 hR4
theorem li_X12_events {a1 a2 : Int} {r : Rst} {m : Mem} (hR : Rp r m) : LiR (G_events a1 a2 r) (X12_events 10 a1 a2 m) m := li_X12_events_0 hR
theorem li_X12_isEvent_0 {l1 l2 l3 : Int} {r : Rst} {m : Mem} (hR : Rp r m) : LiR (G_isEvent_0 l1 l2 l3 r) (X12_isEvent_0 10 l1 l2 l3 m) m := by
  unfold G_isEvent_0 X12_isEvent_0
  refine Li_chkX ((by decide)) ?_
  refine Li_cal (li_X12_isRun hR) (fun v2 r1 m3 hR4 => ?_)
  refine Li_ite Iff.rfl ?_ ?_
  · exact Li_ret rfl hR4
  · refine Li_chk (fun c5 => c5) (fun _ => ?_)
    refine Li_chk (fun c6 => c6) (fun _ => ?_)
    refine Li_chk (fun c7 => c7) (fun _ => ?_)
    refine Li_chk (fun ⟨c8, c9⟩ => ⟨(by simp only [pp_18 hR4]; decide), c8, c9⟩) (fun _ => ?_)
    refine Li_chk (fun c10 => (by simp only [aa_18 hR4, pp_18 hR4]; exact c10)) (fun _ => ?_)
    refine Li_cal (by simp only [aa_18 hR4, pp_18 hR4]; exact li_X12_isIn hR4) (fun v12 r11 m13 hR14 => ?_)
    refine Li_ite Iff.rfl ?_ ?_
    · exact Li_ret rfl hR14
    · exact Li_ret rfl hR14
theorem li_X12_isEvent {a1 a2 a3 : Int} {r : Rst} {m : Mem} (hR : Rp r m) : LiR (G_isEvent a1 a2 a3 r) (X12_isEvent 10 a1 a2 a3 m) m := Li_bool (li_X12_isEvent_0 hR)
theorem li_X12_eventKind_16 {l1 l2 l3 s0 : Int} {r : Rst} {m : Mem} (hR : Rp r m) : LiR (G_eventKind_16 l1 l2 l3 s0 r) (X12_eventKind_16 10 l1 l2 l3 s0 10 m) m := by
  unfold G_eventKind_16 X12_eventKind_16
  refine Li_chkX ((by decide)) ?_
  refine Li_cal (li_X12_isFine hR) (fun v2 r1 m3 hR4 => ?_)
  refine Li_ite Iff.rfl ?_ ?_
  · exact Li_ret rfl hR4
  · refine Li_chkX ((by decide)) ?_
    refine Li_chk (fun c5 => c5) (fun _ => ?_)
    refine Li_chk (fun c6 => c6) (fun _ => ?_)
    refine Li_chk (fun c7 => c7) (fun _ => ?_)
    refine Li_chk (fun c8 => c8) (fun _ => ?_)
    refine Li_chk (fun c9 => c9) (fun _ => ?_)
    refine Li_chk (fun ⟨c10, c11⟩ => ⟨(by simp only [pp_19 hR4]; decide), c10, c11⟩) (fun _ => ?_)
    exact Li_ret (by simp only [aa_19 hR4, pp_19 hR4]) hR4
theorem li_X12_eventKind_0 {l1 l2 l3 : Int} {r : Rst} {m : Mem} (hR : Rp r m) : LiR (G_eventKind_0 l1 l2 l3 r) (X12_eventKind_0 10 l1 l2 l3 m) m := by
  unfold G_eventKind_0 X12_eventKind_0
  refine Li_chkX ((by decide)) ?_
  refine Li_cal (li_X12_isEvent hR) (fun v2 r1 m3 hR4 => ?_)
  refine Li_ite Iff.rfl ?_ ?_
  · exact li_X12_eventKind_16 hR4
  · exact li_X12_eventKind_16 hR4
theorem li_X12_eventKind {a1 a2 a3 : Int} {r : Rst} {m : Mem} (hR : Rp r m) : LiR (G_eventKind a1 a2 a3 r) (X12_eventKind 10 a1 a2 a3 m) m := li_X12_eventKind_0 hR
theorem li_X12_eventNumber_16 {l1 l2 l3 l4 s0 : Int} {r : Rst} {m : Mem} (hR : Rp r m) : LiR (G_eventNumber_16 l1 l2 l3 l4 s0 r) (X12_eventNumber_16 10 l1 l2 l3 l4 s0 10 m) m := by
  unfold G_eventNumber_16 X12_eventNumber_16
  refine Li_chkX ((by decide)) ?_
  refine Li_cal (li_X12_isFine hR) (fun v2 r1 m3 hR4 => ?_)
  refine Li_ite Iff.rfl ?_ ?_
  · exact Li_ret rfl hR4
  · refine Li_chk (fun c5 => c5) (fun _ => ?_)
    refine Li_chk (fun c6 => c6) (fun _ => ?_)
    refine Li_chk (fun c7 => c7) (fun _ => ?_)
    refine Li_chk (fun c8 => c8) (fun _ => ?_)
    refine Li_chk (fun c9 => c9) (fun _ => ?_)
    refine Li_ite Iff.rfl ?_ ?_
    · refine Li_chkX ((by decide)) ?_
      refine Li_chk (fun ⟨c10, c11⟩ => ⟨(by simp only [pp_21 hR4]; decide), c10, c11⟩) (fun _ => ?_)
      exact Li_ret (by simp only [aa_21 hR4, pp_21 hR4]) hR4
    · refine Li_chkX ((by decide)) ?_
      refine Li_chk (fun ⟨c12, c13⟩ => ⟨(by simp only [pp_20 hR4]; decide), c12, c13⟩) (fun _ => ?_)
      exact Li_ret (by simp only [aa_20 hR4, pp_20 hR4]) hR4
theorem li_X12_eventNumber_0 {l1 l2 l3 l4 : Int} {r : Rst} {m : Mem} (hR : Rp r m) : LiR (G_eventNumber_0 l1 l2 l3 l4 r) (X12_eventNumber_0 10 l1 l2 l3 l4 m) m := by
  unfold G_eventNumber_0 X12_eventNumber_0
  refine Li_chkX ((by decide)) ?_
  refine Li_cal (li_X12_isEvent hR) (fun v2 r1 m3 hR4 => ?_)
  refine Li_ite Iff.rfl ?_ ?_
  · exact li_X12_eventNumber_16 hR4
  · exact li_X12_eventNumber_16 hR4
theorem li_X12_eventNumber {a1 a2 a3 a4 : Int} {r : Rst} {m : Mem} (hR : Rp r m) : LiR (G_eventNumber a1 a2 a3 a4 r) (X12_eventNumber 10 a1 a2 a3 a4 m) m := li_X12_eventNumber_0 hR
theorem li_X12_property_29 {l1 l2 s0 : Int} {r : Rst} {m : Mem} (hR : Rp r m) : LiR (G_property_29 l1 l2 s0 r) (X12_property_29 10 l1 l2 s0 10 m) m := by
  unfold G_property_29 X12_property_29
  refine Li_chkX ((by decide)) ?_
  refine Li_cal (li_X12_isFine hR) (fun v2 r1 m3 hR4 => ?_)
  refine Li_ite Iff.rfl ?_ ?_
  · exact Li_ret rfl hR4
  · refine Li_chkX ((by decide)) ?_
    refine Li_chk (fun c5 => c5) (fun _ => ?_)
    refine Li_chk (fun c6 => c6) (fun _ => ?_)
    refine Li_chk (fun ⟨c7, c8⟩ => ⟨(by simp only [pp_13 hR4]; decide), c7, c8⟩) (fun _ => ?_)
    exact Li_ret (by simp only [aa_13 hR4, pp_13 hR4]) hR4
theorem li_X12_property_0 {l1 l2 : Int} {r : Rst} {m : Mem} (hR : Rp r m) : LiR (G_property_0 l1 l2 r) (X12_property_0 10 l1 l2 m) m := by
  unfold G_property_0 X12_property_0
  refine Li_chkX ((by decide)) ?_
  refine Li_cal (li_X12_isFlow hR) (fun v2 r1 m3 hR4 => ?_)
  refine Li_ite Iff.rfl ?_ ?_
  · exact li_X12_property_29 hR4
  · refine Li_cal (li_X12_isIn hR4) (fun v6 r5 m7 hR8 => ?_)
    refine Li_ite Iff.rfl ?_ ?_
    · exact li_X12_property_29 hR8
    · exact li_X12_property_29 hR8
theorem li_X12_property {a1 a2 : Int} {r : Rst} {m : Mem} (hR : Rp r m) : LiR (G_property a1 a2 r) (X12_property 10 a1 a2 m) m := li_X12_property_0 hR
theorem li_X12_found_34 : ∀ (n : Nat) {l1 l2 l3 l4 l5 : Int} {r : Rst} {m : Mem}, Rp r m → LiR (G_found_34 n l1 l2 l3 l4 l5 r) (X12_found_34 n 10 l1 l2 l3 l4 l5 m) m := by
  intro n
  induction n with
  | zero =>
    intro l1 l2 l3 l4 l5 r m hR
    exact Li_none
  | succ n ih =>
    intro l1 l2 l3 l4 l5 r m hR
    rw [G_found_34, X12_found_34]
    refine Li_chkX ((by decide)) ?_
    refine Li_ite (by simp only [ss_16 hR]) ?_ ?_
    · exact Li_ret rfl hR
    · refine Li_cal (li_X12_isRunning hR) (fun v2 r1 m3 hR4 => ?_)
      refine Li_ite Iff.rfl ?_ ?_
      · refine Li_chk (fun c5 => c5) (fun _ => ?_)
        refine Li_chk (fun c6 => c6) (fun _ => ?_)
        exact ih hR4
      · refine Li_chk (fun c7 => c7) (fun _ => ?_)
        refine Li_chk (fun c8 => c8) (fun _ => ?_)
        refine Li_chk (fun ⟨c9, c10⟩ => ⟨(by simp only [pp_13 hR4]; decide), c9, c10⟩) (fun _ => ?_)
        refine Li_cal (by simp only [aa_13 hR4, pp_13 hR4]; exact li_X12_isIn hR4) (fun v12 r11 m13 hR14 => ?_)
        refine Li_ite Iff.rfl ?_ ?_
        · refine Li_chk (fun c15 => c15) (fun _ => ?_)
          refine Li_chk (fun c16 => c16) (fun _ => ?_)
          exact ih hR14
        · refine Li_chk (fun c17 => c17) (fun _ => ?_)
          refine Li_chk (fun c18 => c18) (fun _ => ?_)
          exact ih hR14
theorem li_X12_found_20 {l1 l2 l3 s0 : Int} {r : Rst} {m : Mem} (hR : Rp r m) : LiR (G_found_20 l1 l2 l3 s0 r) (X12_found_20 10 l1 l2 l3 s0 10 m) m := by
  unfold G_found_20 X12_found_20
  refine Li_chkX ((by decide)) ?_
  refine Li_cal (li_X12_isFine hR) (fun v2 r1 m3 hR4 => ?_)
  refine Li_ite Iff.rfl ?_ ?_
  · exact Li_ret rfl hR4
  · exact li_X12_found_34 fuel9 hR4
theorem li_X12_found_0 {l1 l2 l3 : Int} {r : Rst} {m : Mem} (hR : Rp r m) : LiR (G_found_0 l1 l2 l3 r) (X12_found_0 10 l1 l2 l3 m) m := by
  unfold G_found_0 X12_found_0
  refine Li_cal (li_X12_isIn hR) (fun v2 r1 m3 hR4 => ?_)
  refine Li_ite Iff.rfl ?_ ?_
  · exact li_X12_found_20 hR4
  · refine Li_ite Iff.rfl ?_ ?_
    · exact li_X12_found_20 hR4
    · exact li_X12_found_20 hR4
theorem li_X12_found {a1 a2 a3 : Int} {r : Rst} {m : Mem} (hR : Rp r m) : LiR (G_found a1 a2 a3 r) (X12_found 10 a1 a2 a3 m) m := li_X12_found_0 hR
theorem li_X12_isDue_14 {l1 s0 : Int} {r : Rst} {m : Mem} (hR : Rp r m) : LiR (G_isDue_14 l1 s0 r) (X12_isDue_14 10 l1 s0 10 m) m := by
  unfold G_isDue_14 X12_isDue_14
  refine Li_chkX ((by decide)) ?_
  refine Li_cal (li_X12_isFine hR) (fun v2 r1 m3 hR4 => ?_)
  refine Li_ite Iff.rfl ?_ ?_
  · exact Li_ret rfl hR4
  · refine Li_chkX ((by decide)) ?_
    refine Li_cal (li_X12_isDueNow hR4) (fun v6 r5 m7 hR8 => ?_)
    refine Li_ite Iff.rfl ?_ ?_
    · exact Li_ret rfl hR8
    · exact Li_ret rfl hR8
theorem li_X12_isDue_0 {l1 : Int} {r : Rst} {m : Mem} (hR : Rp r m) : LiR (G_isDue_0 l1 r) (X12_isDue_0 10 l1 m) m := by
  unfold G_isDue_0 X12_isDue_0
  refine Li_chkX ((by decide)) ?_
  refine Li_cal (li_X12_isFlow hR) (fun v2 r1 m3 hR4 => ?_)
  refine Li_ite Iff.rfl ?_ ?_
  · exact li_X12_isDue_14 hR4
  · exact li_X12_isDue_14 hR4
theorem li_X12_isDue {a1 : Int} {r : Rst} {m : Mem} (hR : Rp r m) : LiR (G_isDue a1 r) (X12_isDue 10 a1 m) m := Li_bool (li_X12_isDue_0 hR)
theorem li_X12_register_14 {l1 s0 : Int} {r : Rst} {m : Mem} (hR : Rp r m) : LiR (G_register_14 l1 s0 r) (X12_register_14 10 l1 s0 10 m) m := by
  unfold G_register_14 X12_register_14
  refine Li_chkX ((by decide)) ?_
  refine Li_cal (li_X12_isFine hR) (fun v2 r1 m3 hR4 => ?_)
  refine Li_ite Iff.rfl ?_ ?_
  · exact Li_ret rfl hR4
  · refine Li_chkX ((by decide)) ?_
    refine Li_chk (fun ⟨c5, c6⟩ => ⟨(by simp only [pp_14 hR4]; decide), c5, c6⟩) (fun _ => ?_)
    exact Li_ret (by simp only [aa_14 hR4, pp_14 hR4]) hR4
theorem li_X12_register_0 {l1 : Int} {r : Rst} {m : Mem} (hR : Rp r m) : LiR (G_register_0 l1 r) (X12_register_0 10 l1 m) m := by
  unfold G_register_0 X12_register_0
  refine Li_chkX ((by decide)) ?_
  refine Li_cal (li_X12_isFlow hR) (fun v2 r1 m3 hR4 => ?_)
  refine Li_ite Iff.rfl ?_ ?_
  · exact li_X12_register_14 hR4
  · exact li_X12_register_14 hR4
theorem li_X12_register {a1 : Int} {r : Rst} {m : Mem} (hR : Rp r m) : LiR (G_register a1 r) (X12_register 10 a1 m) m := li_X12_register_0 hR
theorem li_X12_place_14 {l1 s0 : Int} {r : Rst} {m : Mem} (hR : Rp r m) : LiR (G_place_14 l1 s0 r) (X12_place_14 10 l1 s0 10 m) m := by
  unfold G_place_14 X12_place_14
  refine Li_chkX ((by decide)) ?_
  refine Li_cal (li_X12_isFine hR) (fun v2 r1 m3 hR4 => ?_)
  refine Li_ite Iff.rfl ?_ ?_
  · exact Li_ret rfl hR4
  · refine Li_chkX ((by decide)) ?_
    refine Li_chk (fun ⟨c5, c6⟩ => ⟨(by simp only [pp_15 hR4]; decide), c5, c6⟩) (fun _ => ?_)
    exact Li_ret (by simp only [aa_15 hR4, pp_15 hR4]) hR4
theorem li_X12_place_0 {l1 : Int} {r : Rst} {m : Mem} (hR : Rp r m) : LiR (G_place_0 l1 r) (X12_place_0 10 l1 m) m := by
  unfold G_place_0 X12_place_0
  refine Li_chkX ((by decide)) ?_
  refine Li_cal (li_X12_isFlow hR) (fun v2 r1 m3 hR4 => ?_)
  refine Li_ite Iff.rfl ?_ ?_
  · exact li_X12_place_14 hR4
  · exact li_X12_place_14 hR4
theorem li_X12_place {a1 : Int} {r : Rst} {m : Mem} (hR : Rp r m) : LiR (G_place a1 r) (X12_place 10 a1 m) m := li_X12_place_0 hR
theorem li_X12_registerAnew_43 {l1 l2 s0 : Int} {r : Rst} {m : Mem} (hR : Rp r m) : LiR (G_registerAnew_43 l1 l2 s0 r) (X12_registerAnew_43 10 l1 l2 s0 10 m) m := by
  unfold G_registerAnew_43 X12_registerAnew_43
  refine Li_chkX ((by decide)) ?_
  refine Li_cal (li_X12_isFine hR) (fun v2 r1 m3 hR4 => ?_)
  refine Li_ite Iff.rfl ?_ ?_
  · exact Li_ret rfl hR4
  · refine Li_chkX ((by decide)) ?_
    refine Li_cal (li_X12_isAny hR4) (fun v6 r5 m7 hR8 => ?_)
    refine Li_ite Iff.rfl ?_ ?_
    · exact Li_ret rfl hR8
    · refine Li_cal (li_X12_plays hR8) (fun v10 r9 m11 hR12 => ?_)
      refine Li_ite Iff.rfl ?_ ?_
      · exact Li_ret rfl hR12
      · exact Li_ret (by simp only [ss_41 hR12]) hR12
theorem li_X12_registerAnew_32 {l1 l2 s0 : Int} {r : Rst} {m : Mem} (hR : Rp r m) : LiR (G_registerAnew_32 l1 l2 s0 r) (X12_registerAnew_32 10 l1 l2 s0 m) m := by
  unfold G_registerAnew_32 X12_registerAnew_32
  refine Li_ite Iff.rfl ?_ ?_
  · exact li_X12_registerAnew_43 hR
  · exact li_X12_registerAnew_43 hR
theorem li_X12_registerAnew_0 {l1 l2 : Int} {r : Rst} {m : Mem} (hR : Rp r m) : LiR (G_registerAnew_0 l1 l2 r) (X12_registerAnew_0 10 l1 l2 m) m := by
  unfold G_registerAnew_0 X12_registerAnew_0
  refine Li_chkX ((by decide)) ?_
  refine Li_cal (li_X12_isFlow hR) (fun v2 r1 m3 hR4 => ?_)
  refine Li_ite Iff.rfl ?_ ?_
  · exact li_X12_registerAnew_32 hR4
  · refine Li_chk (fun ⟨c5, c6⟩ => ⟨(by simp only [pp_7 hR4]; decide), c5, c6⟩) (fun _ => ?_)
    refine Li_chk (fun ⟨c7, c8⟩ => ⟨(by simp only [pp_6 hR4]; decide), (by simp only [aa_7 hR4, pp_7 hR4]; exact c7), (by simp only [aa_7 hR4, pp_7 hR4]; exact c8)⟩) (fun _ => ?_)
    refine Li_cal (by simp only [aa_6 hR4, aa_7 hR4, pp_6 hR4, pp_7 hR4]; exact li_X12_isIn hR4) (fun v10 r9 m11 hR12 => ?_)
    refine Li_ite Iff.rfl ?_ ?_
    · exact li_X12_registerAnew_32 hR12
    · exact li_X12_registerAnew_32 hR12
theorem li_X12_registerAnew {a1 a2 : Int} {r : Rst} {m : Mem} (hR : Rp r m) : LiR (G_registerAnew a1 a2 r) (X12_registerAnew 10 a1 a2 m) m := li_X12_registerAnew_0 hR
