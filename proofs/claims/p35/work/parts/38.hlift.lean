/-! what H does, X4, X1 and X8 do in the memory, printed -/
theorem li_X1_lookAhead_74 {pg hs : Rst} {P H : Int} : ∀ (n : Nat) {q : Rst} {m : Mem}, Hp q pg hs P H m → LiH pg hs P H (H_1_lookAhead_74 pg hs n q) (X1_lookAhead_74 n 101 m) m := by
  intro n
  induction n with
  | zero =>
    intro q m hR
    exact Lh_none
  | succ n ih =>
    intro q m hR
    rw [H_1_lookAhead_74, X1_lookAhead_74]
    refine Lh_chkX ((by decide)) ?_
    refine Lh_chkX ((by simp only [hH hR]; exact hHp hR)) ?_
    refine Lh_ite (by simp only [hH hR, hHs hR, hd_11 hR]) ?_ ?_
    · exact Lh_ret rfl hR
    · refine Lh_ite (by simp only [hd_11 hR]) ?_ ?_
      · exact Lh_ret rfl hR
      · refine Lh_chk (fun ⟨c1, c2⟩ => ⟨(by simp only [hH hR, hHa0 hR]; exact hHq0 hR), (by simp only [hd_11 hR]; exact c1), (by simp only [hd_11 hR]; exact c2)⟩) (fun ⟨c1, c2⟩ => ?_)
        refine Lh_ite (by simp only [hH hR, hHa0 hR, hHg0 hR, hd_11 hR]) ?_ ?_
        · exact Lh_ret rfl hR
        · refine Lh_chk (fun c3 => (by simp only [hd_11 hR]; exact c3)) (fun c3 => ?_)
          refine Lh_de hR (j := 11) rfl rfl rfl (by simp only [hd_11 hR]) (fun q4 m5 hR6 => ?_)
          exact ih hR6
theorem li_X1_lookAhead_56 {pg hs : Rst} {P H : Int} {l2 s0 : Int} {q : Rst} {m : Mem} (hR : Hp q pg hs P H m) : LiH pg hs P H (H_1_lookAhead_56 pg hs l2 s0 q) (X1_lookAhead_56 101 l2 s0 101 m) m := by
  unfold H_1_lookAhead_56 X1_lookAhead_56
  refine Lh_chk (fun c1 => ⟨(by decide), c1⟩) (fun c1 => ?_)
  refine Lh_de hR (j := 7) rfl rfl rfl rfl (fun q2 m3 hR4 => ?_)
  refine Lh_chk (fun c5 => c5) (fun c5 => ?_)
  refine Lh_chkX ((by decide)) ?_
  refine Lh_de hR4 (j := 10) rfl rfl rfl rfl (fun q6 m7 hR8 => ?_)
  refine Lh_de hR8 (j := 11) rfl rfl rfl (by simp only [hd_10 hR8]) (fun q9 m10 hR11 => ?_)
  exact li_X1_lookAhead_74 fuel9 hR11
theorem li_X1_lookAhead_39 {pg hs : Rst} {P H : Int} {l2 : Int} {q : Rst} {m : Mem} (hR : Hp q pg hs P H m) : LiH pg hs P H (H_1_lookAhead_39 pg hs l2 q) (X1_lookAhead_39 101 l2 m) m := by
  unfold H_1_lookAhead_39 X1_lookAhead_39
  refine Lh_chkX ((by decide)) ?_
  refine Lh_chkX ((by simp only [hH hR]; exact hHp hR)) ?_
  refine Lh_ite (by simp only [hH hR, hHs hR]) ?_ ?_
  · exact li_X1_lookAhead_56 hR
  · exact li_X1_lookAhead_56 hR
theorem li_X1_lookAhead_2 {pg hs : Rst} {P H : Int} {k39 : Int → Rst → Option G2} {k39' : Int → Int → Mem → Option R2} (hk39 : ∀ {l2 : Int} {q : Rst} {m : Mem}, Hp q pg hs P H m → LiH pg hs P H (k39 l2 q) (k39' 101 l2 m) m) : ∀ (n : Nat) {l2 : Int} {q : Rst} {m : Mem}, Hp q pg hs P H m → LiH pg hs P H (H_1_lookAhead_2 pg hs k39 n l2 q) (X1_lookAhead_2 k39' n 101 l2 m) m := by
  intro n
  induction n with
  | zero =>
    intro l2 q m hR
    exact Lh_none
  | succ n ih =>
    intro l2 q m hR
    rw [H_1_lookAhead_2, X1_lookAhead_2]
    refine Lh_chkX ((by decide)) ?_
    refine Lh_chkX ((by simp only [hH hR]; exact hHp hR)) ?_
    refine Lh_ite (by simp only [hH hR, hHs hR]) ?_ ?_
    · exact hk39 hR
    · refine Lh_ite Iff.rfl ?_ ?_
      · exact hk39 hR
      · refine Lh_chk (fun ⟨c1, c2⟩ => ⟨(by simp only [hH hR, hHa0 hR]; exact hHq0 hR), c1, c2⟩) (fun ⟨c1, c2⟩ => ?_)
        refine Lh_ite (by simp only [hH hR, hHa0 hR, hHg0 hR]) ?_ ?_
        · exact hk39 hR
        · refine Lh_chk (fun c3 => c3) (fun c3 => ?_)
          exact ih hR
theorem li_X1_lookAhead_0 {pg hs : Rst} {P H : Int} {l1 : Int} {q : Rst} {m : Mem} (hR : Hp q pg hs P H m) : LiH pg hs P H (H_1_lookAhead_0 pg hs l1 q) (X1_lookAhead_0 101 l1 m) m := by
  unfold H_1_lookAhead_0 X1_lookAhead_0
  exact li_X1_lookAhead_2 (fun hR => li_X1_lookAhead_39 hR) fuel9 hR
theorem li_X1_lookAhead {pg hs : Rst} {P H : Int} {a1 : Int} {q : Rst} {m : Mem} (hR : Hp q pg hs P H m) : LiH pg hs P H (H_1_lookAhead pg hs a1 q) (X1_lookAhead 101 a1 m) m := li_X1_lookAhead_0 hR
theorem li_X1_closePart_16 {pg hs : Rst} {P H : Int} {q : Rst} {m : Mem} (hR : Hp q pg hs P H m) : LiH pg hs P H (H_1_closePart_16 pg hs q) (X1_closePart_16 101 m) m := by
  unfold H_1_closePart_16 X1_closePart_16
  refine Lh_chkX ((by decide)) ?_
  refine Lh_cal (by simp only [hd_11 hR]; exact li_X1_lookAhead hR) (fun v2 q1 m3 hR4 => ?_)
  exact Lh_ret rfl hR4
theorem li_X1_closePart_0 {pg hs : Rst} {P H : Int} {q : Rst} {m : Mem} (hR : Hp q pg hs P H m) : LiH pg hs P H (H_1_closePart_0 pg hs q) (X1_closePart_0 101 m) m := by
  unfold H_1_closePart_0 X1_closePart_0
  refine Lh_chkX ((by decide)) ?_
  refine Lh_ite (by simp only [hd_10 hR, hd_11 hR]) ?_ ?_
  · exact li_X1_closePart_16 hR
  · refine Lh_de hR (j := 8) rfl rfl rfl rfl (fun q1 m2 hR3 => ?_)
    exact li_X1_closePart_16 hR3
theorem li_X1_closePart {pg hs : Rst} {P H : Int} {q : Rst} {m : Mem} (hR : Hp q pg hs P H m) : LiH pg hs P H (H_1_closePart pg hs q) (X1_closePart 101 m) m := li_X1_closePart_0 hR
theorem li_X1_isNextAgain_0 {pg hs : Rst} {P H : Int} {l1 l2 : Int} {q : Rst} {m : Mem} (hR : Hp q pg hs P H m) : LiH pg hs P H (H_1_isNextAgain_0 pg hs l1 l2 q) (X1_isNextAgain_0 101 l1 l2 m) m := by
  unfold H_1_isNextAgain_0 X1_isNextAgain_0
  refine Lh_chkX ((by decide)) ?_
  refine Lh_ite (by simp only [hd_7 hR]) ?_ ?_
  · exact Lh_ret rfl hR
  · refine Lh_ite (by simp only [hd_10 hR, hd_11 hR]) ?_ ?_
    · exact Lh_ret rfl hR
    · refine Lh_ite (by simp only [hd_10 hR]) ?_ ?_
      · exact Lh_ret rfl hR
      · refine Lh_chkX ((by simp only [hH hR]; exact hHp hR)) ?_
        refine Lh_chk (fun ⟨c1, c2⟩ => ⟨(by simp only [hH hR, hHa0 hR]; exact hHq0 hR), (by simp only [hd_10 hR]; exact c1), (by simp only [hd_10 hR]; exact c2)⟩) (fun ⟨c1, c2⟩ => ?_)
        refine Lh_ite (by simp only [hH hR, hHa0 hR, hHg0 hR, hd_10 hR]) ?_ ?_
        · refine Lh_chk (fun ⟨c3, c4⟩ => ⟨(by simp only [hH hR, hHa1 hR]; exact hHq1 hR), (by simp only [hd_10 hR]; exact c3), (by simp only [hd_10 hR]; exact c4)⟩) (fun ⟨c3, c4⟩ => ?_)
          refine Lh_ite (by simp only [hH hR, hHa1 hR, hHg1 hR, hd_10 hR]) ?_ ?_
          · exact Lh_ret rfl hR
          · exact Lh_ret rfl hR
        · exact Lh_ret rfl hR
theorem li_X1_isNextAgain {pg hs : Rst} {P H : Int} {a1 a2 : Int} {q : Rst} {m : Mem} (hR : Hp q pg hs P H m) : LiH pg hs P H (H_1_isNextAgain pg hs a1 a2 q) (X1_isNextAgain 101 a1 a2 m) m := Lh_bool (li_X1_isNextAgain_0 hR)
theorem li_X1_put_112 {pg hs : Rst} {P H : Int} {q : Rst} {m : Mem} (hR : Hp q pg hs P H m) : LiH pg hs P H (H_1_put_112 pg hs q) (X1_put_112 101 m) m := by
  unfold H_1_put_112 X1_put_112
  refine Lh_chkX ((by decide)) ?_
  refine Lh_chk (fun c1 => (by simp only [hd_3 hR]; exact c1)) (fun c1 => ?_)
  refine Lh_de hR (j := 3) rfl rfl rfl (by simp only [hd_3 hR]) (fun q2 m3 hR4 => ?_)
  exact Lh_ret rfl hR4
theorem li_X1_put_62 {pg hs : Rst} {P H : Int} {l1 l2 l3 s0 s1 : Int} {q : Rst} {m : Mem} (hR : Hp q pg hs P H m) : LiH pg hs P H (H_1_put_62 pg hs l1 l2 l3 s0 s1 q) (X1_put_62 101 l1 l2 l3 s0 s1 101 m) m := by
  unfold H_1_put_62 X1_put_62
  refine Lh_chk (fun c1 => c1) (fun c1 => ?_)
  refine Lh_chkX ((by decide)) ?_
  refine Lh_de hR (j := 6) rfl rfl rfl rfl (fun q2 m3 hR4 => ?_)
  refine Lh_chkX ((by decide)) ?_
  refine Lh_ite (by simp only [hd_7 hR4]) ?_ ?_
  · refine Lh_ite (by simp only [hd_3 hR4]) ?_ ?_
    · exact li_X1_put_112 hR4
    · refine Lh_chk (fun ⟨c30, c31⟩ => ⟨(by simp only [hDA0 hR4]; decide), (by simp only [hd_3 hR4]; exact c30), (by simp only [hd_3 hR4]; exact c31)⟩) (fun ⟨c30, c31⟩ => ?_)
      refine Lh_ar42 hR4 (by simp only [hDA0 hR4]) (by simp only [hd_3 hR4]) rfl (fun q32 m33 hR34 => ?_)
      refine Lh_chk (fun ⟨c35, c36⟩ => ⟨(by simp only [hDA1 hR34]; decide), (by simp only [hd_3 hR34]; exact c35), (by simp only [hd_3 hR34]; exact c36)⟩) (fun ⟨c35, c36⟩ => ?_)
      refine Lh_ar43 hR34 (by simp only [hDA1 hR34]) (by simp only [hd_3 hR34]) rfl (fun q37 m38 hR39 => ?_)
      refine Lh_chk (fun ⟨c40, c41⟩ => ⟨(by simp only [hDA2 hR39]; decide), (by simp only [hd_3 hR39]; exact c40), (by simp only [hd_3 hR39]; exact c41)⟩) (fun ⟨c40, c41⟩ => ?_)
      refine Lh_ar44 hR39 (by simp only [hDA2 hR39]) (by simp only [hd_3 hR39]) rfl (fun q42 m43 hR44 => ?_)
      exact li_X1_put_112 hR44
  · refine Lh_ite (by simp only [hd_10 hR4, hd_11 hR4]) ?_ ?_
    · refine Lh_de hR4 (j := 8) rfl rfl rfl rfl (fun q5 m6 hR7 => ?_)
      exact Lh_ret rfl hR7
    · refine Lh_ite (by simp only [hd_10 hR4]) ?_ ?_
      · refine Lh_de hR4 (j := 8) rfl rfl rfl rfl (fun q8 m9 hR10 => ?_)
        exact Lh_ret rfl hR10
      · refine Lh_chkX ((by simp only [hH hR4]; exact hHp hR4)) ?_
        refine Lh_chk (fun ⟨c11, c12⟩ => ⟨(by simp only [hH hR4, hHa0 hR4]; exact hHq0 hR4), (by simp only [hd_10 hR4]; exact c11), (by simp only [hd_10 hR4]; exact c12)⟩) (fun ⟨c11, c12⟩ => ?_)
        refine Lh_ite (by simp only [hH hR4, hHa0 hR4, hHg0 hR4, hd_10 hR4]) ?_ ?_
        · refine Lh_chk (fun ⟨c16, c17⟩ => ⟨(by simp only [hH hR4, hHa1 hR4]; exact hHq1 hR4), (by simp only [hd_10 hR4]; exact c16), (by simp only [hd_10 hR4]; exact c17)⟩) (fun ⟨c16, c17⟩ => ?_)
          refine Lh_ite (by simp only [hH hR4, hHa1 hR4, hHg1 hR4, hd_10 hR4]) ?_ ?_
          · refine Lh_chk (fun ⟨c21, c22⟩ => ⟨(by simp only [hH hR4, hHa2 hR4]; exact hHq2 hR4), (by simp only [hd_10 hR4]; exact c21), (by simp only [hd_10 hR4]; exact c22)⟩) (fun ⟨c21, c22⟩ => ?_)
            refine Lh_ite (by simp only [hH hR4, hHa2 hR4, hHg2 hR4, hd_10 hR4]) ?_ ?_
            · refine Lh_chk (fun c26 => (by simp only [hd_10 hR4]; exact c26)) (fun c26 => ?_)
              refine Lh_de hR4 (j := 10) rfl rfl rfl (by simp only [hd_10 hR4]) (fun q27 m28 hR29 => ?_)
              exact Lh_ret rfl hR29
            · refine Lh_de hR4 (j := 8) rfl rfl rfl rfl (fun q23 m24 hR25 => ?_)
              exact Lh_ret rfl hR25
          · refine Lh_de hR4 (j := 8) rfl rfl rfl rfl (fun q18 m19 hR20 => ?_)
            exact Lh_ret rfl hR20
        · refine Lh_de hR4 (j := 8) rfl rfl rfl rfl (fun q13 m14 hR15 => ?_)
          exact Lh_ret rfl hR15
theorem li_X1_put_42 {pg hs : Rst} {P H : Int} {l1 l2 l3 s0 s1 : Int} {q : Rst} {m : Mem} (hR : Hp q pg hs P H m) : LiH pg hs P H (H_1_put_42 pg hs l1 l2 l3 s0 s1 q) (X1_put_42 101 l1 l2 l3 s0 s1 101 m) m := by
  unfold H_1_put_42 X1_put_42
  refine Lh_chk (fun c1 => c1) (fun c1 => ?_)
  refine Lh_chkX ((by decide)) ?_
  refine Lh_de hR (j := 5) rfl rfl rfl rfl (fun q2 m3 hR4 => ?_)
  refine Lh_chkX ((by decide)) ?_
  refine Lh_ite Iff.rfl ?_ ?_
  · simp only [hd_6 hR4]
    exact li_X1_put_62 hR4
  · simp only [hd_6 hR4]
    exact li_X1_put_62 hR4
theorem li_X1_put_22 {pg hs : Rst} {P H : Int} {l1 l2 l3 s0 s1 : Int} {q : Rst} {m : Mem} (hR : Hp q pg hs P H m) : LiH pg hs P H (H_1_put_22 pg hs l1 l2 l3 s0 s1 q) (X1_put_22 101 l1 l2 l3 s0 s1 101 m) m := by
  unfold H_1_put_22 X1_put_22
  refine Lh_chk (fun c1 => c1) (fun c1 => ?_)
  refine Lh_chkX ((by decide)) ?_
  refine Lh_de hR (j := 4) rfl rfl rfl rfl (fun q2 m3 hR4 => ?_)
  refine Lh_chkX ((by decide)) ?_
  refine Lh_ite Iff.rfl ?_ ?_
  · simp only [hd_5 hR4]
    exact li_X1_put_42 hR4
  · simp only [hd_5 hR4]
    exact li_X1_put_42 hR4
theorem li_X1_put_0 {pg hs : Rst} {P H : Int} {l1 l2 l3 : Int} {q : Rst} {m : Mem} (hR : Hp q pg hs P H m) : LiH pg hs P H (H_1_put_0 pg hs l1 l2 l3 q) (X1_put_0 101 l1 l2 l3 m) m := by
  unfold H_1_put_0 X1_put_0
  refine Lh_chkX ((by decide)) ?_
  refine Lh_ite Iff.rfl ?_ ?_
  · simp only [hd_4 hR]
    exact li_X1_put_22 hR
  · refine Lh_ite Iff.rfl ?_ ?_
    · simp only [hd_4 hR]
      exact li_X1_put_22 hR
    · simp only [hd_4 hR]
      exact li_X1_put_22 hR
theorem li_X1_put {pg hs : Rst} {P H : Int} {a1 a2 a3 : Int} {q : Rst} {m : Mem} (hR : Hp q pg hs P H m) : LiH pg hs P H (H_1_put pg hs a1 a2 a3 q) (X1_put 101 a1 a2 a3 m) m := li_X1_put_0 hR
theorem li_X1_failTooLong_0 {pg hs : Rst} {P H : Int} {q : Rst} {m : Mem} (hR : Hp q pg hs P H m) : LiH pg hs P H (H_1_failTooLong_0 pg hs q) (X1_failTooLong_0 101 m) m := by
  unfold H_1_failTooLong_0 X1_failTooLong_0
  refine Lh_chkX ((by decide)) ?_
  refine Lh_de hR (j := 3) rfl rfl rfl rfl (fun q1 m2 hR3 => ?_)
  refine Lh_cal (li_X1_put hR3) (fun v5 q4 m6 hR7 => ?_)
  exact Lh_ret rfl hR7
theorem li_X1_failTooLong {pg hs : Rst} {P H : Int} {q : Rst} {m : Mem} (hR : Hp q pg hs P H m) : LiH pg hs P H (H_1_failTooLong pg hs q) (X1_failTooLong 101 m) m := li_X1_failTooLong_0 hR
theorem li_X4_isOver_0 {pg hs : Rst} {P H : Int} {q : Rst} {m : Mem} (hR : Hp q pg hs P H m) : LiH pg hs P H (H_4_isOver_0 pg hs q) (X4_isOver_0 100 m) m := by
  unfold H_4_isOver_0 X4_isOver_0
  refine Lh_chkX ((by decide)) ?_
  refine Lh_ite (by simp only [hs_9 hR]) ?_ ?_
  · exact Lh_ret rfl hR
  · exact Lh_ret rfl hR
theorem li_X4_isOver {pg hs : Rst} {P H : Int} {q : Rst} {m : Mem} (hR : Hp q pg hs P H m) : LiH pg hs P H (H_4_isOver pg hs q) (X4_isOver 100 m) m := Lh_bool (li_X4_isOver_0 hR)
theorem li_X4_waitingPlace_0 {pg hs : Rst} {P H : Int} {q : Rst} {m : Mem} (hR : Hp q pg hs P H m) : LiH pg hs P H (H_4_waitingPlace_0 pg hs q) (X4_waitingPlace_0 100 m) m := by
  unfold H_4_waitingPlace_0 X4_waitingPlace_0
  refine Lh_chkX ((by decide)) ?_
  refine Lh_ite (by simp only [hs_9 hR]) ?_ ?_
  · exact Lh_ret (by simp only [hs_10 hR]) hR
  · exact Lh_ret rfl hR
theorem li_X4_waitingPlace {pg hs : Rst} {P H : Int} {q : Rst} {m : Mem} (hR : Hp q pg hs P H m) : LiH pg hs P H (H_4_waitingPlace pg hs q) (X4_waitingPlace 100 m) m := li_X4_waitingPlace_0 hR
theorem li_X4_begin_42 {pg hs : Rst} {P H : Int} {q : Rst} {m : Mem} (hR : Hp q pg hs P H m) : LiH pg hs P H (H_4_begin_42 pg hs q) (X4_begin_42 100 m) m := by
  unfold H_4_begin_42 X4_begin_42
  refine Lh_chkX ((by decide)) ?_
  refine Lh_pl hR (j := 2) rfl rfl rfl rfl rfl (fun q1 m2 hR3 => ?_)
  refine Lh_pl hR3 (j := 6) rfl rfl rfl rfl rfl (fun q4 m5 hR6 => ?_)
  refine Lh_pl hR6 (j := 9) rfl rfl rfl rfl rfl (fun q7 m8 hR9 => ?_)
  refine Lh_pl hR9 (j := 10) rfl rfl rfl rfl rfl (fun q10 m11 hR12 => ?_)
  refine Lh_pl hR12 (j := 11) rfl rfl rfl rfl rfl (fun q13 m14 hR15 => ?_)
  refine Lh_pl hR15 (j := 12) rfl rfl rfl rfl rfl (fun q16 m17 hR18 => ?_)
  refine Lh_pl hR18 (j := 13) rfl rfl rfl rfl rfl (fun q19 m20 hR21 => ?_)
  refine Lh_pl hR21 (j := 14) rfl rfl rfl rfl rfl (fun q22 m23 hR24 => ?_)
  refine Lh_pl hR24 (j := 15) rfl rfl rfl rfl rfl (fun q25 m26 hR27 => ?_)
  refine Lh_pl hR27 (j := 16) rfl rfl rfl rfl rfl (fun q28 m29 hR30 => ?_)
  refine Lh_pl hR30 (j := 17) rfl rfl rfl rfl rfl (fun q31 m32 hR33 => ?_)
  refine Lh_pl hR33 (j := 18) rfl rfl rfl rfl rfl (fun q34 m35 hR36 => ?_)
  refine Lh_pl hR36 (j := 19) rfl rfl rfl rfl rfl (fun q37 m38 hR39 => ?_)
  exact Lh_ret rfl hR39
theorem li_X4_begin_21 {pg hs : Rst} {P H : Int} {k42 : Rst → Option G2} {k42' : Int → Mem → Option R2} (hk42 : ∀ {q : Rst} {m : Mem}, Hp q pg hs P H m → LiH pg hs P H (k42 q) (k42' 100 m) m) : ∀ (n : Nat) {l4 : Int} {q : Rst} {m : Mem}, Hp q pg hs P H m → LiH pg hs P H (H_4_begin_21 pg hs k42 n l4 q) (X4_begin_21 k42' n 100 l4 m) m := by
  intro n
  induction n with
  | zero =>
    intro l4 q m hR
    exact Lh_none
  | succ n ih =>
    intro l4 q m hR
    rw [H_4_begin_21, X4_begin_21]
    refine Lh_ite Iff.rfl ?_ ?_
    · exact hk42 hR
    · refine Lh_chkX ((by decide)) ?_
      refine Lh_chk (fun ⟨c1, c2⟩ => ⟨(by simp only [hPA1 hR]; decide), c1, c2⟩) (fun ⟨c1, c2⟩ => ?_)
      refine Lh_ar20 hR (by simp only [hPA1 hR]) rfl rfl (fun q3 m4 hR5 => ?_)
      refine Lh_chk (fun c6 => c6) (fun c6 => ?_)
      exact ih hR5
theorem li_X8_become_0 {pg hs : Rst} {P H : Int} {l0 l1 l2 : Int} {q : Rst} {m : Mem} (b0 : 0 ≤ l0) (b1 : l0 < 3) (hR : Hp q pg hs P H m) : LiH pg hs P H (H_8_become_0 pg hs l0 l1 l2 q) (X8_become_0 (130 + l0) l1 l2 m) m := by
  unfold H_8_become_0 X8_become_0
  refine Lh_chkX ((by omega)) ?_
  refine Lh_sl hR (j := 5) (by decide) rfl b0 b1 rfl rfl (fun q1 m2 hR3 => ?_)
  refine Lh_sl hR3 (j := 6) (by decide) rfl b0 b1 rfl rfl (fun q4 m5 hR6 => ?_)
  refine Lh_chk (fun c7 => c7) (fun c7 => ?_)
  refine Lh_sl hR6 (j := 7) (by decide) rfl b0 b1 rfl rfl (fun q8 m9 hR10 => ?_)
  exact Lh_ret rfl hR10
theorem li_X8_become {pg hs : Rst} {P H : Int} {a0 a1 a2 : Int} {q : Rst} {m : Mem} (b0 : 0 ≤ a0) (b1 : a0 < 3) (hR : Hp q pg hs P H m) : LiH pg hs P H (H_8_become pg hs a0 a1 a2 q) (X8_become (130 + a0) a1 a2 m) m := li_X8_become_0 b0 b1 hR
theorem li_X4_hearActivity_24 {pg hs : Rst} {P H : Int} : ∀ (n : Nat) {l1 l2 l3 l4 : Int} {q : Rst} {m : Mem}, Hp q pg hs P H m → LiH pg hs P H (H_4_hearActivity_24 pg hs n l1 l2 l3 l4 q) (X4_hearActivity_24 n 100 l1 l2 l3 l4 m) m := by
  intro n
  induction n with
  | zero =>
    intro l1 l2 l3 l4 q m hR
    exact Lh_none
  | succ n ih =>
    intro l1 l2 l3 l4 q m hR
    rw [H_4_hearActivity_24, X4_hearActivity_24]
    refine Lh_chkX ((by decide)) ?_
    refine Lh_ite (by simp only [hs_12 hR]) ?_ ?_
    · exact Lh_ret rfl hR
    · refine Lh_chk (fun ⟨c1, c2⟩ => ⟨(by simp only [hSl hR]; decide), c1, c2⟩) (fun ⟨c1, c2⟩ => ?_)
      refine Lh_chkX ((by simp only [hSi hR c1 c2, hSl hR]; omega)) ?_
      refine Lh_ite (by simp only [hSi hR c1 c2, hSl hR, hl_1 hR c1 c2]) ?_ ?_
      · refine Lh_chk (fun ⟨c4, c5⟩ => ⟨c4, c5⟩) (fun ⟨c4, c5⟩ => ?_)
        refine Lh_cal (by simp only [hSi hR c4 c5, hSl hR]; exact li_X8_become c4 c5 hR) (fun v7 q6 m8 hR9 => ?_)
        refine Lh_chk (fun c10 => c10) (fun c10 => ?_)
        exact ih hR9
      · refine Lh_chk (fun c3 => c3) (fun c3 => ?_)
        exact ih hR
theorem li_X4_hearActivity_0 {pg hs : Rst} {P H : Int} {l1 l2 l3 : Int} {q : Rst} {m : Mem} (hR : Hp q pg hs P H m) : LiH pg hs P H (H_4_hearActivity_0 pg hs l1 l2 l3 q) (X4_hearActivity_0 100 l1 l2 l3 m) m := by
  unfold H_4_hearActivity_0 X4_hearActivity_0
  refine Lh_chkX ((by decide)) ?_
  refine Lh_ite (by simp only [hs_9 hR]) ?_ ?_
  · refine Lh_ite (by simp only [hs_17 hR]) ?_ ?_
    · refine Lh_pl hR (j := 9) rfl rfl rfl rfl rfl (fun q1 m2 hR3 => ?_)
      exact li_X4_hearActivity_24 fuel9 hR3
    · exact li_X4_hearActivity_24 fuel9 hR
  · exact li_X4_hearActivity_24 fuel9 hR
theorem li_X4_hearActivity {pg hs : Rst} {P H : Int} {a1 a2 a3 : Int} {q : Rst} {m : Mem} (hR : Hp q pg hs P H m) : LiH pg hs P H (H_4_hearActivity pg hs a1 a2 a3 q) (X4_hearActivity 100 a1 a2 a3 m) m := li_X4_hearActivity_0 hR
theorem li_X4_hearTimer_2 {pg hs : Rst} {P H : Int} : ∀ (n : Nat) {l1 l2 : Int} {q : Rst} {m : Mem}, Hp q pg hs P H m → LiH pg hs P H (H_4_hearTimer_2 pg hs n l1 l2 q) (X4_hearTimer_2 n 100 l1 l2 m) m := by
  intro n
  induction n with
  | zero =>
    intro l1 l2 q m hR
    exact Lh_none
  | succ n ih =>
    intro l1 l2 q m hR
    rw [H_4_hearTimer_2, X4_hearTimer_2]
    refine Lh_chkX ((by decide)) ?_
    refine Lh_ite (by simp only [hs_12 hR]) ?_ ?_
    · exact Lh_ret rfl hR
    · refine Lh_chk (fun ⟨c1, c2⟩ => ⟨(by simp only [hSl hR]; decide), c1, c2⟩) (fun ⟨c1, c2⟩ => ?_)
      refine Lh_chkX ((by simp only [hSi hR c1 c2, hSl hR]; omega)) ?_
      refine Lh_ite (by simp only [hSi hR c1 c2, hSl hR, hl_2 hR c1 c2]) ?_ ?_
      · refine Lh_chk (fun ⟨c4, c5⟩ => ⟨c4, c5⟩) (fun ⟨c4, c5⟩ => ?_)
        refine Lh_ite (by simp only [hSi hR c4 c5, hSl hR, hl_6 hR c4 c5]) ?_ ?_
        · refine Lh_chk (fun ⟨c7, c8⟩ => ⟨c7, c8⟩) (fun ⟨c7, c8⟩ => ?_)
          refine Lh_cal (by simp only [hSi hR c7 c8, hSl hR]; exact li_X8_become c7 c8 hR) (fun v10 q9 m11 hR12 => ?_)
          refine Lh_chk (fun c13 => c13) (fun c13 => ?_)
          exact ih hR12
        · refine Lh_chk (fun c6 => c6) (fun c6 => ?_)
          exact ih hR
      · refine Lh_chk (fun c3 => c3) (fun c3 => ?_)
        exact ih hR
theorem li_X4_hearTimer_0 {pg hs : Rst} {P H : Int} {l1 : Int} {q : Rst} {m : Mem} (hR : Hp q pg hs P H m) : LiH pg hs P H (H_4_hearTimer_0 pg hs l1 q) (X4_hearTimer_0 100 l1 m) m := by
  unfold H_4_hearTimer_0 X4_hearTimer_0
  exact li_X4_hearTimer_2 fuel9 hR
theorem li_X4_hearTimer {pg hs : Rst} {P H : Int} {a1 : Int} {q : Rst} {m : Mem} (hR : Hp q pg hs P H m) : LiH pg hs P H (H_4_hearTimer pg hs a1 q) (X4_hearTimer 100 a1 m) m := li_X4_hearTimer_0 hR
theorem li_X4_noteTaken_0 {pg hs : Rst} {P H : Int} {l1 : Int} {q : Rst} {m : Mem} (hR : Hp q pg hs P H m) : LiH pg hs P H (H_4_noteTaken_0 pg hs l1 q) (X4_noteTaken_0 100 l1 m) m := by
  unfold H_4_noteTaken_0 X4_noteTaken_0
  refine Lh_ite Iff.rfl ?_ ?_
  · exact Lh_ret rfl hR
  · refine Lh_ite Iff.rfl ?_ ?_
    · exact Lh_ret rfl hR
    · refine Lh_chkX ((by decide)) ?_
      refine Lh_chk (fun ⟨c1, c2⟩ => ⟨(by simp only [hPA1 hR]; decide), c1, c2⟩) (fun ⟨c1, c2⟩ => ?_)
      refine Lh_ar20 hR (by simp only [hPA1 hR]) rfl rfl (fun q3 m4 hR5 => ?_)
      exact Lh_ret rfl hR5
theorem li_X4_noteTaken {pg hs : Rst} {P H : Int} {a1 : Int} {q : Rst} {m : Mem} (hR : Hp q pg hs P H m) : LiH pg hs P H (H_4_noteTaken pg hs a1 q) (X4_noteTaken 100 a1 m) m := li_X4_noteTaken_0 hR
theorem li_X4_hearSignal_35 {pg hs : Rst} {P H : Int} {l2 l4 : Int} {q : Rst} {m : Mem} (b0 : 0 ≤ l4) (b1 : l4 < 3) (hR : Hp q pg hs P H m) : LiH pg hs P H (H_4_hearSignal_35 pg hs l2 l4 q) (X4_hearSignal_35 100 l2 (130 + l4) m) m := by
  unfold H_4_hearSignal_35 X4_hearSignal_35
  refine Lh_chkX ((by omega)) ?_
  refine Lh_cal (li_X8_become b0 b1 hR) (fun v2 q1 m3 hR4 => ?_)
  refine Lh_chkX ((by decide)) ?_
  refine Lh_chk (fun c5 => (by simp only [hs_19 hR4]; exact c5)) (fun c5 => ?_)
  refine Lh_cal (by simp only [hs_19 hR4]; exact li_X4_noteTaken hR4) (fun v7 q6 m8 hR9 => ?_)
  refine Lh_ite (by simp only [hl_2 hR9 b0 b1]) ?_ ?_
  · exact Lh_ret rfl hR9
  · refine Lh_chkX ((by simp only [hD hR9]; decide)) ?_
    refine Lh_cal (by simp only [hD hR9, hl_2 hR9 b0 b1]; exact li_X1_put hR9) (fun v11 q10 m12 hR13 => ?_)
    exact Lh_ret rfl hR13
theorem li_X4_hearSignal_2 {pg hs : Rst} {P H : Int} {k35 : Int → Int → Rst → Option G2} {k35' : Int → Int → Int → Mem → Option R2} (hk35 : ∀ {l2 l4 : Int} {q : Rst} {m : Mem}, 0 ≤ l4 → l4 < 3 → Hp q pg hs P H m → LiH pg hs P H (k35 l2 l4 q) (k35' 100 l2 (130 + l4) m) m) : ∀ (n : Nat) {l1 l2 l3 : Int} {q : Rst} {m : Mem}, Hp q pg hs P H m → LiH pg hs P H (H_4_hearSignal_2 pg hs k35 n l1 l2 l3 q) (X4_hearSignal_2 k35' n 100 l1 l2 l3 m) m := by
  intro n
  induction n with
  | zero =>
    intro l1 l2 l3 q m hR
    exact Lh_none
  | succ n ih =>
    intro l1 l2 l3 q m hR
    rw [H_4_hearSignal_2, X4_hearSignal_2]
    refine Lh_chkX ((by decide)) ?_
    refine Lh_ite (by simp only [hs_12 hR]) ?_ ?_
    · exact Lh_ret rfl hR
    · refine Lh_chk (fun ⟨c1, c2⟩ => ⟨(by simp only [hSl hR]; decide), c1, c2⟩) (fun ⟨c1, c2⟩ => ?_)
      refine Lh_chkX ((by simp only [hSi hR c1 c2, hSl hR]; omega)) ?_
      refine Lh_ite (by simp only [hSi hR c1 c2, hSl hR, hl_4 hR c1 c2]) ?_ ?_
      · refine Lh_ite (by simp only [hSi hR c1 c2, hSl hR, hl_6 hR c1 c2]) ?_ ?_
        · simp only [hSi hR c1 c2, hSl hR]
          exact hk35 c1 c2 hR
        · refine Lh_chk (fun c4 => c4) (fun c4 => ?_)
          exact ih hR
      · refine Lh_chk (fun c3 => c3) (fun c3 => ?_)
        exact ih hR
theorem li_X4_hearSignal_0 {pg hs : Rst} {P H : Int} {l1 l2 : Int} {q : Rst} {m : Mem} (hR : Hp q pg hs P H m) : LiH pg hs P H (H_4_hearSignal_0 pg hs l1 l2 q) (X4_hearSignal_0 100 l1 l2 m) m := by
  unfold H_4_hearSignal_0 X4_hearSignal_0
  exact li_X4_hearSignal_2 (fun b0 b1 hR => li_X4_hearSignal_35 b0 b1 hR) fuel9 hR
theorem li_X4_hearSignal {pg hs : Rst} {P H : Int} {a1 a2 : Int} {q : Rst} {m : Mem} (hR : Hp q pg hs P H m) : LiH pg hs P H (H_4_hearSignal pg hs a1 a2 q) (X4_hearSignal 100 a1 a2 m) m := li_X4_hearSignal_0 hR
theorem li_X4_hearChild_2 {pg hs : Rst} {P H : Int} : ∀ (n : Nat) {l1 l2 l3 : Int} {q : Rst} {m : Mem}, Hp q pg hs P H m → LiH pg hs P H (H_4_hearChild_2 pg hs n l1 l2 l3 q) (X4_hearChild_2 n 100 l1 l2 l3 m) m := by
  intro n
  induction n with
  | zero =>
    intro l1 l2 l3 q m hR
    exact Lh_none
  | succ n ih =>
    intro l1 l2 l3 q m hR
    rw [H_4_hearChild_2, X4_hearChild_2]
    refine Lh_chkX ((by decide)) ?_
    refine Lh_ite (by simp only [hs_12 hR]) ?_ ?_
    · exact Lh_ret rfl hR
    · refine Lh_chk (fun ⟨c1, c2⟩ => ⟨(by simp only [hSl hR]; decide), c1, c2⟩) (fun ⟨c1, c2⟩ => ?_)
      refine Lh_chkX ((by simp only [hSi hR c1 c2, hSl hR]; omega)) ?_
      refine Lh_ite (by simp only [hSi hR c1 c2, hSl hR, hl_3 hR c1 c2]) ?_ ?_
      · refine Lh_chk (fun ⟨c4, c5⟩ => ⟨c4, c5⟩) (fun ⟨c4, c5⟩ => ?_)
        refine Lh_cal (by simp only [hSi hR c4 c5, hSl hR]; exact li_X8_become c4 c5 hR) (fun v7 q6 m8 hR9 => ?_)
        refine Lh_chk (fun c10 => c10) (fun c10 => ?_)
        exact ih hR9
      · refine Lh_chk (fun c3 => c3) (fun c3 => ?_)
        exact ih hR
theorem li_X4_hearChild_0 {pg hs : Rst} {P H : Int} {l1 l2 : Int} {q : Rst} {m : Mem} (hR : Hp q pg hs P H m) : LiH pg hs P H (H_4_hearChild_0 pg hs l1 l2 q) (X4_hearChild_0 100 l1 l2 m) m := by
  unfold H_4_hearChild_0 X4_hearChild_0
  exact li_X4_hearChild_2 fuel9 hR
theorem li_X4_hearChild {pg hs : Rst} {P H : Int} {a1 a2 : Int} {q : Rst} {m : Mem} (hR : Hp q pg hs P H m) : LiH pg hs P H (H_4_hearChild pg hs a1 a2 q) (X4_hearChild 100 a1 a2 m) m := li_X4_hearChild_0 hR
theorem li_X4_backOut_0 {pg hs : Rst} {P H : Int} {l1 : Int} {q : Rst} {m : Mem} (hR : Hp q pg hs P H m) : LiH pg hs P H (H_4_backOut_0 pg hs l1 q) (X4_backOut_0 100 l1 m) m := by
  unfold H_4_backOut_0 X4_backOut_0
  refine Lh_chkX ((by decide)) ?_
  refine Lh_pl hR (j := 18) rfl rfl rfl rfl rfl (fun q1 m2 hR3 => ?_)
  refine Lh_pl hR3 (j := 12) rfl rfl rfl rfl rfl (fun q4 m5 hR6 => ?_)
  refine Lh_pl hR6 (j := 9) rfl rfl rfl rfl rfl (fun q7 m8 hR9 => ?_)
  exact Lh_ret rfl hR9
theorem li_X4_backOut {pg hs : Rst} {P H : Int} {a1 : Int} {q : Rst} {m : Mem} (hR : Hp q pg hs P H m) : LiH pg hs P H (H_4_backOut pg hs a1 q) (X4_backOut 100 a1 m) m := li_X4_backOut_0 hR
theorem li_X4_cut_120 {pg hs : Rst} {P H : Int} {q : Rst} {m : Mem} (hR : Hp q pg hs P H m) : LiH pg hs P H (H_4_cut_120 pg hs q) (X4_cut_120 100 m) m := by
  unfold H_4_cut_120 X4_cut_120
  refine Lh_chkX ((by decide)) ?_
  refine Lh_cal (li_X4_backOut hR) (fun v2 q1 m3 hR4 => ?_)
  exact Lh_ret rfl hR4
theorem li_X4_cut_62 {pg hs : Rst} {P H : Int} {k120 : Rst → Option G2} {k120' : Int → Mem → Option R2} (hk120 : ∀ {q : Rst} {m : Mem}, Hp q pg hs P H m → LiH pg hs P H (k120 q) (k120' 100 m) m) : ∀ (n : Nat) {l1 : Int} {q : Rst} {m : Mem}, Hp q pg hs P H m → LiH pg hs P H (H_4_cut_62 pg hs k120 n l1 q) (X4_cut_62 k120' n 100 l1 m) m := by
  intro n
  induction n with
  | zero =>
    intro l1 q m hR
    exact Lh_none
  | succ n ih =>
    intro l1 q m hR
    rw [H_4_cut_62, X4_cut_62]
    refine Lh_chkX ((by decide)) ?_
    refine Lh_ite (by simp only [hs_12 hR]) ?_ ?_
    · exact hk120 hR
    · refine Lh_chk (fun ⟨c1, c2⟩ => ⟨(by simp only [hSl hR]; decide), c1, c2⟩) (fun ⟨c1, c2⟩ => ?_)
      refine Lh_chkX ((by simp only [hSi hR c1 c2, hSl hR]; omega)) ?_
      refine Lh_ite (by simp only [hSi hR c1 c2, hSl hR, hl_2 hR c1 c2]) ?_ ?_
      · refine Lh_chk (fun c3 => c3) (fun c3 => ?_)
        exact ih hR
      · refine Lh_chk (fun ⟨c4, c5⟩ => ⟨c4, c5⟩) (fun ⟨c4, c5⟩ => ?_)
        refine Lh_ite (by simp only [hSi hR c4 c5, hSl hR, hl_6 hR c4 c5]) ?_ ?_
        · refine Lh_chk (fun ⟨c7, c8⟩ => ⟨c7, c8⟩) (fun ⟨c7, c8⟩ => ?_)
          refine Lh_chkX ((by simp only [hD hR]; decide)) ?_
          refine Lh_cal (by simp only [hD hR, hSi hR c7 c8, hSl hR, hl_2 hR c7 c8]; exact li_X1_put hR) (fun v10 q9 m11 hR12 => ?_)
          refine Lh_chk (fun c13 => c13) (fun c13 => ?_)
          exact ih hR12
        · refine Lh_chk (fun c6 => c6) (fun c6 => ?_)
          exact ih hR
theorem li_X4_cut_2 {pg hs : Rst} {P H : Int} {k62 : Int → Rst → Option G2} {k62' : Int → Int → Mem → Option R2} (hk62 : ∀ {l1 : Int} {q : Rst} {m : Mem}, Hp q pg hs P H m → LiH pg hs P H (k62 l1 q) (k62' 100 l1 m) m) : ∀ (n : Nat) {l1 : Int} {q : Rst} {m : Mem}, Hp q pg hs P H m → LiH pg hs P H (H_4_cut_2 pg hs k62 n l1 q) (X4_cut_2 k62' n 100 l1 m) m := by
  intro n
  induction n with
  | zero =>
    intro l1 q m hR
    exact Lh_none
  | succ n ih =>
    intro l1 q m hR
    rw [H_4_cut_2, X4_cut_2]
    refine Lh_chkX ((by decide)) ?_
    refine Lh_ite (by simp only [hs_12 hR]) ?_ ?_
    · exact hk62 hR
    · refine Lh_chk (fun ⟨c1, c2⟩ => ⟨(by simp only [hSl hR]; decide), c1, c2⟩) (fun ⟨c1, c2⟩ => ?_)
      refine Lh_chkX ((by simp only [hSi hR c1 c2, hSl hR]; omega)) ?_
      refine Lh_ite (by simp only [hSi hR c1 c2, hSl hR, hl_1 hR c1 c2]) ?_ ?_
      · refine Lh_chk (fun c3 => c3) (fun c3 => ?_)
        exact ih hR
      · refine Lh_chk (fun ⟨c4, c5⟩ => ⟨c4, c5⟩) (fun ⟨c4, c5⟩ => ?_)
        refine Lh_ite (by simp only [hSi hR c4 c5, hSl hR, hl_6 hR c4 c5]) ?_ ?_
        · refine Lh_chk (fun ⟨c7, c8⟩ => ⟨c7, c8⟩) (fun ⟨c7, c8⟩ => ?_)
          refine Lh_chkX ((by simp only [hD hR]; decide)) ?_
          refine Lh_cal (by simp only [hD hR, hSi hR c7 c8, hSl hR, hl_1 hR c7 c8]; exact li_X1_put hR) (fun v10 q9 m11 hR12 => ?_)
          refine Lh_chk (fun c13 => c13) (fun c13 => ?_)
          exact ih hR12
        · refine Lh_chk (fun c6 => c6) (fun c6 => ?_)
          exact ih hR
theorem li_X4_cut_0 {pg hs : Rst} {P H : Int} {q : Rst} {m : Mem} (hR : Hp q pg hs P H m) : LiH pg hs P H (H_4_cut_0 pg hs q) (X4_cut_0 100 m) m := by
  unfold H_4_cut_0 X4_cut_0
  exact li_X4_cut_2 (fun hR => li_X4_cut_62 (fun hR => li_X4_cut_120 hR) fuel9 hR) fuel9 hR
theorem li_X4_cut {pg hs : Rst} {P H : Int} {q : Rst} {m : Mem} (hR : Hp q pg hs P H m) : LiH pg hs P H (H_4_cut pg hs q) (X4_cut 100 m) m := li_X4_cut_0 hR
theorem li_X4_hearCancel_0 {pg hs : Rst} {P H : Int} {q : Rst} {m : Mem} (hR : Hp q pg hs P H m) : LiH pg hs P H (H_4_hearCancel_0 pg hs q) (X4_hearCancel_0 100 m) m := by
  unfold H_4_hearCancel_0 X4_hearCancel_0
  refine Lh_chkX ((by decide)) ?_
  refine Lh_ite (by simp only [hs_9 hR]) ?_ ?_
  · refine Lh_pl hR (j := 15) rfl rfl rfl rfl rfl (fun q1 m2 hR3 => ?_)
    refine Lh_ite (by simp only [hs_14 hR3]) ?_ ?_
    · refine Lh_cal (li_X4_cut hR3) (fun v5 q4 m6 hR7 => ?_)
      exact Lh_ret rfl hR7
    · exact Lh_ret rfl hR3
  · exact Lh_ret rfl hR
theorem li_X4_hearCancel {pg hs : Rst} {P H : Int} {q : Rst} {m : Mem} (hR : Hp q pg hs P H m) : LiH pg hs P H (H_4_hearCancel pg hs q) (X4_hearCancel 100 m) m := li_X4_hearCancel_0 hR
theorem li_X4_hear_65 {pg hs : Rst} {P H : Int} {s0 s1 s2 : Int} {q : Rst} {m : Mem} (hR : Hp q pg hs P H m) : LiH pg hs P H (H_4_hear_65 pg hs s0 s1 s2 q) (X4_hear_65 s0 s1 s2 100 m) m := by
  unfold H_4_hear_65 X4_hear_65
  refine Lh_chkX ((by decide)) ?_
  refine Lh_cal (li_X4_hearActivity hR) (fun v2 q1 m3 hR4 => ?_)
  exact Lh_ret rfl hR4
theorem li_X4_hear_0 {pg hs : Rst} {P H : Int} {l1 l2 l3 : Int} {q : Rst} {m : Mem} (hR : Hp q pg hs P H m) : LiH pg hs P H (H_4_hear_0 pg hs l1 l2 l3 q) (X4_hear_0 100 l1 l2 l3 m) m := by
  unfold H_4_hear_0 X4_hear_0
  refine Lh_ite Iff.rfl ?_ ?_
  · refine Lh_chkX ((by decide)) ?_
    refine Lh_pl hR (j := 2) rfl rfl rfl rfl rfl (fun q1 m2 hR3 => ?_)
    exact Lh_ret rfl hR3
  refine Lh_ite Iff.rfl ?_ ?_
  · refine Lh_ite Iff.rfl ?_ ?_
    · exact li_X4_hear_65 hR
    · exact li_X4_hear_65 hR
  refine Lh_ite Iff.rfl ?_ ?_
  · refine Lh_ite Iff.rfl ?_ ?_
    · exact li_X4_hear_65 hR
    · exact li_X4_hear_65 hR
  refine Lh_ite Iff.rfl ?_ ?_
  · refine Lh_chkX ((by decide)) ?_
    refine Lh_cal (li_X4_hearTimer hR) (fun v5 q4 m6 hR7 => ?_)
    exact Lh_ret rfl hR7
  refine Lh_ite Iff.rfl ?_ ?_
  · refine Lh_chkX ((by decide)) ?_
    refine Lh_cal (li_X4_hearSignal hR) (fun v9 q8 m10 hR11 => ?_)
    exact Lh_ret rfl hR11
  refine Lh_ite Iff.rfl ?_ ?_
  · refine Lh_chkX ((by decide)) ?_
    refine Lh_cal (li_X4_hearChild hR) (fun v13 q12 m14 hR15 => ?_)
    exact Lh_ret rfl hR15
  refine Lh_ite Iff.rfl ?_ ?_
  · refine Lh_chkX ((by decide)) ?_
    refine Lh_cal (li_X4_hearCancel hR) (fun v17 q16 m18 hR19 => ?_)
    exact Lh_ret rfl hR19
  exact Lh_ret rfl hR
theorem li_X4_hear {pg hs : Rst} {P H : Int} {a1 a2 a3 : Int} {q : Rst} {m : Mem} (hR : Hp q pg hs P H m) : LiH pg hs P H (H_4_hear pg hs a1 a2 a3 q) (X4_hear 100 a1 a2 a3 m) m := li_X4_hear_0 hR
theorem li_X4_settle_77 {pg hs : Rst} {P H : Int} {l1 l2 : Int} {q : Rst} {m : Mem} (hR : Hp q pg hs P H m) : LiH pg hs P H (H_4_settle_77 pg hs l1 l2 q) (X4_settle_77 100 l1 l2 m) m := by
  unfold H_4_settle_77 X4_settle_77
  refine Lh_chkX ((by decide)) ?_
  refine Lh_pl hR (j := 2) rfl rfl rfl rfl rfl (fun q1 m2 hR3 => ?_)
  refine Lh_ite Iff.rfl ?_ ?_
  · refine Lh_pl hR3 (j := 12) rfl rfl rfl rfl rfl (fun q4 m5 hR6 => ?_)
    refine Lh_pl hR6 (j := 10) rfl rfl rfl rfl (by simp only [hs_11 hR6]) (fun q7 m8 hR9 => ?_)
    refine Lh_pl hR9 (j := 9) rfl rfl rfl rfl rfl (fun q10 m11 hR12 => ?_)
    exact Lh_ret rfl hR12
  · refine Lh_cal (li_X4_backOut hR3) (fun v14 q13 m15 hR16 => ?_)
    exact Lh_ret rfl hR16
theorem li_X4_settle_18 {pg hs : Rst} {P H : Int} {k77 : Int → Int → Rst → Option G2} {k77' : Int → Int → Int → Mem → Option R2} (hk77 : ∀ {l1 l2 : Int} {q : Rst} {m : Mem}, Hp q pg hs P H m → LiH pg hs P H (k77 l1 l2 q) (k77' 100 l1 l2 m) m) : ∀ (n : Nat) {l1 l2 l3 : Int} {q : Rst} {m : Mem}, Hp q pg hs P H m → LiH pg hs P H (H_4_settle_18 pg hs k77 n l1 l2 l3 q) (X4_settle_18 k77' n 100 l1 l2 l3 m) m := by
  intro n
  induction n with
  | zero =>
    intro l1 l2 l3 q m hR
    exact Lh_none
  | succ n ih =>
    intro l1 l2 l3 q m hR
    rw [H_4_settle_18, X4_settle_18]
    refine Lh_chkX ((by decide)) ?_
    refine Lh_ite (by simp only [hs_12 hR]) ?_ ?_
    · exact hk77 hR
    · refine Lh_chk (fun ⟨c1, c2⟩ => ⟨(by simp only [hSl hR]; decide), c1, c2⟩) (fun ⟨c1, c2⟩ => ?_)
      refine Lh_chkX ((by simp only [hSi hR c1 c2, hSl hR]; omega)) ?_
      refine Lh_ite (by simp only [hSi hR c1 c2, hSl hR, hl_6 hR c1 c2]) ?_ ?_
      · exact Lh_ret rfl hR
      · refine Lh_ite (by simp only [hSi hR c1 c2, hSl hR, hl_7 hR c1 c2]) ?_ ?_
        · refine Lh_ite (by simp only [hSi hR c1 c2, hSl hR, hl_0 hR c1 c2]) ?_ ?_
          · refine Lh_chk (fun c3 => c3) (fun c3 => ?_)
            exact ih hR
          · refine Lh_chk (fun c4 => c4) (fun c4 => ?_)
            simp only [hSi hR c1 c2, hSl hR, hl_5 hR c1 c2]
            exact ih hR
        · refine Lh_chk (fun c5 => c5) (fun c5 => ?_)
          exact ih hR
theorem li_X4_settle_0 {pg hs : Rst} {P H : Int} {q : Rst} {m : Mem} (hR : Hp q pg hs P H m) : LiH pg hs P H (H_4_settle_0 pg hs q) (X4_settle_0 100 m) m := by
  unfold H_4_settle_0 X4_settle_0
  refine Lh_chkX ((by decide)) ?_
  refine Lh_ite (by simp only [hs_9 hR]) ?_ ?_
  · simp only [hs_2 hR]
    exact li_X4_settle_18 (fun hR => li_X4_settle_77 hR) fuel9 hR
  · exact Lh_ret rfl hR
theorem li_X4_settle {pg hs : Rst} {P H : Int} {q : Rst} {m : Mem} (hR : Hp q pg hs P H m) : LiH pg hs P H (H_4_settle pg hs q) (X4_settle 100 m) m := li_X4_settle_0 hR
theorem li_X4_isMoving_0 {pg hs : Rst} {P H : Int} {q : Rst} {m : Mem} (hR : Hp q pg hs P H m) : LiH pg hs P H (H_4_isMoving_0 pg hs q) (X4_isMoving_0 100 m) m := by
  unfold H_4_isMoving_0 X4_isMoving_0
  refine Lh_chkX ((by decide)) ?_
  refine Lh_chkX ((by simp only [hD hR]; decide)) ?_
  refine Lh_ite (by simp only [hD hR, hd_8 hR]) ?_ ?_
  · refine Lh_ite (by simp only [hs_9 hR]) ?_ ?_
    · exact Lh_ret rfl hR
    · refine Lh_ite (by simp only [hs_9 hR]) ?_ ?_
      · exact Lh_ret rfl hR
      · exact Lh_ret rfl hR
  · exact Lh_ret rfl hR
theorem li_X4_isMoving {pg hs : Rst} {P H : Int} {q : Rst} {m : Mem} (hR : Hp q pg hs P H m) : LiH pg hs P H (H_4_isMoving pg hs q) (X4_isMoving 100 m) m := Lh_bool (li_X4_isMoving_0 hR)
theorem li_X4_finish_0 {pg hs : Rst} {P H : Int} {l1 l2 : Int} {q : Rst} {m : Mem} (hR : Hp q pg hs P H m) : LiH pg hs P H (H_4_finish_0 pg hs l1 l2 q) (X4_finish_0 100 l1 l2 m) m := by
  unfold H_4_finish_0 X4_finish_0
  refine Lh_chkX ((by decide)) ?_
  refine Lh_chkX ((by simp only [hD hR]; decide)) ?_
  refine Lh_cal (by simp only [hD hR]; exact li_X1_put hR) (fun v2 q1 m3 hR4 => ?_)
  refine Lh_pl hR4 (j := 9) rfl rfl rfl rfl rfl (fun q5 m6 hR7 => ?_)
  exact Lh_ret rfl hR7
theorem li_X4_finish {pg hs : Rst} {P H : Int} {a1 a2 : Int} {q : Rst} {m : Mem} (hR : Hp q pg hs P H m) : LiH pg hs P H (H_4_finish pg hs a1 a2 q) (X4_finish 100 a1 a2 m) m := li_X4_finish_0 hR
theorem li_X4_undoNext_0 {pg hs : Rst} {P H : Int} {q : Rst} {m : Mem} (hR : Hp q pg hs P H m) : LiH pg hs P H (H_4_undoNext_0 pg hs q) (X4_undoNext_0 100 m) m := by
  unfold H_4_undoNext_0 X4_undoNext_0
  refine Lh_chkX ((by decide)) ?_
  refine Lh_ite (by simp only [hs_16 hR]) ?_ ?_
  · refine Lh_ite (by simp only [hs_18 hR]) ?_ ?_
    · refine Lh_cal (li_X4_finish hR) (fun v6 q5 m7 hR8 => ?_)
      exact Lh_ret rfl hR8
    · refine Lh_cal (by simp only [hs_18 hR]; exact li_X4_finish hR) (fun v2 q1 m3 hR4 => ?_)
      exact Lh_ret rfl hR4
  · refine Lh_chk (fun c9 => (by simp only [hs_16 hR]; exact c9)) (fun c9 => ?_)
    refine Lh_pl hR (j := 16) rfl rfl rfl rfl (by simp only [hs_16 hR]) (fun q10 m11 hR12 => ?_)
    refine Lh_chk (fun c13 => (by simp only [hs_16 hR12]; exact c13)) (fun c13 => ?_)
    refine Lh_chkX ((by simp only [hD hR12]; decide)) ?_
    refine Lh_pl hR12 (j := 17) rfl rfl rfl rfl (by simp only [hD hR12, hd_4 hR12]) (fun q14 m15 hR16 => ?_)
    refine Lh_chk (fun ⟨c17, c18⟩ => ⟨(by simp only [hPA4 hR16]; decide), (by simp only [hs_16 hR12]; exact c17), (by simp only [hs_16 hR12]; exact c18)⟩) (fun ⟨c17, c18⟩ => ?_)
    refine Lh_chk (fun ⟨c19, c20⟩ => ⟨(by simp only [hPA5 hR16]; decide), (by simp only [hs_16 hR12]; exact c19), (by simp only [hs_16 hR12]; exact c20)⟩) (fun ⟨c19, c20⟩ => ?_)
    refine Lh_chkX ((by simp only [hD hR16]; decide)) ?_
    refine Lh_cal (by simp only [hD hR16, hPA4 hR16, hPA5 hR16, ha_22 hR16, ha_23 hR16, hs_16 hR12]; exact li_X1_put hR16) (fun v22 q21 m23 hR24 => ?_)
    refine Lh_pl hR24 (j := 9) rfl rfl rfl rfl rfl (fun q25 m26 hR27 => ?_)
    exact Lh_ret rfl hR27
theorem li_X4_undoNext {pg hs : Rst} {P H : Int} {q : Rst} {m : Mem} (hR : Hp q pg hs P H m) : LiH pg hs P H (H_4_undoNext pg hs q) (X4_undoNext 100 m) m := li_X4_undoNext_0 hR
theorem li_X4_passesMark_40 {pg hs : Rst} {P H : Int} {l1 l2 : Int} {q : Rst} {m : Mem} (hR : Hp q pg hs P H m) : LiH pg hs P H (H_4_passesMark_40 pg hs l1 l2 q) (X4_passesMark_40 100 l1 l2 m) m := by
  unfold H_4_passesMark_40 X4_passesMark_40
  refine Lh_chkX ((by decide)) ?_
  refine Lh_pl hR (j := 6) rfl rfl rfl rfl (by simp only [hs_6 hR]) (fun q1 m2 hR3 => ?_)
  refine Lh_chkX ((by simp only [hD hR3]; decide)) ?_
  refine Lh_cal (by simp only [hD hR3]; exact li_X1_put hR3) (fun v5 q4 m6 hR7 => ?_)
  exact Lh_ret rfl hR7
theorem li_X4_passesMark_0 {pg hs : Rst} {P H : Int} {l1 : Int} {q : Rst} {m : Mem} (hR : Hp q pg hs P H m) : LiH pg hs P H (H_4_passesMark_0 pg hs l1 q) (X4_passesMark_0 100 l1 m) m := by
  unfold H_4_passesMark_0 X4_passesMark_0
  refine Lh_chkX ((by decide)) ?_
  refine Lh_ite (by simp only [hs_6 hR]) ?_ ?_
  · refine Lh_chkX ((by simp only [hD hR]; decide)) ?_
    refine Lh_ite (by simp only [hD hR, hd_7 hR]) ?_ ?_
    · exact li_X4_passesMark_40 hR
    · refine Lh_cal (by simp only [hD hR]; exact li_X1_isNextAgain hR) (fun v2 q1 m3 hR4 => ?_)
      refine Lh_ite Iff.rfl ?_ ?_
      · exact Lh_ret rfl hR4
      · exact li_X4_passesMark_40 hR4
  · exact Lh_ret rfl hR
theorem li_X4_passesMark {pg hs : Rst} {P H : Int} {a1 : Int} {q : Rst} {m : Mem} (hR : Hp q pg hs P H m) : LiH pg hs P H (H_4_passesMark pg hs a1 q) (X4_passesMark 100 a1 m) m := Lh_bool (li_X4_passesMark_0 hR)
theorem li_X4_goAgain_0 {pg hs : Rst} {P H : Int} {q : Rst} {m : Mem} (hR : Hp q pg hs P H m) : LiH pg hs P H (H_4_goAgain_0 pg hs q) (X4_goAgain_0 100 m) m := by
  unfold H_4_goAgain_0 X4_goAgain_0
  refine Lh_chkX ((by decide)) ?_
  refine Lh_ite (by simp only [hs_8 hR]) ?_ ?_
  · refine Lh_cal (li_X4_backOut hR) (fun v2 q1 m3 hR4 => ?_)
    exact Lh_ret rfl hR4
  · refine Lh_cal (by simp only [hs_2 hR]; exact li_X4_finish hR) (fun v6 q5 m7 hR8 => ?_)
    exact Lh_ret rfl hR8
theorem li_X4_goAgain {pg hs : Rst} {P H : Int} {q : Rst} {m : Mem} (hR : Hp q pg hs P H m) : LiH pg hs P H (H_4_goAgain pg hs q) (X4_goAgain 100 m) m := li_X4_goAgain_0 hR
theorem li_X4_note_148 {pg hs : Rst} {P H : Int} {s0 s1 s2 : Int} {q : Rst} {m : Mem} (hR : Hp q pg hs P H m) : LiH pg hs P H (H_4_note_148 pg hs s0 s1 s2 q) (X4_note_148 s0 s1 s2 101 m) m := by
  unfold H_4_note_148 X4_note_148
  refine Lh_chkX ((by decide)) ?_
  refine Lh_cal (li_X1_put hR) (fun v2 q1 m3 hR4 => ?_)
  exact Lh_ret rfl hR4
theorem li_X4_note_0 {pg hs : Rst} {P H : Int} {l1 l2 l3 : Int} {q : Rst} {m : Mem} (hR : Hp q pg hs P H m) : LiH pg hs P H (H_4_note_0 pg hs l1 l2 l3 q) (X4_note_0 100 l1 l2 l3 m) m := by
  unfold H_4_note_0 X4_note_0
  refine Lh_ite Iff.rfl ?_ ?_
  · refine Lh_chkX ((by decide)) ?_
    refine Lh_pl hR (j := 2) rfl rfl rfl rfl rfl (fun q1 m2 hR3 => ?_)
    exact Lh_ret rfl hR3
  refine Lh_ite Iff.rfl ?_ ?_
  · refine Lh_chkX ((by decide)) ?_
    refine Lh_chk (fun c4 => (by simp only [hs_2 hR]; exact c4)) (fun c4 => ?_)
    refine Lh_pl hR (j := 2) rfl rfl rfl rfl (by simp only [hs_2 hR]) (fun q5 m6 hR7 => ?_)
    exact Lh_ret rfl hR7
  refine Lh_ite Iff.rfl ?_ ?_
  · refine Lh_chkX ((by decide)) ?_
    refine Lh_chk (fun c8 => (by simp only [hs_16 hR]; exact c8)) (fun c8 => ?_)
    refine Lh_chk (fun ⟨c9, c10⟩ => ⟨(by simp only [hPA4 hR]; decide), (by simp only [hs_16 hR]; exact c9), (by simp only [hs_16 hR]; exact c10)⟩) (fun ⟨c9, c10⟩ => ?_)
    refine Lh_ar22 hR (by simp only [hPA4 hR]) (by simp only [hs_16 hR]) rfl (fun q11 m12 hR13 => ?_)
    refine Lh_chk (fun c14 => (by simp only [hs_16 hR13]; exact c14)) (fun c14 => ?_)
    refine Lh_chk (fun ⟨c15, c16⟩ => ⟨(by simp only [hPA5 hR13]; decide), (by simp only [hs_16 hR13]; exact c15), (by simp only [hs_16 hR13]; exact c16)⟩) (fun ⟨c15, c16⟩ => ?_)
    refine Lh_ar23 hR13 (by simp only [hPA5 hR13]) (by simp only [hs_16 hR13]) rfl (fun q17 m18 hR19 => ?_)
    refine Lh_chk (fun c20 => (by simp only [hs_16 hR19]; exact c20)) (fun c20 => ?_)
    refine Lh_pl hR19 (j := 16) rfl rfl rfl rfl (by simp only [hs_16 hR19]) (fun q21 m22 hR23 => ?_)
    exact Lh_ret rfl hR23
  refine Lh_ite Iff.rfl ?_ ?_
  · exact Lh_ret rfl hR
  refine Lh_ite Iff.rfl ?_ ?_
  · refine Lh_chkX ((by decide)) ?_
    refine Lh_pl hR (j := 13) rfl rfl rfl rfl (by simp only [hs_13 hR]) (fun q24 m25 hR26 => ?_)
    exact Lh_ret rfl hR26
  refine Lh_ite Iff.rfl ?_ ?_
  · refine Lh_chkX ((by decide)) ?_
    refine Lh_ite Iff.rfl ?_ ?_
    · simp only [hD hR, hs_2 hR]
      exact li_X4_note_148 hR
    · simp only [hD hR]
      exact li_X4_note_148 hR
  exact Lh_ret rfl hR
theorem li_X4_note {pg hs : Rst} {P H : Int} {a1 a2 a3 : Int} {q : Rst} {m : Mem} (hR : Hp q pg hs P H m) : LiH pg hs P H (H_4_note pg hs a1 a2 a3 q) (X4_note 100 a1 a2 a3 m) m := li_X4_note_0 hR
theorem li_X4_goThrough_0 {pg hs : Rst} {P H : Int} {l1 l2 l3 : Int} {q : Rst} {m : Mem} (hR : Hp q pg hs P H m) : LiH pg hs P H (H_4_goThrough_0 pg hs l1 l2 l3 q) (X4_goThrough_0 100 l1 l2 l3 m) m := by
  unfold H_4_goThrough_0 X4_goThrough_0
  refine Lh_chkX ((by decide)) ?_
  refine Lh_chk (fun c1 => (by simp only [hs_10 hR]; exact c1)) (fun c1 => ?_)
  refine Lh_ite Iff.rfl ?_ ?_
  · refine Lh_ite (by simp only [hs_2 hR]) ?_ ?_
    · refine Lh_pl hR (j := 10) rfl rfl rfl rfl (by simp only [hs_10 hR]) (fun q2 m3 hR4 => ?_)
      exact Lh_ret rfl hR4
    · refine Lh_chk (fun c5 => (by simp only [hs_10 hR]; exact c5)) (fun c5 => ?_)
      refine Lh_pl hR (j := 10) rfl rfl rfl rfl (by simp only [hs_10 hR]) (fun q6 m7 hR8 => ?_)
      exact Lh_ret rfl hR8
  refine Lh_ite Iff.rfl ?_ ?_
  · refine Lh_ite (by simp only [hs_2 hR]) ?_ ?_
    · refine Lh_pl hR (j := 10) rfl rfl rfl rfl (by simp only [hs_10 hR]) (fun q9 m10 hR11 => ?_)
      exact Lh_ret rfl hR11
    · refine Lh_chk (fun c12 => (by simp only [hs_10 hR]; exact c12)) (fun c12 => ?_)
      refine Lh_pl hR (j := 10) rfl rfl rfl rfl (by simp only [hs_10 hR]) (fun q13 m14 hR15 => ?_)
      exact Lh_ret rfl hR15
  refine Lh_ite Iff.rfl ?_ ?_
  · refine Lh_cal (li_X4_note hR) (fun v17 q16 m18 hR19 => ?_)
    refine Lh_pl hR19 (j := 10) rfl rfl rfl rfl (by simp only [hs_10 hR]) (fun q20 m21 hR22 => ?_)
    exact Lh_ret rfl hR22
  refine Lh_ite Iff.rfl ?_ ?_
  · refine Lh_cal (li_X4_note hR) (fun v24 q23 m25 hR26 => ?_)
    refine Lh_pl hR26 (j := 10) rfl rfl rfl rfl (by simp only [hs_10 hR]) (fun q27 m28 hR29 => ?_)
    exact Lh_ret rfl hR29
  refine Lh_ite Iff.rfl ?_ ?_
  · refine Lh_cal (li_X4_note hR) (fun v31 q30 m32 hR33 => ?_)
    refine Lh_pl hR33 (j := 10) rfl rfl rfl rfl (by simp only [hs_10 hR]) (fun q34 m35 hR36 => ?_)
    exact Lh_ret rfl hR36
  refine Lh_ite Iff.rfl ?_ ?_
  · refine Lh_cal (li_X4_passesMark hR) (fun v38 q37 m39 hR40 => ?_)
    refine Lh_ite Iff.rfl ?_ ?_
    · refine Lh_chk (fun c41 => (by simp only [hs_10 hR]; exact c41)) (fun c41 => ?_)
      refine Lh_pl hR40 (j := 10) rfl rfl rfl rfl (by simp only [hs_10 hR]) (fun q42 m43 hR44 => ?_)
      exact Lh_ret rfl hR44
    · refine Lh_pl hR40 (j := 10) rfl rfl rfl rfl (by simp only [hs_10 hR]) (fun q45 m46 hR47 => ?_)
      exact Lh_ret rfl hR47
  refine Lh_ite Iff.rfl ?_ ?_
  · refine Lh_cal (li_X4_note hR) (fun v49 q48 m50 hR51 => ?_)
    refine Lh_pl hR51 (j := 10) rfl rfl rfl rfl (by simp only [hs_10 hR]) (fun q52 m53 hR54 => ?_)
    exact Lh_ret rfl hR54
  refine Lh_ite Iff.rfl ?_ ?_
  · refine Lh_cal (li_X4_note hR) (fun v56 q55 m57 hR58 => ?_)
    refine Lh_pl hR58 (j := 10) rfl rfl rfl rfl (by simp only [hs_10 hR]) (fun q59 m60 hR61 => ?_)
    exact Lh_ret rfl hR61
  refine Lh_ite Iff.rfl ?_ ?_
  · refine Lh_cal (li_X4_backOut hR) (fun v63 q62 m64 hR65 => ?_)
    exact Lh_ret rfl hR65
  refine Lh_ite Iff.rfl ?_ ?_
  · refine Lh_cal (li_X4_goAgain hR) (fun v67 q66 m68 hR69 => ?_)
    exact Lh_ret rfl hR69
  refine Lh_ite Iff.rfl ?_ ?_
  · refine Lh_cal (by simp only [hs_2 hR]; exact li_X4_finish hR) (fun v71 q70 m72 hR73 => ?_)
    exact Lh_ret rfl hR73
  refine Lh_cal (li_X4_note hR) (fun v75 q74 m76 hR77 => ?_)
  refine Lh_pl hR77 (j := 10) rfl rfl rfl rfl (by simp only [hs_10 hR]) (fun q78 m79 hR80 => ?_)
  exact Lh_ret rfl hR80
theorem li_X4_goThrough {pg hs : Rst} {P H : Int} {a1 a2 a3 : Int} {q : Rst} {m : Mem} (hR : Hp q pg hs P H m) : LiH pg hs P H (H_4_goThrough pg hs a1 a2 a3 q) (X4_goThrough 100 a1 a2 a3 m) m := li_X4_goThrough_0 hR
theorem li_X8_clear_0 {pg hs : Rst} {P H : Int} {l0 l1 : Int} {q : Rst} {m : Mem} (b0 : 0 ≤ l0) (b1 : l0 < 3) (hR : Hp q pg hs P H m) : LiH pg hs P H (H_8_clear_0 pg hs l0 l1 q) (X8_clear_0 (130 + l0) l1 m) m := by
  unfold H_8_clear_0 X8_clear_0
  refine Lh_chkX ((by omega)) ?_
  refine Lh_sl hR (j := 0) (by decide) rfl b0 b1 rfl rfl (fun q1 m2 hR3 => ?_)
  refine Lh_sl hR3 (j := 1) (by decide) rfl b0 b1 rfl rfl (fun q4 m5 hR6 => ?_)
  refine Lh_sl hR6 (j := 2) (by decide) rfl b0 b1 rfl rfl (fun q7 m8 hR9 => ?_)
  refine Lh_sl hR9 (j := 3) (by decide) rfl b0 b1 rfl rfl (fun q10 m11 hR12 => ?_)
  refine Lh_sl hR12 (j := 4) (by decide) rfl b0 b1 rfl rfl (fun q13 m14 hR15 => ?_)
  refine Lh_sl hR15 (j := 5) (by decide) rfl b0 b1 rfl rfl (fun q16 m17 hR18 => ?_)
  refine Lh_sl hR18 (j := 6) (by decide) rfl b0 b1 rfl rfl (fun q19 m20 hR21 => ?_)
  refine Lh_sl hR21 (j := 7) (by decide) rfl b0 b1 rfl rfl (fun q22 m23 hR24 => ?_)
  exact Lh_ret rfl hR24
theorem li_X8_clear {pg hs : Rst} {P H : Int} {a0 a1 : Int} {q : Rst} {m : Mem} (b0 : 0 ≤ a0) (b1 : a0 < 3) (hR : Hp q pg hs P H m) : LiH pg hs P H (H_8_clear pg hs a0 a1 q) (X8_clear (130 + a0) a1 m) m := li_X8_clear_0 b0 b1 hR
theorem li_X4_beginWait_67 {pg hs : Rst} {P H : Int} {l1 l5 : Int} {q : Rst} {m : Mem} (b0 : 0 ≤ l1) (b1 : l1 < 3) (hR : Hp q pg hs P H m) : LiH pg hs P H (H_4_beginWait_67 pg hs l1 l5 q) (X4_beginWait_67 100 (130 + l1) H l5 m) m := by
  unfold H_4_beginWait_67 X4_beginWait_67
  refine Lh_chkX ((by decide)) ?_
  refine Lh_cal (li_X4_noteTaken hR) (fun v2 q1 m3 hR4 => ?_)
  refine Lh_chkX ((by exact hHp hR4)) ?_
  refine Lh_chk (fun ⟨c5, c6⟩ => ⟨(by simp only [hHa2 hR4]; exact hHq2 hR4), c5, c6⟩) (fun ⟨c5, c6⟩ => ?_)
  refine Lh_chkX ((by omega)) ?_
  refine Lh_cal (by simp only [hHa2 hR4, hHg2 hR4]; exact li_X8_become b0 b1 hR4) (fun v8 q7 m9 hR10 => ?_)
  exact Lh_ret rfl hR10
theorem li_X4_beginWait_93 {pg hs : Rst} {P H : Int} {l1 l3 : Int} {q : Rst} {m : Mem} (b0 : 0 ≤ l1) (b1 : l1 < 3) (hR : Hp q pg hs P H m) : LiH pg hs P H (H_4_beginWait_93 pg hs l1 l3 q) (X4_beginWait_93 100 (130 + l1) l3 m) m := by
  unfold H_4_beginWait_93 X4_beginWait_93
  refine Lh_ite Iff.rfl ?_ ?_
  · exact Lh_ret rfl hR
  · refine Lh_chkX ((by decide)) ?_
    refine Lh_chkX ((by simp only [hD hR]; decide)) ?_
    refine Lh_chkX ((by omega)) ?_
    refine Lh_sl hR (j := 2) (by decide) rfl b0 b1 rfl (by simp only [hD hR, hd_5 hR]) (fun q1 m2 hR3 => ?_)
    refine Lh_chkX ((by simp only [hD hR3]; decide)) ?_
    refine Lh_cal (by simp only [hD hR3]; exact li_X1_put hR3) (fun v5 q4 m6 hR7 => ?_)
    exact Lh_ret rfl hR7
theorem li_X4_beginWait_17 {pg hs : Rst} {P H : Int} {k67 : Int → Int → Rst → Option G2} {k67' : Int → Int → Int → Int → Mem → Option R2} (hk67 : ∀ {l1 l5 : Int} {q : Rst} {m : Mem}, 0 ≤ l1 → l1 < 3 → Hp q pg hs P H m → LiH pg hs P H (k67 l1 l5 q) (k67' 100 (130 + l1) H l5 m) m) {k93 : Int → Int → Rst → Option G2} {k93' : Int → Int → Int → Mem → Option R2} (hk93 : ∀ {l1 l3 : Int} {q : Rst} {m : Mem}, 0 ≤ l1 → l1 < 3 → Hp q pg hs P H m → LiH pg hs P H (k93 l1 l3 q) (k93' 100 (130 + l1) l3 m) m) : ∀ (n : Nat) {l1 l2 l3 l5 : Int} {q : Rst} {m : Mem}, 0 ≤ l1 → l1 < 3 → Hp q pg hs P H m → LiH pg hs P H (H_4_beginWait_17 pg hs k67 k93 n l1 l2 l3 l5 q) (X4_beginWait_17 k67' k93' n 100 (130 + l1) l2 l3 H l5 m) m := by
  intro n
  induction n with
  | zero =>
    intro l1 l2 l3 l5 q m b0 b1 hR
    exact Lh_none
  | succ n ih =>
    intro l1 l2 l3 l5 q m b0 b1 hR
    rw [H_4_beginWait_17, X4_beginWait_17]
    refine Lh_chkX ((by decide)) ?_
    refine Lh_ite (by simp only [hs_19 hR]) ?_ ?_
    · exact hk93 b0 b1 hR
    · refine Lh_ite Iff.rfl ?_ ?_
      · exact hk93 b0 b1 hR
      · refine Lh_chkX ((by exact hHp hR)) ?_
        refine Lh_chk (fun ⟨c1, c2⟩ => ⟨(by simp only [hHa0 hR]; exact hHq0 hR), c1, c2⟩) (fun ⟨c1, c2⟩ => ?_)
        refine Lh_ite (by simp only [hHa0 hR, hHg0 hR]) ?_ ?_
        · refine Lh_chk (fun ⟨c4, c5⟩ => ⟨(by simp only [hHa1 hR]; exact hHq1 hR), c4, c5⟩) (fun ⟨c4, c5⟩ => ?_)
          refine Lh_ite (by simp only [hHa1 hR, hHg1 hR]) ?_ ?_
          · refine Lh_chk (fun ⟨c7, c8⟩ => ⟨(by simp only [hPA1 hR]; decide), c7, c8⟩) (fun ⟨c7, c8⟩ => ?_)
            refine Lh_ite (by simp only [hPA1 hR, ha_20 hR]) ?_ ?_
            · exact hk67 b0 b1 hR
            · refine Lh_chk (fun c9 => c9) (fun c9 => ?_)
              exact ih b0 b1 hR
          · refine Lh_chk (fun c6 => c6) (fun c6 => ?_)
            exact ih b0 b1 hR
        · refine Lh_chk (fun c3 => c3) (fun c3 => ?_)
          exact ih b0 b1 hR
theorem li_X4_beginWait_0 {pg hs : Rst} {P H : Int} {l1 l2 l3 : Int} {q : Rst} {m : Mem} (b0 : 0 ≤ l1) (b1 : l1 < 3) (hR : Hp q pg hs P H m) : LiH pg hs P H (H_4_beginWait_0 pg hs l1 l2 l3 q) (X4_beginWait_0 100 (130 + l1) l2 l3 m) m := by
  unfold H_4_beginWait_0 X4_beginWait_0
  refine Lh_chkX ((by decide)) ?_
  refine Lh_chkX ((by simp only [hD hR]; decide)) ?_
  refine Lh_chkX ((by omega)) ?_
  refine Lh_sl hR (j := 4) (by decide) rfl b0 b1 rfl rfl (fun q1 m2 hR3 => ?_)
  simp only [hD hR, hH hR]
  exact li_X4_beginWait_17 (fun b0 b1 hR => li_X4_beginWait_67 b0 b1 hR) (fun b0 b1 hR => li_X4_beginWait_93 b0 b1 hR) fuel9 b0 b1 hR3
theorem li_X4_beginWait {pg hs : Rst} {P H : Int} {a1 a2 a3 : Int} {q : Rst} {m : Mem} (b0 : 0 ≤ a1) (b1 : a1 < 3) (hR : Hp q pg hs P H m) : LiH pg hs P H (H_4_beginWait pg hs a1 a2 a3 q) (X4_beginWait 100 (130 + a1) a2 a3 m) m := li_X4_beginWait_0 b0 b1 hR
theorem li_X4_beginStep_0 {pg hs : Rst} {P H : Int} {l1 l2 : Int} {q : Rst} {m : Mem} (b0 : 0 ≤ l1) (b1 : l1 < 3) (hR : Hp q pg hs P H m) : LiH pg hs P H (H_4_beginStep_0 pg hs l1 l2 q) (X4_beginStep_0 100 (130 + l1) l2 m) m := by
  unfold H_4_beginStep_0 X4_beginStep_0
  refine Lh_chkX ((by decide)) ?_
  refine Lh_chkX ((by simp only [hP hR]; exact hPp hR)) ?_
  refine Lh_chk (fun ⟨c1, c2⟩ => ⟨(by simp only [hP hR, hPa1 hR]; exact hPq1 hR), c1, c2⟩) (fun ⟨c1, c2⟩ => ?_)
  refine Lh_chk (fun ⟨c3, c4⟩ => ⟨(by simp only [hP hR, hPa2 hR]; exact hPq2 hR), c3, c4⟩) (fun ⟨c3, c4⟩ => ?_)
  refine Lh_chk (fun ⟨c5, c6⟩ => ⟨(by simp only [hP hR, hPa0 hR]; exact hPq0 hR), c5, c6⟩) (fun ⟨c5, c6⟩ => ?_)
  refine Lh_chkX ((by omega)) ?_
  refine Lh_cal (by simp only [hP hR, hPa0 hR, hPg0 hR]; exact li_X8_clear b0 b1 hR) (fun v8 q7 m9 hR10 => ?_)
  refine Lh_ite (by simp only [hl_0 hR10 b0 b1]) ?_ ?_
  · refine Lh_chkX ((by simp only [hD hR10]; decide)) ?_
    refine Lh_sl hR10 (j := 1) (by decide) rfl b0 b1 rfl (by simp only [hD hR10, hd_4 hR10]) (fun q11 m12 hR13 => ?_)
    refine Lh_chkX ((by simp only [hD hR13]; decide)) ?_
    refine Lh_cal (by simp only [hD hR13, hP hR, hPa1 hR, hPa2 hR, hPg1 hR, hPg2 hR]; exact li_X1_put hR13) (fun v15 q14 m16 hR17 => ?_)
    exact Lh_ret rfl hR17
  refine Lh_ite (by simp only [hl_0 hR10 b0 b1]) ?_ ?_
  · refine Lh_chkX ((by simp only [hD hR10]; decide)) ?_
    refine Lh_sl hR10 (j := 2) (by decide) rfl b0 b1 rfl (by simp only [hD hR10, hd_5 hR10]) (fun q18 m19 hR20 => ?_)
    refine Lh_chkX ((by simp only [hD hR20]; decide)) ?_
    refine Lh_cal (by simp only [hD hR20, hP hR, hPa1 hR, hPg1 hR]; exact li_X1_put hR20) (fun v22 q21 m23 hR24 => ?_)
    exact Lh_ret rfl hR24
  refine Lh_ite (by simp only [hl_0 hR10 b0 b1]) ?_ ?_
  · refine Lh_cal (by simp only [hP hR, hPa1 hR, hPa2 hR, hPg1 hR, hPg2 hR]; exact li_X4_beginWait b0 b1 hR10) (fun v26 q25 m27 hR28 => ?_)
    exact Lh_ret rfl hR28
  refine Lh_ite (by simp only [hl_0 hR10 b0 b1]) ?_ ?_
  · refine Lh_chkX ((by simp only [hD hR10]; decide)) ?_
    refine Lh_sl hR10 (j := 3) (by decide) rfl b0 b1 rfl (by simp only [hD hR10, hd_6 hR10]) (fun q29 m30 hR31 => ?_)
    refine Lh_chkX ((by simp only [hD hR31]; decide)) ?_
    refine Lh_cal (by simp only [hD hR31, hP hR, hPa1 hR, hPa2 hR, hPg1 hR, hPg2 hR]; exact li_X1_put hR31) (fun v33 q32 m34 hR35 => ?_)
    exact Lh_ret rfl hR35
  refine Lh_cal (by simp only [hP hR, hPa1 hR, hPa2 hR, hPg1 hR, hPg2 hR]; exact li_X4_beginWait b0 b1 hR10) (fun v37 q36 m38 hR39 => ?_)
  exact Lh_ret rfl hR39
theorem li_X4_beginStep {pg hs : Rst} {P H : Int} {a1 a2 : Int} {q : Rst} {m : Mem} (b0 : 0 ≤ a1) (b1 : a1 < 3) (hR : Hp q pg hs P H m) : LiH pg hs P H (H_4_beginStep pg hs a1 a2 q) (X4_beginStep 100 (130 + a1) a2 m) m := li_X4_beginStep_0 b0 b1 hR
theorem li_X4_beginSteps_97 {pg hs : Rst} {P H : Int} : ∀ (n : Nat) {l2 l3 : Int} {q : Rst} {m : Mem}, Hp q pg hs P H m → LiH pg hs P H (H_4_beginSteps_97 pg hs n l2 l3 q) (X4_beginSteps_97 n 100 l2 l3 m) m := by
  intro n
  induction n with
  | zero =>
    intro l2 l3 q m hR
    exact Lh_none
  | succ n ih =>
    intro l2 l3 q m hR
    rw [H_4_beginSteps_97, X4_beginSteps_97]
    refine Lh_chkX ((by decide)) ?_
    refine Lh_ite (by simp only [hs_12 hR]) ?_ ?_
    · exact Lh_ret rfl hR
    · refine Lh_chk (fun ⟨c1, c2⟩ => ⟨(by simp only [hSl hR]; decide), c1, c2⟩) (fun ⟨c1, c2⟩ => ?_)
      refine Lh_chk (fun c3 => c3) (fun c3 => ?_)
      refine Lh_cal (by simp only [hSi hR c1 c2, hSl hR]; exact li_X4_beginStep c1 c2 hR) (fun v5 q4 m6 hR7 => ?_)
      refine Lh_chk (fun c8 => c8) (fun c8 => ?_)
      exact ih hR7
theorem li_X4_beginSteps_65 {pg hs : Rst} {P H : Int} {l2 s0 : Int} {q : Rst} {m : Mem} (hR : Hp q pg hs P H m) : LiH pg hs P H (H_4_beginSteps_65 pg hs l2 s0 q) (X4_beginSteps_65 100 l2 s0 100 m) m := by
  unfold H_4_beginSteps_65 X4_beginSteps_65
  refine Lh_chkX ((by decide)) ?_
  refine Lh_chkX ((by simp only [hP hR]; exact hPp hR)) ?_
  refine Lh_chk (fun c1 => (by simp only [hP hR, hPs hR]; exact c1)) (fun c1 => ?_)
  refine Lh_chkX ((by decide)) ?_
  refine Lh_pl hR (j := 12) rfl rfl rfl rfl (by simp only [hP hR, hPs hR]) (fun q2 m3 hR4 => ?_)
  refine Lh_chk (fun c5 => (by simp only [hs_12 hR4]; exact c5)) (fun c5 => ?_)
  refine Lh_pl hR4 (j := 11) rfl rfl rfl rfl (by simp only [hs_12 hR4]) (fun q6 m7 hR8 => ?_)
  refine Lh_pl hR8 (j := 9) rfl rfl rfl rfl rfl (fun q9 m10 hR11 => ?_)
  exact li_X4_beginSteps_97 fuel9 hR11
theorem li_X4_beginSteps_39 {pg hs : Rst} {P H : Int} {l1 s0 : Int} {q : Rst} {m : Mem} (hR : Hp q pg hs P H m) : LiH pg hs P H (H_4_beginSteps_39 pg hs l1 s0 q) (X4_beginSteps_39 100 l1 s0 m) m := by
  unfold H_4_beginSteps_39 X4_beginSteps_39
  refine Lh_ite Iff.rfl ?_ ?_
  · exact li_X4_beginSteps_65 hR
  · refine Lh_chkX ((by decide)) ?_
    refine Lh_chkX ((by simp only [hP hR]; exact hPp hR)) ?_
    refine Lh_chk (fun ⟨c1, c2⟩ => ⟨(by simp only [hP hR, hPa1 hR]; exact hPq1 hR), (by simp only [hs_10 hR]; exact c1), (by simp only [hs_10 hR]; exact c2)⟩) (fun ⟨c1, c2⟩ => ?_)
    simp only [hP hR, hPa1 hR, hPg1 hR, hs_10 hR]
    exact li_X4_beginSteps_65 hR
theorem li_X4_beginSteps_21 {pg hs : Rst} {P H : Int} {s0 : Int} {q : Rst} {m : Mem} (hR : Hp q pg hs P H m) : LiH pg hs P H (H_4_beginSteps_21 pg hs s0 q) (X4_beginSteps_21 100 s0 m) m := by
  unfold H_4_beginSteps_21 X4_beginSteps_21
  refine Lh_ite Iff.rfl ?_ ?_
  · refine Lh_chkX ((by decide)) ?_
    simp only [hs_10 hR]
    exact li_X4_beginSteps_39 hR
  · refine Lh_chkX ((by decide)) ?_
    refine Lh_chk (fun c1 => (by simp only [hs_10 hR]; exact c1)) (fun c1 => ?_)
    simp only [hs_10 hR]
    exact li_X4_beginSteps_39 hR
theorem li_X4_beginSteps_0 {pg hs : Rst} {P H : Int} {q : Rst} {m : Mem} (hR : Hp q pg hs P H m) : LiH pg hs P H (H_4_beginSteps_0 pg hs q) (X4_beginSteps_0 100 m) m := by
  unfold H_4_beginSteps_0 X4_beginSteps_0
  refine Lh_chkX ((by decide)) ?_
  refine Lh_chkX ((by simp only [hP hR]; exact hPp hR)) ?_
  refine Lh_chk (fun ⟨c1, c2⟩ => ⟨(by simp only [hP hR, hPa0 hR]; exact hPq0 hR), (by simp only [hs_10 hR]; exact c1), (by simp only [hs_10 hR]; exact c2)⟩) (fun ⟨c1, c2⟩ => ?_)
  refine Lh_ite (by simp only [hP hR, hPa0 hR, hPg0 hR, hs_10 hR]) ?_ ?_
  · exact li_X4_beginSteps_21 hR
  · exact li_X4_beginSteps_21 hR
theorem li_X4_beginSteps {pg hs : Rst} {P H : Int} {q : Rst} {m : Mem} (hR : Hp q pg hs P H m) : LiH pg hs P H (H_4_beginSteps pg hs q) (X4_beginSteps 100 m) m := li_X4_beginSteps_0 hR
theorem li_X4_goOn_197 {pg hs : Rst} {P H : Int} {k6 : Int → Rst → Option G2} {k6' : Int → Int → Mem → Option R2} (hk6 : ∀ {l1 : Int} {q : Rst} {m : Mem}, Hp q pg hs P H m → LiH pg hs P H (k6 l1 q) (k6' 100 l1 m) m) {l1 : Int} {q : Rst} {m : Mem} (hR : Hp q pg hs P H m) : LiH pg hs P H (H_4_goOn_197 pg hs k6 l1 q) (X4_goOn_197 k6' 100 l1 m) m := by
  unfold H_4_goOn_197 X4_goOn_197
  refine Lh_chkX ((by decide)) ?_
  refine Lh_cal (li_X4_settle hR) (fun v2 q1 m3 hR4 => ?_)
  refine Lh_chk (fun c5 => c5) (fun c5 => ?_)
  exact hk6 hR4
theorem li_X4_goOn_92 {pg hs : Rst} {P H : Int} {k6 : Int → Rst → Option G2} {k6' : Int → Int → Mem → Option R2} (hk6 : ∀ {l1 : Int} {q : Rst} {m : Mem}, Hp q pg hs P H m → LiH pg hs P H (k6 l1 q) (k6' 100 l1 m) m) {l1 : Int} {q : Rst} {m : Mem} (hR : Hp q pg hs P H m) : LiH pg hs P H (H_4_goOn_92 pg hs k6 l1 q) (X4_goOn_92 k6' 100 l1 m) m := by
  unfold H_4_goOn_92 X4_goOn_92
  refine Lh_chkX ((by decide)) ?_
  refine Lh_cal (by simp only [hs_2 hR]; exact li_X4_finish hR) (fun v2 q1 m3 hR4 => ?_)
  exact li_X4_goOn_197 hk6 hR4
theorem li_X4_goOn_71 {pg hs : Rst} {P H : Int} {k6 : Int → Rst → Option G2} {k6' : Int → Int → Mem → Option R2} (hk6 : ∀ {l1 : Int} {q : Rst} {m : Mem}, Hp q pg hs P H m → LiH pg hs P H (k6 l1 q) (k6' 100 l1 m) m) {l1 : Int} {q : Rst} {m : Mem} (hR : Hp q pg hs P H m) : LiH pg hs P H (H_4_goOn_71 pg hs k6 l1 q) (X4_goOn_71 k6' 100 l1 m) m := by
  unfold H_4_goOn_71 X4_goOn_71
  refine Lh_chkX ((by decide)) ?_
  refine Lh_ite (by simp only [hs_10 hR]) ?_ ?_
  · exact li_X4_goOn_92 hk6 hR
  · refine Lh_chkX ((by simp only [hP hR]; exact hPp hR)) ?_
    refine Lh_ite (by simp only [hP hR, hPs hR, hs_10 hR]) ?_ ?_
    · refine Lh_ite Iff.rfl ?_ ?_
      · refine Lh_chk (fun c1 => (by simp only [hs_13 hR]; exact c1)) (fun c1 => ?_)
        refine Lh_pl hR (j := 13) rfl rfl rfl rfl (by simp only [hs_13 hR]) (fun q2 m3 hR4 => ?_)
        refine Lh_chkX ((by simp only [hP hR4]; exact hPp hR4)) ?_
        refine Lh_chk (fun ⟨c5, c6⟩ => ⟨(by simp only [hP hR4, hPa0 hR4]; exact hPq0 hR4), (by simp only [hs_10 hR4]; exact c5), (by simp only [hs_10 hR4]; exact c6)⟩) (fun ⟨c5, c6⟩ => ?_)
        refine Lh_ite (by simp only [hP hR4, hPa0 hR4, hPg0 hR4, hs_10 hR4]) ?_ ?_
        · refine Lh_cal (li_X4_beginSteps hR4) (fun v8 q7 m9 hR10 => ?_)
          exact li_X4_goOn_197 hk6 hR10
        · refine Lh_chk (fun ⟨c11, c12⟩ => ⟨(by simp only [hs_10 hR4]; exact c11), (by simp only [hs_10 hR4]; exact c12)⟩) (fun ⟨c11, c12⟩ => ?_)
          refine Lh_chk (fun ⟨c13, c14⟩ => ⟨(by simp only [hP hR4, hPa1 hR4]; exact hPq1 hR4), (by simp only [hs_10 hR4]; exact c13), (by simp only [hs_10 hR4]; exact c14)⟩) (fun ⟨c13, c14⟩ => ?_)
          refine Lh_chk (fun ⟨c15, c16⟩ => ⟨(by simp only [hP hR4, hPa2 hR4]; exact hPq2 hR4), (by simp only [hs_10 hR4]; exact c15), (by simp only [hs_10 hR4]; exact c16)⟩) (fun ⟨c15, c16⟩ => ?_)
          refine Lh_cal (by simp only [hP hR4, hPa0 hR4, hPa1 hR4, hPa2 hR4, hPg0 hR4, hPg1 hR4, hPg2 hR4, hs_10 hR4]; exact li_X4_goThrough hR4) (fun v18 q17 m19 hR20 => ?_)
          exact li_X4_goOn_197 hk6 hR20
      · refine Lh_cal (li_X4_backOut hR) (fun v22 q21 m23 hR24 => ?_)
        exact li_X4_goOn_197 hk6 hR24
    · exact li_X4_goOn_92 hk6 hR
theorem li_X4_goOn_32 {pg hs : Rst} {P H : Int} {k6 : Int → Rst → Option G2} {k6' : Int → Int → Mem → Option R2} (hk6 : ∀ {l1 : Int} {q : Rst} {m : Mem}, Hp q pg hs P H m → LiH pg hs P H (k6 l1 q) (k6' 100 l1 m) m) {l1 s0 : Int} {q : Rst} {m : Mem} (hR : Hp q pg hs P H m) : LiH pg hs P H (H_4_goOn_32 pg hs k6 l1 s0 q) (X4_goOn_32 k6' 100 l1 s0 100 m) m := by
  unfold H_4_goOn_32 X4_goOn_32
  refine Lh_chk (fun c1 => ⟨(by decide), c1⟩) (fun c1 => ?_)
  refine Lh_pl hR (j := 14) rfl rfl rfl rfl rfl (fun q2 m3 hR4 => ?_)
  refine Lh_chkX ((by decide)) ?_
  refine Lh_ite (by simp only [hs_9 hR4]) ?_ ?_
  · refine Lh_cal (li_X4_undoNext hR4) (fun v10 q9 m11 hR12 => ?_)
    exact li_X4_goOn_197 hk6 hR12
  · refine Lh_ite (by simp only [hs_15 hR4]) ?_ ?_
    · exact li_X4_goOn_71 hk6 hR4
    · refine Lh_ite (by simp only [hs_14 hR4]) ?_ ?_
      · refine Lh_cal (li_X4_cut hR4) (fun v6 q5 m7 hR8 => ?_)
        exact li_X4_goOn_197 hk6 hR8
      · exact li_X4_goOn_71 hk6 hR4
theorem li_X4_goOn_6 {pg hs : Rst} {P H : Int} : ∀ (n : Nat) {l1 : Int} {q : Rst} {m : Mem}, Hp q pg hs P H m → LiH pg hs P H (H_4_goOn_6 pg hs n l1 q) (X4_goOn_6 n 100 l1 m) m := by
  intro n
  induction n with
  | zero =>
    intro l1 q m hR
    exact Lh_none
  | succ n ih =>
    intro l1 q m hR
    rw [H_4_goOn_6, X4_goOn_6]
    refine Lh_ite Iff.rfl ?_ ?_
    · exact Lh_ret rfl hR
    · refine Lh_chkX ((by decide)) ?_
      refine Lh_cal (li_X4_isMoving hR) (fun v2 q1 m3 hR4 => ?_)
      refine Lh_ite Iff.rfl ?_ ?_
      · exact Lh_ret rfl hR4
      · refine Lh_ite (by simp only [hs_13 hR4]) ?_ ?_
        · exact li_X4_goOn_32 ih hR4
        · exact li_X4_goOn_32 ih hR4
theorem li_X4_goOn_0 {pg hs : Rst} {P H : Int} {q : Rst} {m : Mem} (hR : Hp q pg hs P H m) : LiH pg hs P H (H_4_goOn_0 pg hs q) (X4_goOn_0 100 m) m := by
  unfold H_4_goOn_0 X4_goOn_0
  refine Lh_chkX ((by decide)) ?_
  refine Lh_cal (li_X4_settle hR) (fun v2 q1 m3 hR4 => ?_)
  exact li_X4_goOn_6 fuel9 hR4
theorem li_X4_goOn {pg hs : Rst} {P H : Int} {q : Rst} {m : Mem} (hR : Hp q pg hs P H m) : LiH pg hs P H (H_4_goOn pg hs q) (X4_goOn 100 m) m := li_X4_goOn_0 hR
theorem li_X4_play_122 {pg hs : Rst} {P H : Int} {q : Rst} {m : Mem} (hR : Hp q pg hs P H m) : LiH pg hs P H (H_4_play_122 pg hs q) (X4_play_122 100 m) m := by
  unfold H_4_play_122 X4_play_122
  refine Lh_chkX ((by decide)) ?_
  refine Lh_chkX ((by simp only [hD hR]; decide)) ?_
  refine Lh_ite (by simp only [hD hR, hd_8 hR]) ?_ ?_
  · exact Lh_ret rfl hR
  · exact Lh_ret rfl hR
theorem li_X4_play_84 {pg hs : Rst} {P H : Int} {k10 : Int → Int → Rst → Option G2} {k10' : Int → Int → Int → Int → Mem → Option R2} (hk10 : ∀ {l4 l5 : Int} {q : Rst} {m : Mem}, Hp q pg hs P H m → LiH pg hs P H (k10 l4 l5 q) (k10' 100 H l4 l5 m) m) {l4 l5 l6 : Int} {q : Rst} {m : Mem} (hR : Hp q pg hs P H m) : LiH pg hs P H (H_4_play_84 pg hs k10 l4 l5 l6 q) (X4_play_84 k10' 100 H l4 l5 l6 m) m := by
  unfold H_4_play_84 X4_play_84
  refine Lh_chk (fun c1 => c1) (fun c1 => ?_)
  refine Lh_chkX ((by decide)) ?_
  refine Lh_pl hR (j := 19) rfl rfl rfl rfl rfl (fun q2 m3 hR4 => ?_)
  refine Lh_chkX ((by exact hHp hR4)) ?_
  refine Lh_chk (fun ⟨c5, c6⟩ => ⟨(by simp only [hHa1 hR4]; exact hHq1 hR4), c5, c6⟩) (fun ⟨c5, c6⟩ => ?_)
  refine Lh_chk (fun ⟨c7, c8⟩ => ⟨(by simp only [hHa2 hR4]; exact hHq2 hR4), c7, c8⟩) (fun ⟨c7, c8⟩ => ?_)
  refine Lh_cal (by simp only [hHa1 hR4, hHa2 hR4, hHg1 hR4, hHg2 hR4]; exact li_X4_hear hR4) (fun v10 q9 m11 hR12 => ?_)
  refine Lh_cal (li_X4_goOn hR12) (fun v14 q13 m15 hR16 => ?_)
  refine Lh_chk (fun c17 => c17) (fun c17 => ?_)
  exact hk10 hR16
theorem li_X4_play_10 {pg hs : Rst} {P H : Int} {k122 : Rst → Option G2} {k122' : Int → Mem → Option R2} (hk122 : ∀ {q : Rst} {m : Mem}, Hp q pg hs P H m → LiH pg hs P H (k122 q) (k122' 100 m) m) : ∀ (n : Nat) {l4 l5 : Int} {q : Rst} {m : Mem}, Hp q pg hs P H m → LiH pg hs P H (H_4_play_10 pg hs k122 n l4 l5 q) (X4_play_10 k122' n 100 H l4 l5 m) m := by
  intro n
  induction n with
  | zero =>
    intro l4 l5 q m hR
    exact Lh_none
  | succ n ih =>
    intro l4 l5 q m hR
    rw [H_4_play_10, X4_play_10]
    refine Lh_chkX ((by exact hHp hR)) ?_
    refine Lh_ite (by simp only [hHs hR]) ?_ ?_
    · exact hk122 hR
    · refine Lh_ite Iff.rfl ?_ ?_
      · exact hk122 hR
      · refine Lh_chkX ((by decide)) ?_
        refine Lh_chkX ((by simp only [hD hR]; decide)) ?_
        refine Lh_ite (by simp only [hD hR, hd_8 hR]) ?_ ?_
        · refine Lh_chk (fun ⟨c1, c2⟩ => ⟨(by simp only [hHa0 hR]; exact hHq0 hR), c1, c2⟩) (fun ⟨c1, c2⟩ => ?_)
          refine Lh_ite (by simp only [hHa0 hR, hHg0 hR]) ?_ ?_
          · refine Lh_cal (by simp only [hD hR]; exact li_X1_closePart hR) (fun v6 q5 m7 hR8 => ?_)
            refine Lh_chk (fun c9 => c9) (fun c9 => ?_)
            exact ih hR8
          · refine Lh_ite (by simp only [hHa0 hR, hHg0 hR]) ?_ ?_
            · refine Lh_chk (fun c3 => c3) (fun c3 => ?_)
              exact ih hR
            · refine Lh_ite (by simp only [hD hR, hd_7 hR]) ?_ ?_
              · refine Lh_ite Iff.rfl ?_ ?_
                · refine Lh_chk (fun c4 => c4) (fun c4 => ?_)
                  exact ih hR
                · simp only [hHa0 hR, hHg0 hR]
                  exact li_X4_play_84 ih hR
              · simp only [hHa0 hR, hHg0 hR]
                exact li_X4_play_84 ih hR
        · exact hk122 hR
