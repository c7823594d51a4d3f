/-! p35's law: one turn of it -/
section TRN
variable {k360 : Int → Int → Int → Int → Mem → Option R2} {N N' K K' b0 b1 T i y : Int} {s3 s4 : Int → Int} {r r' A S : Rst} {m m' : Mem} {w k n e v q : Int}
theorem l_1287 (h : Sw N K b0 b1 s3 s4 r m) (y0 : 0 ≤ y) (y1 : y < 2147483648) (i0 : 0 ≤ i) (i1 : i ≤ 1000) : L_law_1287 k360 1 1 T i y m = k360 1 1 T (i + 1) m := by
  obtain ⟨h1, h2, h3, h4, h5⟩ := id h
  have b10 := h3.1
  have t1333 : L_law_1333 k360 1 T i y 1 m = k360 1 1 T (i + 1) m := by
    unfold L_law_1333
    rw [if_f (by decide), chk_t (by omega), q_workflows h1, cal_e]
    by_cases c : r 16 0 ≤ 0
    · rw [if_t c, chk_t (by omega)]
    · rw [if_f c, chk_t i0]
      by_cases d : i % 5 = 4
      · have z3 := shr_nn (s := 3) y0 y1
        have z7 := shr_nn (s := 7) y0 y1
        have f0 := Int.emod_nonneg (Int32.ofInt y >>> (Int32.ofInt 3 &&& 31)).toInt (show r 16 0 ≠ 0 by omega)
        have f1 := Int.emod_lt_of_pos (Int32.ofInt y >>> (Int32.ofInt 3 &&& 31)).toInt (show 0 < r 16 0 by omega)
        rw [if_t d, q_workflows h1, cal_e, chk_t ⟨z3, by omega⟩]
        generalize (Int32.ofInt y >>> (Int32.ofInt 3 &&& 31)).toInt % r 16 0 = f at *
        have bf := (h3.bb f0 f1).2.1
        rw [q_runs h1 f0 f1, cal0_e, chk_t ⟨z7, by omega⟩]
        have g0 := Int.emod_nonneg (Int32.ofInt y >>> (Int32.ofInt 7 &&& 31)).toInt (show r 12 f ≠ 0 by omega)
        have g1 := Int.emod_lt_of_pos (Int32.ofInt y >>> (Int32.ofInt 7 &&& 31)).toInt (show 0 < r 12 f by omega)
        generalize (Int32.ofInt y >>> (Int32.ofInt 7 &&& 31)).toInt % r 12 f = g at *
        obtain ⟨v, u1, u2⟩ := q_found h1
        rw [chk_t (by omega), l_history h1 h3 f0 f1 (by omega) (by omega), cal_e, if_f (by decide), u1, cal0_e, q_workflows h1, cal_e, if_f (by omega), chk_t (by omega)]
      · rw [if_f d, chk_t (by omega)]
  have t1319 : L_law_1319 k360 1 T i y m = k360 1 1 T (i + 1) m := by
    unfold L_law_1319
    rw [chk_t (by omega), q_workflows h1, cal_e, if_f (by omega), t1333]
  unfold L_law_1287
  rw [if_f (by decide), l_workers h1 h3, cal_e, if_f (by decide), chk_t (by omega), q_workflows h1, cal_e]
  by_cases c : r 16 0 = 0
  · rw [if_t c, t1319]
  · have f0 := Int.emod_nonneg y (show r 16 0 ≠ 0 by omega)
    have f1 := Int.emod_lt_of_pos y (show 0 < r 16 0 by omega)
    rw [if_f c, q_workflows h1, cal_e, chk_t ⟨y0, by omega⟩, l_flow h1 h3 f0 f1, cal_e, if_f (by decide), t1319]
/-- the turn ends well -/
def Tn (k360 : Int → Int → Int → Int → Mem → Option R2) (T i N K b0 b1 : Int) (s3 s4 : Int → Int) (o : Option R2) : Prop := ∃ r' m', o = k360 1 1 T (i + 1) m' ∧ Sw (N + 3) (K + 3) b0 b1 s3 s4 r' m' ∧ 0 < r' 16 0
theorem Tn.of (h : Sw N' K' b0 b1 s3 s4 r m) (hN : N' ≤ N + 3) (hK : K' ≤ K + 3) (h16 : 0 < r 16 0) (y0 : 0 ≤ y) (y1 : y < 2147483648) (i0 : 0 ≤ i) (i1 : i ≤ 1000) : Tn k360 T i N K b0 b1 s3 s4 (L_law_1287 k360 1 1 T i y m) := ⟨r, m, l_1287 h y0 y1 i0 i1, h.mono hN hK, h16⟩
theorem zr_due (h : w < 10) : dueV (zr r) w = dueV r w := dueV_fr fun j _ b => zr_lo b
theorem zr_has : hasV (zr r) k = hasV r k := by
  unfold hasV
  rw [zr_lo (by omega), zr_lo (by omega)]
theorem zr_rd {n : Nat} : rdS (zr r) q n = rdS r q n := rdS_fr fun j _ b => zr_lo (by omega)
theorem t_start (h : Sw N K b0 b1 s3 s4 r m) (y0 : 0 ≤ y) (y1 : y < 2147483648) (i0 : 0 ≤ i) (i1 : i ≤ 1000) (h7 : r 16 0 < 7) {s0 : Int} : Tn k360 T i N K b0 b1 s3 s4 (L_law_454 k360 1 T i y 0 (r 16 0) s0 m) := by
  obtain ⟨h1, h2, h3, h4, h5⟩ := id h
  have b10 := h3.1
  have z1 := shr_nn (s := 1) y0 y1
  have z4 := shr_nn (s := 4) y0 y1
  have z6 := shr_nn (s := 6) y0 y1
  unfold L_law_454
  rw [if_t rfl, if_f (by omega), chk_t z1, chk_t z4, chk_t z6]
  have q1 : 0 ≤ (Int32.ofInt y >>> (Int32.ofInt 1 &&& 31)).toInt % 3 ∧ (Int32.ofInt y >>> (Int32.ofInt 1 &&& 31)).toInt % 3 ≤ 2 := by omega
  have q4 : 0 ≤ (Int32.ofInt y >>> (Int32.ofInt 4 &&& 31)).toInt % 3 ∧ (Int32.ofInt y >>> (Int32.ofInt 4 &&& 31)).toInt % 3 ≤ 2 := by omega
  have q6 : -99 ≤ (Int32.ofInt y >>> (Int32.ofInt 6 &&& 31)).toInt % 60 ∧ (Int32.ofInt y >>> (Int32.ofInt 6 &&& 31)).toInt % 60 ≤ 99 := by omega
  obtain ⟨r1, g1, g2, g3, g4, g5, g6, g7, g8, g9⟩ := o_start h1 h3 q1 q4 q6 (by omega)
  have cl := c_start (cd := id) (a := (Int32.ofInt y >>> (Int32.ofInt 1 &&& 31)).toInt % 3) (b := (Int32.ofInt y >>> (Int32.ofInt 4 &&& 31)).toInt % 3) (v := (Int32.ofInt y >>> (Int32.ofInt 6 &&& 31)).toInt % 60) h1 h2 rfl rfl rfl rfl
  rw [g1] at cl
  obtain ⟨e, v, m1, v', r', u1, u2, u3, u4, u5, u6⟩ := h.call cl fun v r' e => by cases e; exact g3
  cases u2
  rw [g2] at u4
  obtain rfl : e = 0 := u4.symm
  obtain rfl := u5 rfl
  have zl : ∀ j : Nat, j < 40 → zr r1 j = r1 j := fun j hj => zr_lo hj
  have W1 : r 16 0 < zr r1 16 0 := by rw [zl 16 (by omega)]; omega
  have e12 : zr r1 12 (r 16 0) = 1 := by rw [zl 12 (by omega)]; exact g5
  have e9 : rw9 (zr r1) (r 16 0) = 9 * r 16 0 := by unfold rw9; rw [e12]; omega
  have du : dueV (zr r1) (r 16 0) = 1 := by
    unfold dueV hk
    rw [e9, zl 17 (by omega), zl 18 (by omega), zl 19 (by omega), g6, g7, show 80 * (9 * r 16 0) + (1 - 1) = 720 * r 16 0 by omega, g8, if_t ⟨rfl, by decide⟩]
  rw [on_2 u3 u1, cal_e, show onV 0 (r 16 0) = r 16 0 from rfl, if_t rfl, chk_t (by omega), q_due u6.1 b10.1 W1, cal0_e, du, if_f (by decide), q_events u6.1 b10.1 W1 (Int.le_refl _) (by omega), cal0_e, show 9 * r 16 0 + 1 - 1 = 9 * r 16 0 by omega, zl 18 (by omega), if_t g7, q_parent u6.1 b10.1 W1, cal0_e, zl 9 (by omega), if_t g9]
  exact Tn.of u6 (by omega) (by omega) (by omega) y0 y1 i0 i1
theorem t_signal (h : Sw N K b0 b1 s3 s4 r m) (y0 : 0 ≤ y) (y1 : y < 2147483648) (i0 : 0 ≤ i) (i1 : i ≤ 1000) (w0 : 0 ≤ w) (w1 : w < r 16 0) {l7 : Int} (hl : l7 < 3) : Tn k360 T i N K b0 b1 s3 s4 (L_law_546 k360 1 T i y l7 w k m) := by
  obtain ⟨h1, h2, h3, h4, h5⟩ := id h
  have bb := h3.bb w0 w1
  have er : rw9 r w = 9 * w + r 12 w - 1 := rfl
  have z4 := shr_nn (s := 4) y0 y1
  have z7 := shr_nn (s := 7) y0 y1
  have q4 : 0 ≤ (Int32.ofInt y >>> (Int32.ofInt 4 &&& 31)).toInt % 3 ∧ (Int32.ofInt y >>> (Int32.ofInt 4 &&& 31)).toInt % 3 ≤ 2 := by omega
  have q7 : -99 ≤ (Int32.ofInt y >>> (Int32.ofInt 7 &&& 31)).toInt % 60 ∧ (Int32.ofInt y >>> (Int32.ofInt 7 &&& 31)).toInt % 60 ≤ 99 := by omega
  unfold L_law_546
  rw [if_f (by omega), chk_t (by omega), q_runs h1 w0 w1, cal0_e, q_events h1 w0 w1 bb.2.1.1 (Int.le_refl _), cal0_e, chk_t z4, chk_t z7, ← er]
  obtain ⟨v1, r1, g1, g2, g3, g4⟩ := o_signal h1 h3 w0 w1 q4 q7
  have cl := c_signal (cd := id) (w := w) (x := (Int32.ofInt y >>> (Int32.ofInt 4 &&& 31)).toInt % 3) (y := (Int32.ofInt y >>> (Int32.ofInt 7 &&& 31)).toInt % 60) h1 h2 rfl rfl rfl
  rw [g1] at cl
  obtain ⟨e, v, m1, v', r', u1, u2, u3, u4, u5, u6⟩ := h.call cl fun v r' e => by cases e; exact g3
  cases u2
  rw [g2] at u4
  obtain rfl : e = 0 := u4.symm
  obtain rfl := u5 rfl
  have zl : ∀ j : Nat, j < 40 → zr r1 j = r1 j := fun j hj => zr_lo hj
  have same : ∀ j : Nat, 1 ≤ j → j < 18 → r1 j = r j := fun j a b => by
    rcases g4 with ⟨_, _, rfl⟩ | ⟨_, _, rfl⟩
    · rw [wr_n (by omega), ur_ne (by omega)]
    · exact ur_ne (by omega)
  have e12 : zr r1 12 w = r 12 w := by rw [zl 12 (by omega), same 12 (by omega) (by omega)]
  have w2 : w < zr r1 16 0 := by rw [zl 16 (by omega), same 16 (by omega) (by omega)]; exact w1
  have e17 : zr r1 17 (9 * w + r 12 w - 1) = r 17 (rw9 r w) := by rw [zl 17 (by omega), same 17 (by omega) (by omega), er]
  rw [u1, cal0_e, q_state u6.1 w0 w2 bb.2.1.1 (by omega), cal0_e, e17]
  have ok := fun (yy : Int) => Tn.of (k360 := k360) (T := T) (N := N) (K := K) u6 (by omega) (by omega) (by omega) y0 y1 i0 i1
  have ev := q_events u6.1 w0 w2 bb.2.1.1 (by rw [e12]; exact Int.le_refl _)
  rw [← er, zl 18 (by omega)] at ev
  rcases g4 with ⟨⟨c1, c2⟩, rfl, rfl⟩ | ⟨c1, rfl, rfl⟩
  · have x18 : wr w 4 ((Int32.ofInt y >>> (Int32.ofInt 4 &&& 31)).toInt % 3) ((Int32.ofInt y >>> (Int32.ofInt 7 &&& 31)).toInt % 60) (ur r 0 0 0) 18 (rw9 r w) = r 18 (rw9 r w) + 1 := by
      have := wr_18 (r := ur r 0 0 0) (w := w) (k := 4) (x := (Int32.ofInt y >>> (Int32.ofInt 4 &&& 31)).toInt % 3) (y := (Int32.ofInt y >>> (Int32.ofInt 7 &&& 31)).toInt % 60)
      rw [u0_rw, ur_ne (show (18 : Nat) ≠ 0 by decide)] at this
      exact this
    have du : dueV (zr (wr w 4 ((Int32.ofInt y >>> (Int32.ofInt 4 &&& 31)).toInt % 3) ((Int32.ofInt y >>> (Int32.ofInt 7 &&& 31)).toInt % 60) (ur r 0 0 0))) w = 1 := by
      rw [zr_due bb.1]
      exact dueV_wr (by rw [u0_rw, ur_n (by omega)]; exact c1) (by decide)
    unfold L_law_619 L_law_642
    rw [if_t c1, if_f (by omega), if_t rfl, chk_t (by omega), ev, cal0_e, x18, if_f (by decide), chk_t (by omega), if_t rfl, if_f (by decide), chk_t (by omega), q_due u6.1 w0 w2, cal0_e, du, if_f (by decide)]
    exact ok 0
  · have x18 : ur r 0 0 0 18 (rw9 r w) = r 18 (rw9 r w) := by rw [ur_n (by omega)]
    have t619 : Tn k360 T i N K b0 b1 s3 s4 (L_law_619 k360 1 T i y w (r 12 w) (r 18 (rw9 r w)) 0 0 0 m1) := by
      unfold L_law_619 L_law_642
      rw [if_t rfl, chk_t (by omega), ev, cal0_e, x18, if_t rfl, chk_t (by omega), if_t (by omega), if_t rfl]
      exact ok 0
    by_cases d : r 17 (rw9 r w) = 20
    · rw [if_t d, if_t (by omega)]; exact t619
    · rw [if_f d]; exact t619
theorem t_cancel (h : Sw N K b0 b1 s3 s4 r m) (y0 : 0 ≤ y) (y1 : y < 2147483648) (i0 : 0 ≤ i) (i1 : i ≤ 1000) (w0 : 0 ≤ w) (w1 : w < r 16 0) (hb : (Int32.ofInt ((Int32.ofInt y >>> (Int32.ofInt 3 &&& 31)).toInt) &&& Int32.ofInt 3).toInt = 0) : Tn k360 T i N K b0 b1 s3 s4 (L_law_546 k360 1 T i y 3 w k m) := by
  obtain ⟨h1, h2, h3, h4, h5⟩ := id h
  unfold L_law_546
  rw [if_t (by omega), if_t rfl, if_t hb, chk_t (by omega)]
  obtain ⟨v1, r1, g1, g2, g3, g4⟩ := o_cancel h1 h3 w0 w1
  have cl := c_cancel (cd := id) (w := w) h1 h2 rfl rfl
  rw [g1] at cl
  obtain ⟨e, v, m1, v', r', u1, u2, u3, u4, u5, u6⟩ := h.call cl fun v r' e => by cases e; exact g3
  cases u2
  rw [g2] at u4
  obtain rfl : e = 0 := u4.symm
  obtain rfl := u5 rfl
  have zl : ∀ j : Nat, j < 40 → zr r1 j = r1 j := fun j hj => zr_lo hj
  have f16 : r1 16 = r 16 := by rcases g4 with ⟨_, _, _, _, f⟩ | ⟨_, _, _, f⟩ <;> exact f
  have nc : ¬ Cab (zr r1) w := by
    have e : Cab (zr r1) w ↔ Cab r1 w := by
      unfold Cab hk rw9
      rw [zl 12 (by omega), zl 17 (by omega), zl 18 (by omega), zl 19 (by omega)]
    rw [e]
    rcases g4 with ⟨_, _, _, f, _⟩ | ⟨_, _, f, _⟩ <;> exact f
  have w2 : w < zr r1 16 0 := by rw [zl 16 (by omega), f16]; exact w1
  obtain ⟨v2, r2, a1, a2, a3, a4⟩ := o_cancel u6.1 u6.2.2.1 w0 w2
  obtain ⟨_, rfl, _, f2⟩ := a4.resolve_left fun hh => nc hh.1
  have cl2 := c_cancel (cd := id) (w := w) u6.1 u6.2.1 rfl rfl
  rw [a1] at cl2
  obtain ⟨e2, v3, m2, v4, r4, t1, t2, t3, t4, t5, t6⟩ := u6.call cl2 fun v r' e => by cases e; exact a3
  cases t2
  rw [a2] at t4
  obtain rfl : e2 = 0 := t4.symm
  obtain rfl := t5 rfl
  have ok := Tn.of (k360 := k360) (T := T) (N := N) (K := K) t6 (by omega) (by omega) (by rw [zr_lo (by omega), f2]; omega) y0 y1 i0 i1
  rw [u1, cal0_e]
  rcases g4 with ⟨_, rfl, du, _, _⟩ | ⟨_, rfl, _, _⟩
  · rw [if_f (by decide), q_due u6.1 w0 w2, cal0_e, zr_due (by have := h3.1; omega), du, if_f (by decide), t1, cal0_e, if_t rfl]
    exact ok
  · rw [if_t rfl, t1, cal0_e, if_t rfl]
    exact ok
end TRN
