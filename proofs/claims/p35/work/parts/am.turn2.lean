/-! p35's law: one turn of it: decisions, workers, ticks -/
section TRO
variable {k360 : Int → Int → Int → Int → Mem → Option R2} {N N' K K' b0 b1 T i y : Int} {s3 s4 : Int → Int} {r r' A S : Rst} {m m' : Mem} {w k n e v q l7 : Int}
theorem t_decides (h : Sw N K b0 b1 s3 s4 r m) (hN : N ≤ 599) (y0 : 0 ≤ y) (y1 : y < 2147483648) (i0 : 0 ≤ i) (i1 : i ≤ 1000) (w0 : 0 ≤ w) (w1 : w < r 16 0) (hl : l7 < 9) : Tn k360 T i N K b0 b1 s3 s4 (L_law_737 k360 1 T i y l7 w k m) := by
  have z := and_nn (x := Int32.ofInt ((Int32.ofInt y >>> (Int32.ofInt 5 &&& 31)).toInt)) (k := Int32.ofInt 3) (by decide)
  rw [show (Int32.ofInt 3).toInt = 3 from by decide] at z
  unfold L_law_737
  rw [if_f (by omega), chk_t z.1, chk_t (by omega)]
  obtain ⟨r', m', u1, u2, u3⟩ := l_decides (ver := 1 + (Int32.ofInt ((Int32.ofInt y >>> (Int32.ofInt 5 &&& 31)).toInt) &&& Int32.ofInt 3).toInt / 3) h hN w0 w1
  rw [u1, cal_e]
  exact Tn.of u2 (by omega) (by omega) u3 y0 y1 i0 i1
theorem t_take (h : Sw N K b0 b1 s3 s4 r m) (hN : N ≤ 599) (h16 : 0 < r 16 0) (y0 : 0 ≤ y) (y1 : y < 2147483648) (i0 : 0 ≤ i) (i1 : i ≤ 1000) (k0 : 0 ≤ k) (k1 : k < 4) (hl : 9 ≤ l7) (hl2 : l7 < 11) : Tn k360 T i N K b0 b1 s3 s4 (L_law_737 k360 1 T i y l7 w k m) := by
  obtain ⟨h1, h2, h3, h4, h5⟩ := id h
  have z := and_nn (x := Int32.ofInt ((Int32.ofInt y >>> (Int32.ofInt 4 &&& 31)).toInt)) (k := Int32.ofInt 1) (by decide)
  rw [show (Int32.ofInt 1).toInt = 1 from by decide] at z
  unfold L_law_737
  rw [if_t hl, if_f (by omega), chk_t (by omega)]
  generalize (Int32.ofInt ((Int32.ofInt y >>> (Int32.ofInt 4 &&& 31)).toInt) &&& Int32.ofInt 1).toInt = qu at *
  have rd := rdS_ok (r := r) (q := qu) (n := (r 16 0).toNat)
  have b10 := h3.1
  rw [q_ready h1 z.1 (by omega), cal0_e, q_has h1 k0 k1, cal0_e]
  have cl := c_take (cd := cdA) (k := k) (q := qu) h1 h2 (by omega) rfl rfl rfl
  have ot := o_take h1 h3 k0 k1 z.1 (show qu < 2 by omega)
  obtain ⟨e, v, m1, v', r1, u1, u2, u3, u4, u5, u6⟩ := h.call cl fun v r' e => by
    rcases ot with ⟨v2, a⟩ | ⟨-, a⟩
    · rw [a] at e; cases e; exact h3.f0
    · exact (a v r' e).2.1
  have zl : ∀ j : Nat, j < 40 → zr r1 j = r1 j := fun j hj => zr_lo hj
  rw [on_4 u3 u1, cal_e]
  rcases ot with ⟨v2, a⟩ | ⟨c39, a⟩
  · rw [a] at u2
    cases u2
    rw [ur_e rfl rfl] at u4
    obtain rfl := cdA_2 u3 u4.symm
    have f : ∀ j : Nat, 1 ≤ j → j < 40 → zr (ur r 0 0 2) j = r j := fun j a b => by rw [zl j b, ur_ne (by omega)]
    rw [show onV 3 v = -90003 from rfl, if_t rfl, q_ready u6.1 z.1 (by omega), cal0_e, rdS_fr fun j a b => f j (by omega) (by omega), f 16 (by omega) (by omega), if_t rfl]
    exact Tn.of u6 (by omega) (by omega) (by rw [f 16 (by omega) (by omega)]; exact h16) y0 y1 i0 i1
  · obtain ⟨a1, a2, a3, a4⟩ := a v' r1 u2
    obtain rfl := cdA_0 u3 (by rw [← u4]; exact a1)
    obtain rfl := u5 rfl
    have z16 : zr r1 16 0 = r 16 0 := by rw [zl 16 (by omega), a3]
    have ok := Tn.of (k360 := k360) (T := T) (N := N) (K := K) u6 (by omega) (by omega) (by omega) y0 y1 i0 i1
    have hv : hasV r k = -1 := by unfold hasV; rw [if_t c39]
    rw [show onV 0 v' = v' from rfl]
    rcases a4 with ⟨rfl, a5⟩ | ⟨a5, a6, a7⟩
    · have hv2 : hasV (zr r1) k = -1 := by
        rw [zr_has]
        unfold hasV
        rw [a5, if_t c39]
      rw [if_f (by decide), if_t rfl, q_has u6.1 k0 k1, cal0_e, if_t hv2]
      exact ok
    · rw [if_f (by omega), if_f (by omega), if_t hv, q_has u6.1 k0 k1, cal0_e, zr_has, if_t a6.symm, q_ready u6.1 z.1 (by omega), cal0_e, chk_t (by omega), zr_rd, z16, if_t a7]
      exact ok
theorem t_end (h : Sw N K b0 b1 s3 s4 r m) (h16 : 0 < r 16 0) (y0 : 0 ≤ y) (y1 : y < 2147483648) (i0 : 0 ≤ i) (i1 : i ≤ 1000) (k0 : 0 ≤ k) (k1 : k < 4) : Tn k360 T i N K b0 b1 s3 s4 (L_law_737 k360 1 T i y 11 w k m) := by
  obtain ⟨h1, h2, h3, h4, h5⟩ := id h
  have z6 := shr_nn (s := 6) y0 y1
  have q6 : -99 ≤ (Int32.ofInt y >>> (Int32.ofInt 6 &&& 31)).toInt % 99 ∧ (Int32.ofInt y >>> (Int32.ofInt 6 &&& 31)).toInt % 99 ≤ 99 := by omega
  unfold L_law_737
  rw [if_t (by decide), if_t (by decide), if_t rfl, chk_t (by omega), q_has h1 k0 k1, cal0_e, chk_t z6]
  generalize (Int32.ofInt y >>> (Int32.ofInt 6 &&& 31)).toInt % 99 = x at *
  have cl := c_end (cd := id) (k := k) (x := x) h1 h2 rfl rfl rfl rfl
  have oe := o_end h1 h3 k0 k1 q6
  obtain ⟨e, v, m1, v', r1, u1, u2, u3, u4, u5, u6⟩ := h.call cl fun v r' e => by
    rcases oe with ⟨-, a⟩ | ⟨w, n, v2, r2, -, -, a, -, b, -⟩
    · rw [a] at e; cases e; exact h3.f0
    · rw [a] at e; cases e; exact b
  have zl : ∀ j : Nat, j < 40 → zr r1 j = r1 j := fun j hj => zr_lo hj
  rw [on_6 u3 u1, cal_e]
  rcases oe with ⟨c39, a⟩ | ⟨w2, n, v2, r2, c39, ⟨c0, c1, c2, c3⟩, a, a0, a1, a2, a3, a4⟩
  · rw [a] at u2
    cases u2
    rw [ur_e rfl rfl] at u4
    obtain rfl : e = 3 := u4.symm
    have hv : hasV r k = -1 := by unfold hasV; rw [if_t c39]
    rw [if_t hv, show onV 3 (if v = 0 then 0 else 1) = -90003 from rfl, if_t rfl]
    exact Tn.of u6 (by omega) (by omega) (by rw [zl 16 (by omega), ur_n (by omega)]; exact h16) y0 y1 i0 i1
  · rw [a] at u2
    cases u2
    rw [a0] at u4
    obtain rfl : e = 0 := u4.symm
    obtain rfl := u5 rfl
    have z16 : zr r1 16 0 = r 16 0 := by rw [zl 16 (by omega), a4]
    have bw := (h3.bb c0 c1).2.1
    have hv := hasV_of c39 c0 c2 c3
    have hv2 : hasV (zr r1) k = -1 := by
      rw [zr_has]
      unfold hasV
      rw [if_t a2]
    have ok := Tn.of (k360 := k360) (T := T) (N := N) (K := K) u6 (by omega) (by omega) (by omega) y0 y1 i0 i1
    rw [if_f (by omega), q_has u6.1 k0 k1, cal0_e, if_t hv2, show onV 0 (if v' = 0 then 0 else 1) = (if v' = 0 then 0 else 1) from rfl]
    rcases a3 with rfl | ⟨rfl, du⟩
    · rw [if_t (show (if (0 : Int) = 0 then (0 : Int) else 1) = 0 from rfl)]
      exact ok
    · have b10 := h3.1
      rw [if_f (show ¬ (if (1 : Int) = 0 then (0 : Int) else 1) = 0 by decide), chk_t (by omega), show hasV r k / 1000 = w2 by omega, q_due u6.1 c0 (by omega), cal0_e, zr_due (by omega), du, if_f (by decide)]
      exact ok
theorem t_fail (h : Sw N K b0 b1 s3 s4 r m) (hN : N ≤ 599) (h16 : 0 < r 16 0) (y0 : 0 ≤ y) (y1 : y < 2147483648) (i0 : 0 ≤ i) (i1 : i ≤ 1000) (k0 : 0 ≤ k) (k1 : k < 4) (hb : (Int32.ofInt ((Int32.ofInt y >>> (Int32.ofInt 5 &&& 31)).toInt) &&& Int32.ofInt 1).toInt = 0) : Tn k360 T i N K b0 b1 s3 s4 (L_law_737 k360 1 T i y 12 w k m) := by
  obtain ⟨h1, h2, h3, h4, h5⟩ := id h
  unfold L_law_737
  rw [if_t (by decide), if_t (by decide), if_f (by decide), if_t rfl, if_t hb, chk_t (by omega), q_has h1 k0 k1, cal0_e]
  have cl := c_fail (cd := cdA) (k := k) h1 h2 (by omega) rfl rfl rfl
  have oe := o_fail h1 h3 k0 k1
  obtain ⟨e, v, m1, v', r1, u1, u2, u3, u4, u5, u6⟩ := h.call cl fun v r' e => by
    rcases oe with ⟨-, v2, a⟩ | ⟨-, a⟩
    · rw [a] at e; cases e; exact h3.f0
    · exact (a v r' e).2.1
  have zl : ∀ j : Nat, j < 40 → zr r1 j = r1 j := fun j hj => zr_lo hj
  rw [on_7 u3 u1, cal_e]
  rcases oe with ⟨c39, v2, a⟩ | ⟨c39, a⟩
  · rw [a] at u2
    cases u2
    rw [ur_e rfl rfl] at u4
    obtain rfl := cdA_2 u3 u4.symm
    have hv : hasV r k = -1 := by unfold hasV; rw [if_t c39]
    rw [if_t hv, show onV 3 v = -90003 from rfl, if_t rfl]
    exact Tn.of u6 (by omega) (by omega) (by rw [zl 16 (by omega), ur_n (by omega)]; exact h16) y0 y1 i0 i1
  · obtain ⟨a1, a2, a3, a4, a5⟩ := a v' r1 u2
    obtain rfl := cdA_0 u3 (by rw [← u4]; exact a1)
    obtain rfl := u5 rfl
    have z16 : zr r1 16 0 = r 16 0 := by rw [zl 16 (by omega), a5]
    have hv : hasV r k ≠ -1 := by
      rcases h1.hand k0 k1 with hh | ⟨w2, n, c0, c1, c2, c3, c4, c5, c6⟩
      · exact absurd hh c39
      · have bw := (h3.bb c0 c1).2.1
        rw [hasV_of c5 c0 c2 c4]; omega
    have hv2 : hasV (zr r1) k = -1 := by
      rw [zr_has]
      unfold hasV
      rw [if_t a3]
    rw [if_f hv, show onV 0 v' = v' from rfl, if_f (by omega), if_f (by omega), q_has u6.1 k0 k1, cal0_e, if_t hv2]
    exact Tn.of u6 (by omega) (by omega) (by omega) y0 y1 i0 i1
/-- the last question of a beat's turn -/
theorem t_1209 (h : Sw N' K' b0 b1 s3 s4 r m) (hN : N' ≤ N + 2) (hK : K' ≤ K + 2) (h16 : 0 < r 16 0) (y0 : 0 ≤ y) (y1 : y < 2147483648) (i0 : 0 ≤ i) (i1 : i ≤ 1000) (k0 : 0 ≤ k) (k1 : k < 4) (hx : v = 0 ∧ r 39 k = -1 ∨ v = 1) : Tn k360 T i N K b0 b1 s3 s4 (L_law_1209 k360 1 T i y k v 1 m) := by
  obtain ⟨h1, h2, h3, h4, h5⟩ := id h
  unfold L_law_1209
  rw [if_f (by decide)]
  rcases hx with ⟨rfl, e39⟩ | rfl
  · obtain ⟨r1, g1, g2, g3, g4, g5⟩ := o_run (x := 1) h3 k0 k1 (Or.inr rfl)
    have cl := c_run (cd := id) (k := k) (x := 1) h1 h2 rfl rfl (Or.inr rfl)
    rw [g1] at cl
    obtain ⟨e, v, m1, v', r', u1, u2, u3, u4, u5, u6⟩ := h.call cl fun v r' e => by cases e; exact g3
    cases u2
    rw [g2] at u4
    obtain rfl : e = 0 := u4.symm
    have hv := u5 rfl
    rw [if_t e39] at hv
    rw [if_t rfl, chk_t (by omega), u1, cal0_e, if_t hv.symm]
    exact Tn.of u6 (by omega) (by omega) (by rw [zr_lo (by omega), g5 16 (by omega) (by omega) (by omega)]; exact h16) y0 y1 i0 i1
  · rw [if_f (by decide)]
    exact Tn.of h (by omega) (by omega) h16 y0 y1 i0 i1
theorem t_1151 (h : Sw N' K' b0 b1 s3 s4 r m) (hN : N' ≤ N + 1) (hK : K' ≤ K + 1) (h16 : 0 < r 16 0) (y0 : 0 ≤ y) (y1 : y < 2147483648) (i0 : 0 ≤ i) (i1 : i ≤ 1000) (k0 : 0 ≤ k) (k1 : k < 4) (hx : v = 0 ∨ v = 1) : Tn k360 T i N K b0 b1 s3 s4 (L_law_1151 k360 1 T i y k (hasV r k) v m) := by
  obtain ⟨h1, h2, h3, h4, h5⟩ := id h
  obtain ⟨r1, g1, g2, g3, g4, g5⟩ := o_run (x := v) h3 k0 k1 hx
  have cl := c_run (cd := id) (k := k) (x := v) h1 h2 rfl rfl hx
  rw [g1] at cl
  obtain ⟨e, v2, m1, v', r', u1, u2, u3, u4, u5, u6⟩ := h.call cl fun v r' e => by cases e; exact g3
  cases u2
  rw [g2] at u4
  obtain rfl : e = 0 := u4.symm
  have hv := u5 rfl
  have zl : ∀ j : Nat, j < 40 → zr r1 j = r1 j := fun j hj => zr_lo hj
  have z16 : 0 < zr r1 16 0 := by rw [zl 16 (by omega), g5 16 (by omega) (by omega) (by omega)]; exact h16
  have hand := h1.hand k0 k1
  have h12 : ∀ w2, zr r1 12 w2 = r 12 w2 := fun w2 => by rw [zl 12 (by omega), g5 12 (by omega) (by omega) (by omega)]
  have t1209 := t_1209 (k360 := k360) (T := T) (N := N) (K := K) (v := v) u6 (by omega) (by omega) z16 y0 y1 i0 i1 k0 k1 (by
    rcases hx with rfl | rfl
    · exact Or.inl ⟨rfl, by rw [zl 39 (by omega), g4, if_t rfl]⟩
    · exact Or.inr rfl)
  have t1188 : (v = 1 → r1 39 k = r 39 k) → Tn k360 T i N K b0 b1 s3 s4 (L_law_1188 k360 1 T i y k (hasV r k) v m1) := fun hs => by
    unfold L_law_1188
    rcases hx with rfl | rfl
    · rw [if_t rfl]; exact t1209
    · have e : hasV (zr r1) k = hasV r k := by
        rw [zr_has]
        unfold hasV
        rw [hs rfl, g5 12 (by omega) (by omega) (by omega)]
      rw [if_f (by decide), chk_t (by omega), q_has u6.1 k0 k1, cal0_e, if_t e]
      exact t1209
  have t1170 : Tn k360 T i N K b0 b1 s3 s4 (L_law_1170 k360 1 T i y k (hasV r k) v v2 v2 m1) := by
    unfold L_law_1170
    rw [if_t rfl]
    rcases hx with rfl | rfl
    · have e : hasV (zr r1) k = -1 := by
        rw [zr_has]
        unfold hasV
        rw [g4, if_t rfl, if_t rfl]
      rw [if_t rfl, chk_t (by omega), q_has u6.1 k0 k1, cal0_e, if_t e]
      exact t1188 fun h => by omega
    · rw [if_f (by decide)]
      exact t1188 fun _ => by rw [g4, if_f (by decide)]
  unfold L_law_1151
  rw [chk_t (by omega), u1, cal0_e]
  rcases hand with e39 | ⟨w2, n, c0, c1, c2, c3, c4, c5, c6⟩
  · rw [if_t e39] at hv
    have e : hasV r k = -1 := by unfold hasV; rw [if_t e39]
    rw [if_t (by omega)]
    rw [← hv] at t1170 ⊢
    exact t1170
  · have bw := (h3.bb c0 c1).2.1
    have e := hasV_of c5 c0 c2 c4
    rw [if_f (show ¬ r 39 k = -1 by omega)] at hv
    rw [if_f (by omega)]
    rw [← hv] at t1170 ⊢
    exact t1170
theorem t_beat (h : Sw N K b0 b1 s3 s4 r m) (hN : N ≤ 599) (h16 : 0 < r 16 0) (y0 : 0 ≤ y) (y1 : y < 2147483648) (i0 : 0 ≤ i) (i1 : i ≤ 1000) (k0 : 0 ≤ k) (k1 : k < 4) : Tn k360 T i N K b0 b1 s3 s4 (L_law_1078 k360 1 T i y 12 k m) := by
  obtain ⟨h1, h2, h3, h4, h5⟩ := id h
  have gn := h1.2.2.gn.1
  unfold L_law_1078
  rw [if_t rfl, chk_t (by omega), q_has h1 k0 k1, cal0_e]
  have cl := c_beat (cd := cdA) (k := k) h1 h2 (by omega) rfl rfl rfl
  have oe := o_beat h1 h3 k0 k1
  obtain ⟨e, v, m1, v', r1, u1, u2, u3, u4, u5, u6⟩ := h.call cl fun v r' e => by
    rcases oe with ⟨-, v2, a⟩ | ⟨-, a⟩
    · rw [a] at e; cases e; exact h3.f0
    · exact (a v r' e).2.1
  have zl : ∀ j : Nat, j < 40 → zr r1 j = r1 j := fun j hj => zr_lo hj
  rw [on_5 u3 u1, cal_e]
  have main : ∀ s0, (s0 = 0 ∨ s0 = 1) → Tn k360 T i N K b0 b1 s3 s4 (L_law_1121 k360 1 T i y k (hasV r k) (onV e v) s0 m1) := fun s0 hs => by
    unfold L_law_1121
    rcases oe with ⟨c39, v2, a⟩ | ⟨c39, a⟩
    · rw [a] at u2
      cases u2
      rw [ur_e rfl rfl] at u4
      obtain rfl := cdA_2 u3 u4.symm
      have hv : hasV r k = -1 := by unfold hasV; rw [if_t c39]
      have e2 : hasV (zr (ur r 0 0 2)) k = hasV r k := by
        rw [zr_has]
        unfold hasV
        rw [ur_ne (by omega), ur_ne (by omega)]
      rw [if_t hv, show onV 3 v = -90003 from rfl, if_t rfl, ← e2]
      exact t_1151 u6 (by omega) (by omega) (by rw [zl 16 (by omega), ur_n (by omega)]; exact h16) y0 y1 i0 i1 k0 k1 hs
    · obtain ⟨a1, a2, a3, a4⟩ := a v' r1 u2
      obtain rfl := cdA_0 u3 (by rw [← u4]; exact a1)
      obtain rfl := u5 rfl
      have hv : hasV r k ≠ -1 := by
        rcases h1.hand k0 k1 with hh | ⟨w2, n, c0, c1, c2, c3, c4, c5, c6⟩
        · exact absurd hh c39
        · have bw := (h3.bb c0 c1).2.1
          rw [hasV_of c5 c0 c2 c4]; omega
      have e2 : hasV (zr r1) k = hasV r k := by
        rw [zr_has]
        unfold hasV
        rw [a4 39 (by omega) (by omega), a4 12 (by omega) (by omega)]
      have e1 : zr r1 1 0 = r 1 0 := by rw [zl 1 (by omega), a4 1 (by omega) (by omega)]
      rw [if_f hv, chk_t (by omega), q_clock u6.1, cal_e, e1, chk_t (by omega), show onV 0 v' = v' from rfl, if_t a3, ← e2]
      exact t_1151 u6 (by omega) (by omega) (by rw [zl 16 (by omega), a4 16 (by omega) (by omega)]; exact h16) y0 y1 i0 i1 k0 k1 hs
  by_cases c : (Int32.ofInt ((Int32.ofInt y >>> (Int32.ofInt 6 &&& 31)).toInt) &&& Int32.ofInt 1).toInt = 1
  · rw [if_t c]; exact main 1 (Or.inr rfl)
  · rw [if_f c]; exact main 0 (Or.inl rfl)
theorem t_tick (h : Sw N K b0 b1 s3 s4 r m) (hN : N ≤ 599) (h16 : 0 < r 16 0) (y0 : 0 ≤ y) (y1 : y < 2147483648) (i0 : 0 ≤ i) (i1 : i ≤ 1000) (hl : l7 ≠ 12) : Tn k360 T i N K b0 b1 s3 s4 (L_law_1078 k360 1 T i y l7 k m) := by
  obtain ⟨h1, h2, h3, h4, h5⟩ := id h
  have gn := h1.2.2.gn.1
  have z3 := shr_nn (s := 3) y0 y1
  unfold L_law_1078
  rw [if_f hl, chk_t (by omega), q_clock h1, cal_e, chk_t z3, chk_t (by omega)]
  have hx : 1 ≤ 1 + (Int32.ofInt y >>> (Int32.ofInt 3 &&& 31)).toInt % 6 ∧ 1 + (Int32.ofInt y >>> (Int32.ofInt 3 &&& 31)).toInt % 6 ≤ 50 := by omega
  generalize 1 + (Int32.ofInt y >>> (Int32.ofInt 3 &&& 31)).toInt % 6 = x at *
  have cl := c_tick (cd := fun e => if e = 0 then 0 else if e = 2 then 1 else 77) (l := x) h1 h2 hN rfl rfl
  obtain ⟨e, v, m1, v', r1, u1, u2, u3, u4, u5, u6⟩ := h.call cl fun v r' e => (o_tick h3 hx e).2.1
  obtain ⟨a1, a2, a3, a4, a5⟩ := o_tick h3 hx u2
  have e0 : e = 0 := by
    rw [a1] at u4
    rcases u3 with rfl | rfl | rfl | rfl
    · rfl
    · exact absurd u4 (by decide)
    · exact absurd u4 (by decide)
    · exact absurd u4 (by decide)
  subst e0
  obtain rfl := u5 rfl
  have e1 : zr r1 1 0 = r 1 0 + x := by rw [zr_lo (by omega), a4]
  rw [u1, cal0_e, chk_t (by omega), if_t a3, q_clock u6.1, cal_e, chk_t (by omega), if_t e1]
  exact Tn.of u6 (by omega) (by omega) (by rw [zr_lo (by omega), a5]; exact h16) y0 y1 i0 i1
theorem t_737 (h : Sw N K b0 b1 s3 s4 r m) (hN : N ≤ 599) (y0 : 0 ≤ y) (y1 : y < 2147483648) (i0 : 0 ≤ i) (i1 : i ≤ 1000) (w0 : 0 ≤ w) (w1 : w < r 16 0) (k0 : 0 ≤ k) (k1 : k < 4) : Tn k360 T i N K b0 b1 s3 s4 (L_law_737 k360 1 T i y l7 w k m) := by
  have h16 : 0 < r 16 0 := by omega
  by_cases c9 : l7 < 9
  · exact t_decides h hN y0 y1 i0 i1 w0 w1 c9
  by_cases c11 : l7 < 11
  · exact t_take h hN h16 y0 y1 i0 i1 k0 k1 (by omega) c11
  by_cases e11 : l7 = 11
  · rw [e11]; exact t_end h h16 y0 y1 i0 i1 k0 k1
  by_cases e12 : l7 = 12
  · rw [e12]
    by_cases hb : (Int32.ofInt ((Int32.ofInt y >>> (Int32.ofInt 5 &&& 31)).toInt) &&& Int32.ofInt 1).toInt = 0
    · exact t_fail h hN h16 y0 y1 i0 i1 k0 k1 hb
    · unfold L_law_737
      rw [if_t (by decide), if_t (by decide), if_f (by decide), if_t rfl, if_f hb]
      exact t_beat h hN h16 y0 y1 i0 i1 k0 k1
  · unfold L_law_737
    rw [if_t (by omega), if_t (by omega), if_f e11, if_f e12]
    exact t_tick h hN h16 y0 y1 i0 i1 e12
theorem t_546 (h : Sw N K b0 b1 s3 s4 r m) (hN : N ≤ 599) (y0 : 0 ≤ y) (y1 : y < 2147483648) (i0 : 0 ≤ i) (i1 : i ≤ 1000) (w0 : 0 ≤ w) (w1 : w < r 16 0) (k0 : 0 ≤ k) (k1 : k < 4) : Tn k360 T i N K b0 b1 s3 s4 (L_law_546 k360 1 T i y l7 w k m) := by
  by_cases c3 : l7 < 3
  · exact t_signal h y0 y1 i0 i1 w0 w1 c3
  have t7 := t_737 (k360 := k360) (T := T) (l7 := l7) h hN y0 y1 i0 i1 w0 w1 k0 k1
  by_cases e3 : l7 = 3
  · by_cases hb : (Int32.ofInt ((Int32.ofInt y >>> (Int32.ofInt 3 &&& 31)).toInt) &&& Int32.ofInt 3).toInt = 0
    · rw [e3]; exact t_cancel h y0 y1 i0 i1 w0 w1 hb
    · unfold L_law_546
      rw [if_t (by omega), if_t e3, if_f hb]
      exact t7
  · unfold L_law_546
    rw [if_t (by omega), if_f e3]
    exact t7
/-- a turn, whatever it is -/
theorem t_turn (h : Sw N K b0 b1 s3 s4 r m) (hN : N ≤ 599) (i0 : 0 ≤ i) (i1 : i ≤ 1000) (h16 : 0 < r 16 0 ∨ i < 3) {s0 : Int} : Tn k360 T i N K b0 b1 s3 s4 (L_law_406 k360 1 T i s0 m) := by
  obtain ⟨h1, h2, h3, h4, h5⟩ := id h
  have b10 := h3.1
  have zy := and_nn (x := Int32.ofInt ((Int32.ofInt s0 >>> (Int32.ofInt 4 &&& 31)).toInt)) (k := Int32.ofInt 268435455) (by decide)
  rw [show (Int32.ofInt 268435455).toInt = 268435455 from by decide] at zy
  unfold L_law_406
  generalize (Int32.ofInt ((Int32.ofInt s0 >>> (Int32.ofInt 4 &&& 31)).toInt) &&& Int32.ofInt 268435455).toInt = y at *
  have zk := and_nn (x := Int32.ofInt ((Int32.ofInt y >>> (Int32.ofInt 2 &&& 31)).toInt)) (k := Int32.ofInt 3) (by decide)
  rw [show (Int32.ofInt 3).toInt = 3 from by decide] at zk
  have main : ∀ d : Int, (0 < r 16 0 ∨ d = 0) → Tn k360 T i N K b0 b1 s3 s4 (L_law_432 k360 1 T i y d m) := fun d hd => by
    unfold L_law_432
    rw [chk_t (by omega), q_workflows h1, cal_e]
    by_cases c : r 16 0 = 0
    · obtain rfl : d = 0 := by omega
      rw [if_t c]
      exact t_start h zy.1 (by omega) i0 i1 (by omega)
    · have f0 := Int.emod_nonneg y (show r 16 0 ≠ 0 by omega)
      have f1 := Int.emod_lt_of_pos y (show 0 < r 16 0 by omega)
      rw [if_f c, chk_t ⟨zy.1, by omega⟩]
      have t5 := fun l7 => t_546 (k360 := k360) (T := T) (l7 := l7) h hN zy.1 (by omega) i0 i1 f0 f1 zk.1 (by omega)
      by_cases d0 : d = 0
      · rw [d0]
        by_cases s7 : r 16 0 < 7
        · exact t_start h zy.1 (by omega) i0 i1 s7
        · unfold L_law_454
          rw [if_t rfl, if_t (by omega)]
          exact t5 0
      · unfold L_law_454
        rw [if_f d0]
        exact t5 d
  by_cases c : 3 ≤ i
  · rw [if_t c]
    exact main _ (Or.inl (h16.resolve_right (by omega)))
  · rw [if_f c]
    exact main 0 (Or.inr rfl)
/-- all turns -/
theorem l_360 {L : Int} (h4 : s4 0 = L) (hL : L ≤ 2560) (hT : T ≤ 180) : ∀ (d t : Nat) (i N K : Int) (r : Rst) (m : Mem), T - i ≤ d → d < t → 0 ≤ i → N + 3 * d ≤ 599 → (0 < r 16 0 ∨ i < 3) → Sw N K b0 b1 s3 s4 r m → ∃ m', L_law_360 t 1 1 T i m = some (1, m') ∧ m' (-2) 0 ≤ b0 + 100 * (K + 3 * d) + 100 ∧ m' (-2) 1 ≤ b1 + 2000 * (K + 3 * d) + 7000 := by
  intro d
  induction d with
  | zero =>
    intro t i N K r m hd ht i0 hN h16 h
    obtain ⟨t, rfl⟩ : ∃ k, t = k + 1 := ⟨t - 1, by omega⟩
    obtain ⟨h1, h2, h3, h4', h5, h6, h7⟩ := id h
    have b10 := h3.1
    rw [L_law_360, if_t (by omega)]
    exact ⟨m, rfl, by omega, by omega⟩
  | succ d ih =>
    intro t i N K r m hd ht i0 hN h16 h
    obtain ⟨t, rfl⟩ : ∃ k, t = k + 1 := ⟨t - 1, by omega⟩
    obtain ⟨h1, h2, h3, h4', h5, h6, h7⟩ := id h
    have b10 := h3.1
    by_cases c : T ≤ i
    · rw [L_law_360, if_t c]
      exact ⟨m, rfl, by omega, by omega⟩
    · have e4 : m (-4) 0 = L := by rw [h5.2]; exact h4
      have go : ∀ x : Int, ∃ m', L_law_406 (L_law_360 t) 1 T i x m = some (1, m') ∧ m' (-2) 0 ≤ b0 + 100 * (K + 3 * ((d + 1 : Nat) : Int)) + 100 ∧ m' (-2) 1 ≤ b1 + 2000 * (K + 3 * ((d + 1 : Nat) : Int)) + 7000 := fun x => by
        obtain ⟨r1, m1, x1, x2, x3⟩ := t_turn (k360 := L_law_360 t) (T := T) (s0 := x) h (by omega) i0 (by omega) h16
        obtain ⟨m', y1, y2, y3⟩ := ih t (i + 1) (N + 3) (K + 3) r1 m1 (by omega) (by omega) (by omega) (by omega) (Or.inl x3) x2
        exact ⟨m', by rw [x1, y1], by omega, by omega⟩
      rw [L_law_360, if_f c, if_f (by decide), chk_t (by omega), chk_t (by omega)]
      by_cases c2 : m (-4) 0 ≤ i + 3
      · rw [if_t c2]; exact go _
      · rw [if_f c2, chk_t (by omega), chk_t (by omega)]; exact go _
end TRO
