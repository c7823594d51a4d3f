/-! the law: one turn of its loop -/
section LC
variable {N L : Int} {r : Rst} {m : Mem}
theorem law_turn (t : Nat) (i : Int) (hi : 0 ≤ i) (hL : m (-4) 0 = L) (hL2 : L ≤ 2560) (hiL : i + 5 ≤ L) (h : RelC N r m) (tt : GT r) (hp : Rp r m) (hN : N ≤ 599) : ∃ r' m', L_law_23 (t + 1) 1 10 8 i m = L_law_23 t 1 10 8 (i + 5) m' ∧ RelC (N + 1) r' m' ∧ GT r' ∧ Rp r' m' ∧ m' (-3) = m (-3) ∧ m' (-4) = m (-4) ∧ m' (-2) 0 ≤ m (-2) 0 + 100 + 10 * (r' 16 0 - r 16 0) ∧ m' (-2) 1 ≤ m (-2) 1 + 2000 + 700 * (r' 16 0 - r 16 0) := by
  rw [L_law_23, if_f (show ¬ m (-4) 0 - 5 < i by omega), chk_t (show m (-4) 0 ≤ 2560 by omega), chk_t (show iR (m (-4) 0 - 5) by omega), chk_t (show m (-4) 0 ≤ 2560 ∧ 0 ≤ i ∧ i < m (-4) 0 by omega)]
  obtain ⟨c, hc⟩ : ∃ c, c = (Int32.ofInt (m (-3) i) &&& Int32.ofInt 31).toInt := ⟨_, rfl⟩
  rw [← hc]
  by_cases h0 : c = 0
  · rw [if_t h0]
    obtain ⟨k, v', m3, m4, m5, r', e1, e2, e3, e4, e5, e6, x1, x2, x3, x4, x5, x6, x7⟩ := w_step (p0 := m (-3) (i + 1)) (p1 := m (-3) (i + 2)) (p2 := m (-3) (i + 3)) (p3 := m (-3) (i + 4)) h tt hp hN
    refine ⟨r', m5, ?_, x1, x2, x3, x4, x5, x6, x7⟩
    rw [e1, cal_e, e5, e6, e2, cal_e, e3, cal_e, if_t rfl]
    by_cases hk : k = 0
    · rw [if_t hk, (e4 hk).1, if_f (Int.lt_irrefl _), if_t rfl, if_t rfl]
      repeat rw [chk_t (by omega)]
    · rw [if_f hk]
      repeat rw [chk_t (by omega)]
  rw [if_f h0]
  by_cases h1 : c = 1
  · rw [if_t h1]
    obtain ⟨k, v', m3, m4, m5, r', e1, e2, e3, e4, e5, e6, x1, x2, x3, x4, x5, x6, x7⟩ := w_forget (p0 := m (-3) (i + 1)) h tt hp hN
    refine ⟨r', m5, ?_, x1, x2, x3, x4, x5, x6, x7⟩
    rw [e1, cal_e, e5, e6, e2, cal_e, e3, cal_e, if_t rfl]
    by_cases hk : k = 0
    · rw [if_t hk, (e4 hk).1, if_f (Int.lt_irrefl _), if_t rfl, if_t rfl]
      repeat rw [chk_t (by omega)]
    · rw [if_f hk]
      repeat rw [chk_t (by omega)]
  rw [if_f h1]
  by_cases h2 : c = 2
  · rw [if_t h2]
    obtain ⟨k, v', m3, m4, m5, r', e1, e2, e3, e4, e5, e6, x1, x2, x3, x4, x5, x6, x7⟩ := w_release (p0 := m (-3) (i + 1)) h tt hp hN
    refine ⟨r', m5, ?_, x1, x2, x3, x4, x5, x6, x7⟩
    rw [e1, cal_e, e5, e6, e2, cal_e, e3, cal_e, if_t rfl]
    by_cases hk : k = 0
    · rw [if_t hk, (e4 hk).1, if_f (Int.lt_irrefl _), if_t rfl, if_t rfl]
      repeat rw [chk_t (by omega)]
    · rw [if_f hk]
      repeat rw [chk_t (by omega)]
  rw [if_f h2]
  by_cases h3 : c = 3
  · rw [if_t h3]
    obtain ⟨k, v', m3, m4, m5, r', e1, e2, e3, e4, e5, e6, x1, x2, x3, x4, x5, x6, x7⟩ := w_versions (p0 := m (-3) (i + 1)) h tt hp hN
    refine ⟨r', m5, ?_, x1, x2, x3, x4, x5, x6, x7⟩
    rw [e1, cal_e, e5, e6, e2, cal_e, e3, cal_e, if_t rfl]
    by_cases hk : k = 0
    · rw [if_t hk, (e4 hk).1, if_f (Int.lt_irrefl _), if_t rfl, if_t rfl]
      repeat rw [chk_t (by omega)]
    · rw [if_f hk]
      repeat rw [chk_t (by omega)]
  rw [if_f h3]
  by_cases h4 : c = 4
  · rw [if_t h4]
    obtain ⟨k, v', m3, m4, m5, r', e1, e2, e3, e4, e5, e6, x1, x2, x3, x4, x5, x6, x7⟩ := w_start (p0 := m (-3) (i + 1)) (p1 := m (-3) (i + 2)) (p2 := m (-3) (i + 3)) h tt hp hN
    refine ⟨r', m5, ?_, x1, x2, x3, x4, x5, x6, x7⟩
    rw [e1, cal_e, e5, e6, e2, cal_e, e3, cal_e, if_t rfl]
    by_cases hk : k = 0
    · rw [if_t hk, (e4 hk).1, if_f (Int.lt_irrefl _), if_t rfl, if_t rfl]
      repeat rw [chk_t (by omega)]
    · rw [if_f hk]
      repeat rw [chk_t (by omega)]
  rw [if_f h4]
  by_cases h5 : c = 5
  · rw [if_t h5]
    obtain ⟨k, v', m3, m4, m5, r', e1, e2, e3, e4, e5, e6, x1, x2, x3, x4, x5, x6, x7⟩ := w_signal (p0 := m (-3) (i + 1)) (p1 := m (-3) (i + 2)) (p2 := m (-3) (i + 3)) h tt hp hN
    refine ⟨r', m5, ?_, x1, x2, x3, x4, x5, x6, x7⟩
    rw [e1, cal_e, e5, e6, e2, cal_e, e3, cal_e, if_t rfl]
    by_cases hk : k = 0
    · obtain ⟨e7, e8⟩ := e4 hk
      rw [if_t hk, e7]
      unfold L_law_598
      rcases e8 with e8 | e8
      · rw [if_t e8, e8, if_f (Int.lt_irrefl _), if_t rfl, if_t rfl]
        repeat rw [chk_t (by omega)]
      · rw [if_f (show ¬ v' = 0 by omega), e8, if_f (Int.lt_irrefl _), if_t rfl, if_t rfl]
        repeat rw [chk_t (by omega)]
    · rw [if_f hk]
      repeat rw [chk_t (by omega)]
  rw [if_f h5]
  by_cases h6 : c = 6
  · rw [if_t h6]
    obtain ⟨k, v', m3, m4, m5, r', e1, e2, e3, e4, e5, e6, x1, x2, x3, x4, x5, x6, x7⟩ := w_cancel (p0 := m (-3) (i + 1)) h tt hp hN
    refine ⟨r', m5, ?_, x1, x2, x3, x4, x5, x6, x7⟩
    rw [e1, cal_e, e5, e6, e2, cal_e, e3, cal_e, if_t rfl]
    by_cases hk : k = 0
    · obtain ⟨e7, e8⟩ := e4 hk
      rw [if_t hk, e7]
      unfold L_law_661
      rcases e8 with e8 | e8
      · rw [if_t e8, e8, if_f (Int.lt_irrefl _), if_t rfl, if_t rfl]
        repeat rw [chk_t (by omega)]
      · rw [if_f (show ¬ v' = 0 by omega), e8, if_f (Int.lt_irrefl _), if_t rfl, if_t rfl]
        repeat rw [chk_t (by omega)]
    · rw [if_f hk]
      repeat rw [chk_t (by omega)]
  rw [if_f h6]
  by_cases h7 : c = 7
  · rw [if_t h7]
    obtain ⟨k, v', m3, m4, m5, r', e1, e2, e3, e4, e5, e6, x1, x2, x3, x4, x5, x6, x7⟩ := w_decide (p0 := m (-3) (i + 1)) (p1 := m (-3) (i + 2)) h tt hp hN
    refine ⟨r', m5, ?_, x1, x2, x3, x4, x5, x6, x7⟩
    rw [e1, cal_e, e5, e6, e2, cal_e, e3, cal_e, if_t rfl]
    by_cases hk : k = 0
    · rw [if_t hk, (e4 hk).1, if_f (Int.lt_irrefl _), if_t rfl, if_t rfl]
      repeat rw [chk_t (by omega)]
    · rw [if_f hk]
      repeat rw [chk_t (by omega)]
  rw [if_f h7]
  by_cases h8 : c = 8
  · rw [if_t h8]
    obtain ⟨k, v', m3, m4, m5, r', e1, e2, e3, e4, e5, e6, x1, x2, x3, x4, x5, x6, x7⟩ := w_setRate (p0 := m (-3) (i + 1)) (p1 := m (-3) (i + 2)) h tt hp hN
    refine ⟨r', m5, ?_, x1, x2, x3, x4, x5, x6, x7⟩
    rw [e1, cal_e, e5, e6, e2, cal_e, e3, cal_e, if_t rfl]
    by_cases hk : k = 0
    · rw [if_t hk, (e4 hk).1, if_f (Int.lt_irrefl _), if_t rfl, if_t rfl]
      repeat rw [chk_t (by omega)]
    · rw [if_f hk]
      repeat rw [chk_t (by omega)]
  rw [if_f h8]
  by_cases h9 : c = 9
  · rw [if_t h9]
    obtain ⟨k, v', m3, m4, m5, r', e1, e2, e3, e4, e5, e6, x1, x2, x3, x4, x5, x6, x7⟩ := w_take (p0 := m (-3) (i + 1)) (p1 := m (-3) (i + 2)) h tt hp hN
    refine ⟨r', m5, ?_, x1, x2, x3, x4, x5, x6, x7⟩
    rw [e1, cal_e, e5, e6, e2, cal_e, e3, cal_e, if_t rfl]
    by_cases hk : k = 0
    · rw [if_t hk, (e4 hk).1, if_f (Int.lt_irrefl _), if_t rfl, if_t rfl]
      repeat rw [chk_t (by omega)]
    · rw [if_f hk]
      repeat rw [chk_t (by omega)]
  rw [if_f h9]
  by_cases h10 : c = 10
  · rw [if_t h10]
    obtain ⟨k, v', m3, m4, m5, r', e1, e2, e3, e4, e5, e6, x1, x2, x3, x4, x5, x6, x7⟩ := w_has (p0 := m (-3) (i + 1)) h tt hp hN
    refine ⟨r', m5, ?_, x1, x2, x3, x4, x5, x6, x7⟩
    rw [e1, cal_e, e5, e6, e2, cal_e, e3, cal_e, if_t rfl]
    by_cases hk : k = 0
    · rw [if_t hk, (e4 hk).1, if_f (Int.lt_irrefl _), if_t rfl, if_t rfl]
      repeat rw [chk_t (by omega)]
    · rw [if_f hk]
      repeat rw [chk_t (by omega)]
  rw [if_f h10]
  by_cases h11 : c = 11
  · rw [if_t h11]
    obtain ⟨k, v', m3, m4, m5, r', e1, e2, e3, e4, e5, e6, x1, x2, x3, x4, x5, x6, x7⟩ := w_beat (p0 := m (-3) (i + 1)) h tt hp hN
    refine ⟨r', m5, ?_, x1, x2, x3, x4, x5, x6, x7⟩
    rw [e1, cal_e, e5, e6, e2, cal_e, e3, cal_e, if_t rfl]
    by_cases hk : k = 0
    · rw [if_t hk, (e4 hk).1, if_f (Int.lt_irrefl _), if_t rfl, if_t rfl]
      repeat rw [chk_t (by omega)]
    · rw [if_f hk]
      repeat rw [chk_t (by omega)]
  rw [if_f h11]
  by_cases h12 : c = 12
  · rw [if_t h12]
    obtain ⟨k, v', m3, m4, m5, r', e1, e2, e3, e4, e5, e6, x1, x2, x3, x4, x5, x6, x7⟩ := w_end (p0 := m (-3) (i + 1)) (p1 := m (-3) (i + 2)) h tt hp hN
    refine ⟨r', m5, ?_, x1, x2, x3, x4, x5, x6, x7⟩
    rw [e1, cal_e, e5, e6, e2, cal_e, e3, cal_e, if_t rfl]
    by_cases hk : k = 0
    · obtain ⟨e7, e8⟩ := e4 hk
      rw [if_t hk, e7]
      unfold L_law_1052
      rcases e8 with e8 | e8
      · rw [if_t e8, e8, if_f (Int.lt_irrefl _), if_t rfl, if_t rfl]
        repeat rw [chk_t (by omega)]
      · rw [if_f (show ¬ v' = 0 by omega), e8, if_f (Int.lt_irrefl _), if_t rfl, if_t rfl]
        repeat rw [chk_t (by omega)]
    · rw [if_f hk]
      repeat rw [chk_t (by omega)]
  rw [if_f h12]
  by_cases h13 : c = 13
  · rw [if_t h13]
    obtain ⟨k, v', m3, m4, m5, r', e1, e2, e3, e4, e5, e6, x1, x2, x3, x4, x5, x6, x7⟩ := w_fail (p0 := m (-3) (i + 1)) h tt hp hN
    refine ⟨r', m5, ?_, x1, x2, x3, x4, x5, x6, x7⟩
    rw [e1, cal_e, e5, e6, e2, cal_e, e3, cal_e, if_t rfl]
    by_cases hk : k = 0
    · rw [if_t hk, (e4 hk).1, if_f (Int.lt_irrefl _), if_t rfl, if_t rfl]
      repeat rw [chk_t (by omega)]
    · rw [if_f hk]
      repeat rw [chk_t (by omega)]
  rw [if_f h13]
  by_cases h14 : c = 14
  · rw [if_t h14]
    by_cases hb : m (-3) (i + 2) = 0
    · obtain ⟨k, v', m3, m4, m5, r', e1, e2, e3, e4, e5, e6, x1, x2, x3, x4, x5, x6, x7⟩ := w_run (p0 := m (-3) (i + 1)) (p1 := 0) h tt hp hN (Or.inl rfl)
      refine ⟨r', m5, ?_, x1, x2, x3, x4, x5, x6, x7⟩
      rw [if_t hb]
      unfold L_law_1138
      rw [e1, cal_e, e5, e6, if_t hb]
      unfold L_law_1165
      rw [e2, cal_e, e3, cal_e, if_t rfl]
      by_cases hk : k = 0
      · obtain ⟨e7, e8⟩ := e4 hk
        rw [if_t hk, e7]
        unfold L_law_1199
        rcases e8 with e8 | e8
        · rw [if_t e8, e8, if_f (Int.lt_irrefl _), if_t rfl, if_t rfl]
          repeat rw [chk_t (by omega)]
        · rw [if_f (show ¬ v' = 0 by omega), e8, if_f (Int.lt_irrefl _), if_t rfl, if_t rfl]
          repeat rw [chk_t (by omega)]
      · rw [if_f hk]
        repeat rw [chk_t (by omega)]
    · obtain ⟨k, v', m3, m4, m5, r', e1, e2, e3, e4, e5, e6, x1, x2, x3, x4, x5, x6, x7⟩ := w_run (p0 := m (-3) (i + 1)) (p1 := 1) h tt hp hN (Or.inr rfl)
      refine ⟨r', m5, ?_, x1, x2, x3, x4, x5, x6, x7⟩
      rw [if_f hb]
      unfold L_law_1138
      rw [e1, cal_e, e5, e6, if_f hb]
      unfold L_law_1165
      rw [e2, cal_e, e3, cal_e, if_t rfl]
      by_cases hk : k = 0
      · obtain ⟨e7, e8⟩ := e4 hk
        rw [if_t hk, e7]
        unfold L_law_1199
        rcases e8 with e8 | e8
        · rw [if_t e8, e8, if_f (Int.lt_irrefl _), if_t rfl, if_t rfl]
          repeat rw [chk_t (by omega)]
        · rw [if_f (show ¬ v' = 0 by omega), e8, if_f (Int.lt_irrefl _), if_t rfl, if_t rfl]
          repeat rw [chk_t (by omega)]
      · rw [if_f hk]
        repeat rw [chk_t (by omega)]
  rw [if_f h14]
  by_cases h15 : c = 15
  · rw [if_t h15]
    obtain ⟨k, v', m3, m4, m5, r', e1, e2, e3, e4, e5, e6, x1, x2, x3, x4, x5, x6, x7⟩ := w_ready (p0 := m (-3) (i + 1)) h tt hp hN
    refine ⟨r', m5, ?_, x1, x2, x3, x4, x5, x6, x7⟩
    rw [e1, cal_e, e5, e6, e2, cal_e, e3, cal_e, if_t rfl]
    by_cases hk : k = 0
    · rw [if_t hk, (e4 hk).1, if_f (Int.lt_irrefl _), if_t rfl, if_t rfl]
      repeat rw [chk_t (by omega)]
    · rw [if_f hk]
      repeat rw [chk_t (by omega)]
  rw [if_f h15]
  by_cases h16 : c = 16
  · rw [if_t h16]
    obtain ⟨k, v', m3, m4, m5, r', e1, e2, e3, e4, e5, e6, x1, x2, x3, x4, x5, x6, x7⟩ := w_taken (p0 := m (-3) (i + 1)) (p1 := m (-3) (i + 2)) h tt hp hN
    refine ⟨r', m5, ?_, x1, x2, x3, x4, x5, x6, x7⟩
    rw [e1, cal_e, e5, e6, e2, cal_e, e3, cal_e, if_t rfl]
    by_cases hk : k = 0
    · rw [if_t hk, (e4 hk).1, if_f (Int.lt_irrefl _), if_t rfl, if_t rfl]
      repeat rw [chk_t (by omega)]
    · rw [if_f hk]
      repeat rw [chk_t (by omega)]
  rw [if_f h16]
  by_cases h17 : c = 17
  · rw [if_t h17]
    obtain ⟨k, v', m3, m4, m5, r', e1, e2, e3, e4, e5, e6, x1, x2, x3, x4, x5, x6, x7⟩ := w_tick (p0 := m (-3) (i + 1)) h tt hp hN
    refine ⟨r', m5, ?_, x1, x2, x3, x4, x5, x6, x7⟩
    rw [e1, cal_e, e5, e6, e2, cal_e, e3, cal_e, if_t rfl]
    by_cases hk : k = 0
    · rw [if_t hk, (e4 hk).1, if_f (Int.lt_irrefl _), if_t rfl, if_t rfl]
      repeat rw [chk_t (by omega)]
    · rw [if_f hk]
      repeat rw [chk_t (by omega)]
  rw [if_f h17]
  by_cases h18 : c = 18
  · rw [if_t h18]
    obtain ⟨v, m5, r', e1, e2, x1, x2, x3, x4, x5, x6, x7, x8⟩ := w_clock h tt hp
    refine ⟨r', m5, ?_, x1, x2, x3, x4, x5, by rw [x6, x8]; omega, by rw [x7, x8]; omega⟩
    rw [e1, cal_e, e2, cal_e, if_t rfl]
    repeat rw [chk_t (by omega)]
  rw [if_f h18]
  by_cases h19 : c = 19
  · rw [if_t h19]
    obtain ⟨v, m5, r', e1, e2, x1, x2, x3, x4, x5, x6, x7, x8⟩ := w_workflows h tt hp
    refine ⟨r', m5, ?_, x1, x2, x3, x4, x5, by rw [x6, x8]; omega, by rw [x7, x8]; omega⟩
    rw [e1, cal_e, e2, cal_e, if_t rfl]
    repeat rw [chk_t (by omega)]
  rw [if_f h19]
  by_cases h20 : c = 20
  · rw [if_t h20]
    obtain ⟨k, v', m3, m4, m5, r', e1, e2, e3, e4, e5, e6, x1, x2, x3, x4, x5, x6, x7⟩ := w_parent (p0 := m (-3) (i + 1)) h tt hp hN
    refine ⟨r', m5, ?_, x1, x2, x3, x4, x5, x6, x7⟩
    rw [e1, cal_e, e5, e6, e2, cal_e, e3, cal_e, if_t rfl]
    by_cases hk : k = 0
    · rw [if_t hk, (e4 hk).1, if_f (Int.lt_irrefl _), if_t rfl, if_t rfl]
      repeat rw [chk_t (by omega)]
    · rw [if_f hk]
      repeat rw [chk_t (by omega)]
  rw [if_f h20]
  by_cases h21 : c = 21
  · rw [if_t h21]
    obtain ⟨k, v', m3, m4, m5, r', e1, e2, e3, e4, e5, e6, x1, x2, x3, x4, x5, x6, x7⟩ := w_runs (p0 := m (-3) (i + 1)) h tt hp hN
    refine ⟨r', m5, ?_, x1, x2, x3, x4, x5, x6, x7⟩
    rw [e1, cal_e, e5, e6, e2, cal_e, e3, cal_e, if_t rfl]
    by_cases hk : k = 0
    · rw [if_t hk, (e4 hk).1, if_f (Int.lt_irrefl _), if_t rfl, if_t rfl]
      repeat rw [chk_t (by omega)]
    · rw [if_f hk]
      repeat rw [chk_t (by omega)]
  rw [if_f h21]
  by_cases h22 : c = 22
  · rw [if_t h22]
    obtain ⟨k, v', m3, m4, m5, r', e1, e2, e3, e4, e5, e6, x1, x2, x3, x4, x5, x6, x7⟩ := w_state (p0 := m (-3) (i + 1)) (p1 := m (-3) (i + 2)) h tt hp hN
    refine ⟨r', m5, ?_, x1, x2, x3, x4, x5, x6, x7⟩
    rw [e1, cal_e, e5, e6, e2, cal_e, e3, cal_e, if_t rfl]
    by_cases hk : k = 0
    · rw [if_t hk, (e4 hk).1, if_f (Int.lt_irrefl _), if_t rfl, if_t rfl]
      repeat rw [chk_t (by omega)]
    · rw [if_f hk]
      repeat rw [chk_t (by omega)]
  rw [if_f h22]
  by_cases h23 : c = 23
  · rw [if_t h23]
    obtain ⟨k, v', m3, m4, m5, r', e1, e2, e3, e4, e5, e6, x1, x2, x3, x4, x5, x6, x7⟩ := w_events (p0 := m (-3) (i + 1)) (p1 := m (-3) (i + 2)) h tt hp hN
    refine ⟨r', m5, ?_, x1, x2, x3, x4, x5, x6, x7⟩
    rw [e1, cal_e, e5, e6, e2, cal_e, e3, cal_e, if_t rfl]
    by_cases hk : k = 0
    · rw [if_t hk, (e4 hk).1, if_f (Int.lt_irrefl _), if_t rfl, if_t rfl]
      repeat rw [chk_t (by omega)]
    · rw [if_f hk]
      repeat rw [chk_t (by omega)]
  rw [if_f h23]
  by_cases h24 : c = 24
  · rw [if_t h24]
    obtain ⟨k, v', m3, m4, m5, r', e1, e2, e3, e4, e5, e6, x1, x2, x3, x4, x5, x6, x7⟩ := w_eventKind (p0 := m (-3) (i + 1)) (p1 := m (-3) (i + 2)) (p2 := m (-3) (i + 3)) h tt hp hN
    refine ⟨r', m5, ?_, x1, x2, x3, x4, x5, x6, x7⟩
    rw [e1, cal_e, e5, e6, e2, cal_e, e3, cal_e, if_t rfl]
    by_cases hk : k = 0
    · rw [if_t hk, (e4 hk).1, if_f (Int.lt_irrefl _), if_t rfl, if_t rfl]
      repeat rw [chk_t (by omega)]
    · rw [if_f hk]
      repeat rw [chk_t (by omega)]
  rw [if_f h24]
  by_cases h25 : c = 25
  · rw [if_t h25]
    by_cases hb : m (-3) (i + 4) = 0
    · obtain ⟨k, v', m3, m4, m5, r', e1, e2, e3, e4, e5, e6, x1, x2, x3, x4, x5, x6, x7⟩ := w_eventNumber (p0 := m (-3) (i + 1)) (p1 := m (-3) (i + 2)) (p2 := m (-3) (i + 3)) (p3 := 0) h tt hp hN
      refine ⟨r', m5, ?_, x1, x2, x3, x4, x5, x6, x7⟩
      rw [if_t hb]
      unfold L_law_1775
      rw [e1, cal_e, e5, e6, if_t hb]
      unfold L_law_1814
      rw [e2, cal_e, e3, cal_e, if_t rfl]
      by_cases hk : k = 0
      · rw [if_t hk, (e4 hk).1, if_f (Int.lt_irrefl _), if_t rfl, if_t rfl]
        repeat rw [chk_t (by omega)]
      · rw [if_f hk]
        repeat rw [chk_t (by omega)]
    · obtain ⟨k, v', m3, m4, m5, r', e1, e2, e3, e4, e5, e6, x1, x2, x3, x4, x5, x6, x7⟩ := w_eventNumber (p0 := m (-3) (i + 1)) (p1 := m (-3) (i + 2)) (p2 := m (-3) (i + 3)) (p3 := 1) h tt hp hN
      refine ⟨r', m5, ?_, x1, x2, x3, x4, x5, x6, x7⟩
      rw [if_f hb]
      unfold L_law_1775
      rw [e1, cal_e, e5, e6, if_f hb]
      unfold L_law_1814
      rw [e2, cal_e, e3, cal_e, if_t rfl]
      by_cases hk : k = 0
      · rw [if_t hk, (e4 hk).1, if_f (Int.lt_irrefl _), if_t rfl, if_t rfl]
        repeat rw [chk_t (by omega)]
      · rw [if_f hk]
        repeat rw [chk_t (by omega)]
  rw [if_f h25]
  by_cases h26 : c = 26
  · rw [if_t h26]
    obtain ⟨k, v', m3, m4, m5, r', e1, e2, e3, e4, e5, e6, x1, x2, x3, x4, x5, x6, x7⟩ := w_property (p0 := m (-3) (i + 1)) (p1 := m (-3) (i + 2)) h tt hp hN
    refine ⟨r', m5, ?_, x1, x2, x3, x4, x5, x6, x7⟩
    rw [e1, cal_e, e5, e6, e2, cal_e, e3, cal_e, if_t rfl]
    by_cases hk : k = 0
    · rw [if_t hk, (e4 hk).1, if_f (Int.lt_irrefl _), if_t rfl, if_t rfl]
      repeat rw [chk_t (by omega)]
    · rw [if_f hk]
      repeat rw [chk_t (by omega)]
  rw [if_f h26]
  by_cases h27 : c = 27
  · rw [if_t h27]
    obtain ⟨k, v', m3, m4, m5, r', e1, e2, e3, e4, e5, e6, x1, x2, x3, x4, x5, x6, x7⟩ := w_found (p0 := m (-3) (i + 1)) (p1 := m (-3) (i + 2)) (p2 := m (-3) (i + 3)) h tt hp hN
    refine ⟨r', m5, ?_, x1, x2, x3, x4, x5, x6, x7⟩
    rw [e1, cal_e, e5, e6, e2, cal_e, e3, cal_e, if_t rfl]
    by_cases hk : k = 0
    · rw [if_t hk, (e4 hk).1, if_f (Int.lt_irrefl _), if_t rfl, if_t rfl]
      repeat rw [chk_t (by omega)]
    · rw [if_f hk]
      repeat rw [chk_t (by omega)]
  rw [if_f h27]
  by_cases h28 : c = 28
  · rw [if_t h28]
    obtain ⟨k, v', m3, m4, m5, r', e1, e2, e3, e4, e5, e6, x1, x2, x3, x4, x5, x6, x7⟩ := w_isDue (p0 := m (-3) (i + 1)) h tt hp hN
    refine ⟨r', m5, ?_, x1, x2, x3, x4, x5, x6, x7⟩
    rw [e1, cal_e, e5, e6, e2, cal_e, e3, cal_e, if_t rfl]
    by_cases hk : k = 0
    · obtain ⟨e7, e8⟩ := e4 hk
      rw [if_t hk, e7]
      unfold L_law_2052
      rcases e8 with e8 | e8
      · rw [if_t e8, e8, if_f (Int.lt_irrefl _), if_t rfl, if_t rfl]
        repeat rw [chk_t (by omega)]
      · rw [if_f (show ¬ v' = 0 by omega), e8, if_f (Int.lt_irrefl _), if_t rfl, if_t rfl]
        repeat rw [chk_t (by omega)]
    · rw [if_f hk]
      repeat rw [chk_t (by omega)]
  rw [if_f h28]
  by_cases h29 : c = 29
  · rw [if_t h29]
    obtain ⟨k, v', m3, m4, m5, r', e1, e2, e3, e4, e5, e6, x1, x2, x3, x4, x5, x6, x7⟩ := w_register (p0 := m (-3) (i + 1)) h tt hp hN
    refine ⟨r', m5, ?_, x1, x2, x3, x4, x5, x6, x7⟩
    rw [e1, cal_e, e5, e6, e2, cal_e, e3, cal_e, if_t rfl]
    by_cases hk : k = 0
    · rw [if_t hk, (e4 hk).1, if_f (Int.lt_irrefl _), if_t rfl, if_t rfl]
      repeat rw [chk_t (by omega)]
    · rw [if_f hk]
      repeat rw [chk_t (by omega)]
  rw [if_f h29]
  by_cases h30 : c = 30
  · rw [if_t h30]
    obtain ⟨k, v', m3, m4, m5, r', e1, e2, e3, e4, e5, e6, x1, x2, x3, x4, x5, x6, x7⟩ := w_place (p0 := m (-3) (i + 1)) h tt hp hN
    refine ⟨r', m5, ?_, x1, x2, x3, x4, x5, x6, x7⟩
    rw [e1, cal_e, e5, e6, e2, cal_e, e3, cal_e, if_t rfl]
    by_cases hk : k = 0
    · rw [if_t hk, (e4 hk).1, if_f (Int.lt_irrefl _), if_t rfl, if_t rfl]
      repeat rw [chk_t (by omega)]
    · rw [if_f hk]
      repeat rw [chk_t (by omega)]
  rw [if_f h30]
  by_cases h31 : c = 31
  · rw [if_t h31]
    obtain ⟨k, v', m3, m4, m5, r', e1, e2, e3, e4, e5, e6, x1, x2, x3, x4, x5, x6, x7⟩ := w_registerAnew (p0 := m (-3) (i + 1)) (p1 := m (-3) (i + 2)) h tt hp hN
    refine ⟨r', m5, ?_, x1, x2, x3, x4, x5, x6, x7⟩
    rw [e1, cal_e, e5, e6, e2, cal_e, e3, cal_e, if_t rfl]
    by_cases hk : k = 0
    · rw [if_t hk, (e4 hk).1, if_f (Int.lt_irrefl _), if_t rfl, if_t rfl]
      repeat rw [chk_t (by omega)]
    · rw [if_f hk]
      repeat rw [chk_t (by omega)]
  rw [if_f h31]
  refine ⟨r, m, ?_, h.mono (by omega), tt, hp, rfl, rfl, by omega, by omega⟩
  repeat rw [chk_t (by omega)]
end LC
