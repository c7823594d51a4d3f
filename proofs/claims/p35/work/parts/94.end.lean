/-! one call on both sides: end, fail -/
section EN
variable {cd : Int → Int} {N : Int} {r r' : Rst} {m m' : Mem} {w n : Int}
theorem c_end {k x : Int} (h : RelC N r m) (tt : GT r) (h0 : cd 0 = 0) (h1 : cd 1 = 1) (h2 : cd 2 = 2) (h3 : cd 3 = 3) : CallR cd N r m (X11_end 1 k x m) (G_end k x r) := by
  have g := h.2.2.rg
  have b := g.1
  unfold X11_end X11_end_0 G_end G_end_0 G_end_40
  rw [chk_t (by omega), x_handOf h.1, g_isWorker, cag_e]
  by_cases c : 0 ≤ k ∧ k ≤ 3
  · have wk := h.1.2.2.2.2.1 k c.1 (by omega)
    rw [if_t c, if_t c, calX_0, x_isWithin, cal_e, if_f (show ¬ (1 : Int) = 0 by decide), g_isValue, cag_e]
    by_cases e : -99 ≤ x ∧ x ≤ 99
    · rw [if_t e, if_f (show ¬ (1 : Int) = 0 by decide), if_f (show ¬ (1 : Int) = 0 by decide), x_actOf h.1 g c, chk_t (by omega)]
      rcases wk.2.2 with ⟨d1, d2⟩ | ⟨w, n, d1, d2, d3, d4, d5, d6⟩
      · rw [if_t d1, if_t d1, calX_e (by decide), g_fineE (by decide), cag_e, if_t rfl, boolX_e (by omega), boolG_e (by omega)]
        exact CallR.thr h tt (e := 3) rfl (by rw [h3]) (by omega)
      · have s := g.2.2 w d1 d2
        have s1 := s.1
        have s2 := s.2.1
        have lt := (h.2.2.lt d1 d2).1
        have eR : Rl r w = 100000 * (w + 1) + 10000 * r 12 w := rfl
        have how : r 23 (80 * w + n) = 2 := by
          rcases (h.2.2.gk.1 k c.1 (by omega)).2 with e | e
          · omega
          · rw [d5] at e; exact e
        have n39 : ¬ r 39 k = -1 := by omega
        have ez : ur r 0 0 0 39 k = 80 * w + n := by rw [ur_n (by omega)]; exact d5
        have ed : (80 * w + n) / 80 = w := by omega
        have emd : (80 * w + n) % 80 = n := by omega
        have hz := h.z0
        have eRz : Rl (ur r 0 0 0) w = Rl r w := by unfold Rl; rw [ur_n (by omega)]
        obtain ⟨v, m1, m', r1, r', a1, a2, a3, a4, a5, a6, a7, a8, b1, b2, b3, b4, b5, b6⟩ := hz.over (k := 1) (y := x) d1 (by rw [ur_n (by omega)]; exact d2) d3 (by rw [ur_n (by omega)]; exact d4) (by rw [ur_n (by omega)]; omega) (Or.inl rfl) (by omega)
        rw [eRz] at a1 a3 a4 a6 b2
        rw [if_f n39, if_f n39, calX_0, d6, a1, cal_e, chk_t (by omega), a3, chk_t (by omega), a4, a6, cal_e, g_fine0, cag_e, if_f (by decide), ez, ed, emd, chk_t (by omega), chk_t (by omega), chk_t (by omega), a2, cag_e, chk_t (by omega), chk_t (by omega), a7, cag_e, boolX_e (by omega), boolG_e (by omega)]
        refine CallR.own h rfl rfl b1 ?_ (by rw [b4 0 (by omega) (by omega) (by omega), ur_e rfl rfl, h0]) (fun i hi => b2 i (by omega) (by omega) (by omega)) (by rw [b4 16 (by omega) (by omega) (by omega), ur_n (by omega)])
        intro w2 n2 c1 c2 c3 c4
        rw [b4 16 (by omega) (by omega) (by omega), ur_n (by omega)] at c2
        rw [b4 22 (by omega) (by omega) (by omega), ur_n (by omega)] at c4
        rw [b4 1 (by omega) (by omega) (by omega), b4 26 (by omega) (by omega) (by omega), b4 27 (by omega) (by omega) (by omega), ur_n (by omega), ur_ne (by omega), ur_ne (by omega)]
        by_cases i : 80 * w2 + n2 = 80 * w + n
        · rw [i, b6]
          exact ⟨fun f => by omega, fun f => by omega⟩
        · rw [b5 _ i, ur_n (by omega)]
          exact tt w2 n2 c1 c2 c3 c4
    · rw [if_f e, if_t rfl, if_t rfl, g_fineE (by decide), cag_e, if_t rfl, boolX_e (by omega), boolG_e (by omega)]
      exact CallR.thr h tt (e := 2) rfl (by rw [h2]) (by omega)
  · rw [if_f c, if_f c, calX_e (by decide), if_t rfl, g_fineE (by decide), cag_e, if_t rfl, boolX_e (by omega), boolG_e (by omega)]
    exact CallR.thr h tt (e := 1) rfl (by rw [h1]) (Or.inl rfl)
theorem c_fail {k : Int} (h : RelC N r m) (tt : GT r) (hN : N ≤ 600) (h0 : cd 0 = 0) (h1 : cd 1 = 1) (h3 : cd 3 = 2) : CallR cd N r m (X11_fail 1 k m) (G_fail k r) := by
  have g := h.2.2.rg
  have b := g.1
  unfold X11_fail X11_fail_0 G_fail G_fail_0 G_fail_29
  rw [chk_t (by omega), x_handOf h.1, g_isWorker, cag_e]
  by_cases c : 0 ≤ k ∧ k ≤ 3
  · have wk := h.1.2.2.2.2.1 k c.1 (by omega)
    rw [if_t c, if_t c, calX_0, x_actOf h.1 g c, if_f (show ¬ (1 : Int) = 0 by decide), chk_t (by omega)]
    rcases wk.2.2 with ⟨d1, d2⟩ | ⟨w, n, d1, d2, d3, d4, d5, d6⟩
    · rw [if_t d1, if_t d1, calX_e (by decide), g_fineE (by decide), cag_e, if_t rfl]
      exact CallR.thr h tt (e := 3) rfl (by rw [h3]) (by omega)
    · have s := g.2.2 w d1 d2
      have s1 := s.1
      have s2 := s.2.1
      have lt := (h.2.2.lt d1 d2).1
      have eR : Rl r w = 100000 * (w + 1) + 10000 * r 12 w := rfl
      have how : r 23 (80 * w + n) = 2 := by
        rcases (h.2.2.gk.1 k c.1 (by omega)).2 with e | e
        · omega
        · rw [d5] at e; exact e
      have n39 : ¬ r 39 k = -1 := by omega
      have ez : ur r 0 0 0 39 k = 80 * w + n := by rw [ur_n (by omega)]; exact d5
      have ez2 : ur r 0 0 0 25 (80 * w + n) = r 25 (80 * w + n) := ur_n (by omega)
      have ez3 : ur r 0 0 0 1 0 = r 1 0 := ur_n (by omega)
      have hz := h.z0
      have eRz : Rl (ur r 0 0 0) w = Rl r w := by unfold Rl; rw [ur_n (by omega)]
      obtain ⟨m', r', a1, a2, a3, a4, a5, a6, a7, a8⟩ := hz.lose hN d1 (by rw [ur_n (by omega)]; exact d2) d3 (by rw [ur_n (by omega)]; exact d4) (by rw [ur_n (by omega)]; exact how)
      rw [eRz] at a1 a4 a5
      rw [ez2] at a5 a8
      rw [ez3] at a8
      rw [if_f n39, if_f n39, calX_0, d6, a1, cal_e, chk_t (by omega), a5, g_fine0, cag_e, if_f (by decide), ez, chk_t (by omega), chk_t (by omega), chk_t (by omega), a2, cag_e, ez2]
      refine CallR.own h rfl rfl a3 ?_ (by rw [a6 0 (by omega) (by omega) (by omega) (by omega), ur_e rfl rfl, h0]) (fun i hi => a4 i (by omega) (by omega) (by omega)) (by rw [a6 16 (by omega) (by omega) (by omega) (by omega), ur_n (by omega)])
      intro w2 n2 c1 c2 c3 c4
      rw [a6 16 (by omega) (by omega) (by omega) (by omega), ur_n (by omega)] at c2
      rw [a6 22 (by omega) (by omega) (by omega) (by omega), ur_n (by omega)] at c4
      rw [a6 1 (by omega) (by omega) (by omega) (by omega), a6 27 (by omega) (by omega) (by omega) (by omega), ez3, ur_ne (by omega)]
      by_cases i : 80 * w2 + n2 = 80 * w + n
      · rw [i]
        exact ⟨fun f => by omega, fun f => by omega⟩
      · rw [(a7 _ i).1, (a7 _ i).2, ur_n (by omega), ur_n (by omega)]
        exact tt w2 n2 c1 c2 c3 c4
  · rw [if_f c, if_f c, calX_e (by decide), if_t rfl, g_fineE (by decide), cag_e, if_t rfl]
    exact CallR.thr h tt (e := 1) rfl (by rw [h1]) (Or.inl rfl)
end EN
