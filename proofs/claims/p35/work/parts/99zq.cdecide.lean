/-! one call on both sides: decide -/
section FF9
variable {cd : Int → Int} {N N' : Int} {r r' z r0 r1 r2 ra rv rz : Rst} {m m' m0 m1 m2 ma mm : Mem} {w n k x y s b c v row I o t l u f W M p nu pa L R F E1 ver md rn T A E P H : Int} {a : Int → Int}
theorem c_decide (h : RelC N r m) (tt : GT r) (hN : N ≤ 600) (h0 : cd 0 = 0) (h1 : cd 1 = 1) (h3 : cd 3 = 2) : CallR cd N r m (X11_decide 1 w ver m) (G_decide w ver r) := by
  have g := h.2.2.rg
  have b10 := g.1
  unfold X11_decide X11_decide_0 G_decide G_decide_0
  rw [chk_t (by omega), x_flowOf h.1 g, g_flow g, cag_e]
  by_cases c : 0 ≤ w ∧ w ≤ r 16 0 - 1
  · have w1 : w < r 16 0 := by omega
    have w0 := c.1
    have gw := h.2.2.2.2.2.1 w c.1 w1
    have g6 := g.2.1 (r 7 w) gw.1.1 gw.1.2
    have s := g.2.2 w c.1 w1
    have s1 := s.1
    have s2 := s.2.1
    have eR : Rl r w = 100000 * (w + 1) + 10000 * r 12 w := rfl
    have er : rw9 r w = 9 * w + r 12 w - 1 := rfl
    rw [if_t c, if_t c, calX_0, if_f (show ¬ (1 : Int) = 0 by decide), x_programOf h.1 g c.1 w1 gw.1, g_isIn, cag_e]
    unfold G_decide_32
    by_cases d : 1 ≤ ver ∧ ver ≤ r 6 (r 7 w)
    · have fl := (h.1.2.2.2.2.2.1 w c.1 w1).1
      have ru := (h.1.2.2.2.2.2.1 w c.1 w1).2.1 (r 12 w) s1 (Int.le_refl _)
      rw [← eR, ← er] at ru
      rw [if_t d, if_t d, calX_0, if_f (show ¬ (1 : Int) = 0 by decide), if_f (show ¬ (1 : Int) = 0 by decide), fl.1.2.2.2.2.2.2.1, ru.1.2.2.2.1, g_isRunning c.1 (by omega) s1 s2, cag_e]
      unfold G_decide_55
      by_cases e : r 17 (rw9 r w) = 20
      · rw [if_t e, if_t e, if_f (show ¬ (1 : Int) = 0 by decide), g_fine0, cag_e, if_f (show ¬ (1 : Int) = 0 by decide), x_news h.1 h.2.2 c.1 w1, cal_e]
        have hz := h.z0
        have tz : GT (ur r 0 0 0) := tt.fr fun j hj => ur_ne (by omega)
        have e0 : ∀ j : Nat, j ≠ 0 → ur r 0 0 0 j = r j := fun j hj => ur_ne hj
        have z0 : ur r 0 0 0 0 0 = 0 := ur_e rfl rfl
        have e9 : rw9 (ur r 0 0 0) w = rw9 r w := by unfold rw9; rw [e0 12 (by omega)]
        have ek : hk (ur r 0 0 0) w = hk r w := by unfold hk; rw [e9, e0 19 (by omega)]
        have wz : w < ur r 0 0 0 16 0 := by rw [e0 16 (by omega)]; exact w1
        rw [g_due hz.2.2 c.1 wz, cag_e, e9, ek, e0 17 (by omega), e0 18 (by omega)]
        by_cases f : hk r w (r 18 (rw9 r w) - 1) < 7
        · have pd : r 17 (rw9 r w) = 20 ∧ hk r w (r 18 (rw9 r w) - 1) < 7 := ⟨e, f⟩
          rw [if_t pd, if_t f, if_f (show ¬ (1 : Int) = 0 by decide), if_f (show ¬ (1 : Int) = 0 by decide)]
          obtain ⟨cx, oP, oH⟩ := hz.cx (ver := ver) c.1 wz d.1 (by rw [e0 6 (by omega), e0 7 (by omega)]; exact d.2)
          have eRz : Rl (ur r 0 0 0) w = Rl r w := by unfold Rl; rw [e0 12 (by omega)]
          have hi := hz.2.2.hi c.1 wz
          have hsr := cx.2.2.2.1
          have hs0 : ∀ i, 0 ≤ i → i < r 18 (rw9 r w) → obj9 m (Rl (ur r 0 0 0) w + 1) 0 i = r 19 (80 * rw9 r w + i) ∧ obj9 m (Rl (ur r 0 0 0) w + 1) 1 i = r 20 (80 * rw9 r w + i) ∧ obj9 m (Rl (ur r 0 0 0) w + 1) 2 i = r 21 (80 * rw9 r w + i) := fun i i0 i1 => by
            have := hsr.2 i i0 (by rw [e9, e0 18 (by omega)]; exact i1)
            rw [e9, e0 19 (by omega), e0 20 (by omega), e0 21 (by omega)] at this
            exact this
          have hno : ∀ j, 0 ≤ j → j < ur r 0 0 0 18 (rw9 (ur r 0 0 0) w) → obj9 m (Rl (ur r 0 0 0) w + 1) 0 j ≠ 16 := fun j j0 j1 hh => by
            rw [e9, e0 18 (by omega)] at j1
            rw [(hs0 j j0 j1).1] at hh
            have := (hi.2.2.2.2.2.2.2.2.2.2.1 j j0 (by rw [e9, e0 18 (by omega)]; exact j1) (by rw [ek]; exact hh)).2
            rw [e9, e0 17 (by omega)] at this
            exact this e
          have hcnt := hi.2.2.2.2.2.2.2.2.2.2.2.2
          have hM : ∀ i, 0 ≤ i → i < ur r 0 0 0 18 (rw9 (ur r 0 0 0) w) → obj9 m (Rl (ur r 0 0 0) w + 1) 0 i = 5 → obj9 m (Rl (ur r 0 0 0) w + 1) 1 i < cntP pM (obj9 m (Rl (ur r 0 0 0) w + 1) 0) (ur r 0 0 0 18 (rw9 (ur r 0 0 0) w)).toNat := fun i i0 i1 hh => by
            have ec : cntP pM (obj9 m (Rl (ur r 0 0 0) w + 1) 0) (ur r 0 0 0 18 (rw9 (ur r 0 0 0) w)).toNat = ur r 0 0 0 32 w := by
              rw [hcnt.2.2]
              refine cntP_congr fun j j0 j1 => ?_
              have j1' : j < r 18 (rw9 r w) := by
                rw [e9, e0 18 (by omega)] at j1
                omega
              rw [(hs0 j j0 j1').1]
              unfold hk
              rw [e9, e0 19 (by omega)]
            rw [ec]
            rw [e9, e0 18 (by omega)] at i1
            rw [(hs0 i i0 i1).1] at hh
            rw [(hs0 i i0 i1).2.1]
            have := (hi.2.2.2.2.2.2.2.2.1 i i0 (by rw [e9, e0 18 (by omega)]; exact i1) (by rw [ek]; exact hh)).1
            rw [e9, e0 20 (by omega)] at this
            exact this
          obtain ⟨v, r1, x1, x2, x3, x4⟩ := x_play cx h.1.2.1 oP oH hno hM
          have e4 : m 1 4 = 100 := h.1.1.1.2.2.2.2.1
          rw [e4, fl.1.2.2.2.2.2.1, ru.1.1, x1, cag_e]
          rw [eRz, e0 7 (by omega), e0 12 (by omega), e9, e0 18 (by omega)] at x4
          rcases x4 with ⟨rfl, q, m1, y1, y2, y3⟩ | ⟨vn, u, r2, q, m1, y1, y2, y3, y83, y4, y5, y6, y7⟩
          · rw [if_t rfl, y1, cal_e, if_t rfl]
            repeat rw [chk_t (by omega)]
            have hp : RelC N r1 m1 := hz.played y2.pl y3 (fun j a b => x2 j (by omega)) x3
            have em : ∀ i, i < 100 → m1 i = m i := fun i hi => by
              funext j
              exact y3 i (by omega) j
            have p16 : r1 16 0 = r 16 0 := by rw [x2 16 (by omega), e0 16 (by omega)]
            refine ⟨0, -2, m1, -2, _, rfl, rfl, Or.inl rfl, by rw [x2 0 (by omega), z0, h0], fun _ => rfl, hp.mono (by omega), tz.fr fun j hj => x2 j (by omega), fun i a b => em i (by omega), em _ (by omega), em _ (by omega), ?_, ?_⟩
            · rw [em _ (by omega), p16]; omega
            · rw [em _ (by omega), p16]; omega
          · have r1j : ∀ j : Nat, 1 ≤ j → j < 40 → r1 j = r j := fun j a b => by rw [x2 j (by omega), e0 j (by omega)]
            have r2j : ∀ j : Nat, 1 ≤ j → j < 40 → r2 j = r j := fun j a b => by rw [y2 j (by omega), e0 j (by omega)]
            have z2 : RelC N r2 m1 := hz.played y5.pl y6 (fun j a b => y2 j (by omega)) y3
            have e29 : rw9 r2 w = rw9 r w := by unfold rw9; rw [r2j 12 (by omega) (by omega)]
            have e2l : Rl r2 w = Rl r w := by unfold Rl; rw [r2j 12 (by omega) (by omega)]
            have em : ∀ i, i < 100 ∨ 139 < i → m1 i = m i := fun i hi => by
              funext j
              exact y6 i hi j
            have lt := h.2.2.lt w0 w1
            rw [if_f vn, g_rowOfRun w0 (by omega) (by rw [r1j 12 (by omega) (by omega)]; omega) (by rw [r1j 12 (by omega) (by omega)]; exact s2), cag_e, stg_e]
            have e19 : rw9 r1 w = rw9 r w := by unfold rw9; rw [r1j 12 (by omega) (by omega)]
            have q18 : ur r1 80 0 1 18 (rw9 r w) = r 18 (rw9 r w) := by rw [ur_n (by omega), r1j 18 (by omega) (by omega)]
            rw [e19, q18, y1, cag_e, r2j 18 (by omega) (by omega)]
            obtain ⟨val, r', m3, m4, m5, t1, t2, t3, t4, t5, t6, t7, t8, t9, ta, tb⟩ := dec_rest (ver := ver) z2 (tz.fr fun j hj => y2 j (by omega)) hN w0 (by rw [r2j 16 (by omega) (by omega)]; exact w1) (by rw [e29, r2j 17 (by omega) (by omega)]; exact e) (by rw [e29, r2j 18 (by omega) (by omega)]) (by unfold hk at f ⊢; rw [e29, r2j 19 (by omega) (by omega)]; exact f) y5 y7 (fun i i0 i1 => by
              rw [e29, r2j 19 (by omega) (by omega), r2j 20 (by omega) (by omega), r2j 21 (by omega) (by omega)]
              have := hs0 i i0 i1
              rw [eRz] at this
              exact ⟨this.1.symm, this.2.1.symm, this.2.2.symm⟩) (by rw [y83, r2j 12 (by omega) (by omega)])
            rw [e2l] at t3
            have n76 := y7.1
            rw [t4, y4, cal_e, if_f (show ¬ (1 : Int) = 0 by decide), t1, cal_e, t2, cal_e, t3, cal_e, t8.1, t8.2.1, t8.2.2]
            repeat rw [chk_t (by omega)]
            have p16 : r2 16 0 = r 16 0 := by rw [r2j 16 (by omega) (by omega)]
            refine ⟨0, val, m5, val, r', rfl, rfl, Or.inl rfl, by rw [t7, y2 0 (by omega), z0, h0], fun _ => rfl, t5, t6, fun i a b => by rw [t9 i (by omega), em i (by omega)], by rw [t9 _ (by omega), em _ (by omega)], by rw [t9 _ (by omega), em _ (by omega)], ?_, ?_⟩
            · rw [em (-2) (by omega), p16] at ta
              omega
            · rw [em (-2) (by omega), p16] at tb
              omega
        · have np : ¬ (r 17 (rw9 r w) = 20 ∧ hk r w (r 18 (rw9 r w) - 1) < 7) := fun hh => f hh.2
          rw [if_f np, if_f f, if_t rfl, if_t rfl]
          repeat rw [chk_t (by omega)]
          exact CallR.ret h tt rfl rfl h0
      · rw [if_f e, if_f e, if_t rfl, g_fineE (by decide), cag_e, if_t rfl]
        repeat rw [chk_t (by omega)]
        exact CallR.thr h tt (e := 3) rfl (by rw [h3]) (Or.inr (Or.inr rfl))
    · unfold G_decide_55
      rw [if_f d, if_f d, calX_e (by decide), if_t rfl, if_t rfl, g_fineE (by decide), cag_e, if_t rfl]
      repeat rw [chk_t (by omega)]
      exact CallR.thr h tt (e := 1) rfl (by rw [h1]) (Or.inl rfl)
  · unfold G_decide_32 G_decide_55
    rw [if_f c, if_f c, calX_e (by decide), if_t rfl, if_t rfl, g_fineE (by decide), cag_e, if_t rfl]
    exact CallR.thr h tt (e := 1) rfl (by rw [h1]) (Or.inl rfl)
end FF9
