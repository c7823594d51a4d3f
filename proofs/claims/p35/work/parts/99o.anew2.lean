/-! one call on both sides: registerAnew, whole -/
section RB
variable {cd : Int → Int} {N : Int} {r r' : Rst} {m m' : Mem} {w ver : Int}
theorem x_programOf (h : RelM r m) (g : Rg r) (w0 : 0 ≤ w) (w1 : w < r 16 0) (t0 : 0 ≤ r 7 w ∧ r 7 w < 3) : X11_programOf 1 (100000 * (w + 1)) ver m = some (if 1 ≤ ver ∧ ver ≤ r 6 (r 7 w) then (0, 1000 * (r 7 w + 1) + 10 * ver, m) else (1, 0, thr9 m)) := by
  have f := (h.2.2.2.2.2.1 w w0 w1).1
  have g6 := g.2.1 (r 7 w) t0.1 t0.2
  have fm := h.2.2.1 (r 7 w) t0.1 t0.2
  unfold X11_programOf X11_programOf_0
  rw [f.1.2.1, x_familyOf h, if_t (show 0 ≤ r 7 w ∧ r 7 w ≤ 2 by omega), calX_0, fm.1.2.2.1, x_isWithin, cal_e, fm.1.2.1]
  by_cases c : 1 ≤ ver ∧ ver ≤ r 6 (r 7 w)
  · rw [if_t c, if_f (show ¬ (1 : Int) = 0 by decide), if_t c, fm.2.1 (ver - 1) (by omega) (by omega), show 1000 * (r 7 w + 1) + 10 * (ver - 1 + 1) = 1000 * (r 7 w + 1) + 10 * ver by omega]
    repeat rw [chk_t (by omega)]
  · rw [if_f c, if_t rfl, if_f c]
    repeat rw [chk_t (by omega)]
theorem c_registerAnew (h : RelC N r m) (tt : GT r) (h0 : cd 0 = 0) (h1 : cd 1 = 1) : CallR cd N r m (X11_registerAnew 1 w ver m) (G_registerAnew w ver r) := by
  have f9 := fuel9_ge
  have g := h.2.2.rg
  have b10 := g.1
  unfold X11_registerAnew X11_registerAnew_0 G_registerAnew G_registerAnew_0
  rw [chk_t (by omega), x_flowOf h.1 g, g_flow g, cag_e]
  by_cases c : 0 ≤ w ∧ w ≤ r 16 0 - 1
  · have w1 : w < r 16 0 := by omega
    have gw := h.2.2.2.2.2.1 w c.1 w1
    have g6 := g.2.1 (r 7 w) gw.1.1 gw.1.2
    have s := g.2.2 w c.1 w1
    have s1 := s.1
    have s2 := s.2.1
    have eR : Rl r w = 100000 * (w + 1) + 10000 * r 12 w := rfl
    rw [if_t c, if_t c, calX_0, if_f (show ¬ (1 : Int) = 0 by decide), x_programOf h.1 g c.1 w1 gw.1, g_isIn, cag_e]
    unfold G_registerAnew_32
    by_cases d : 1 ≤ ver ∧ ver ≤ r 6 (r 7 w)
    · rw [if_t d, if_t d, calX_0, if_f (show ¬ (1 : Int) = 0 by decide), if_f (show ¬ (1 : Int) = 0 by decide)]
      unfold G_registerAnew_43
      rw [g_fine0, cag_e, if_f (show ¬ (1 : Int) = 0 by decide)]
      have hz := h.z0
      have tz : GT (ur r 0 0 0) := tt.fr fun j hj => ur_ne (by omega)
      have e0 : ∀ j : Nat, j ≠ 0 → ur r 0 0 0 j = r j := fun j hj => ur_ne hj
      have z0 : ur r 0 0 0 0 0 = 0 := ur_e rfl rfl
      have hi := hz.2.2.hi c.1 (by rw [e0 16 (by omega)]; exact w1)
      have fl := (h.1.2.2.2.2.2.1 w c.1 w1).1
      have ru := (h.1.2.2.2.2.2.1 w c.1 w1).2.1 (r 12 w) s1 (Int.le_refl _)
      rw [← eR] at ru
      obtain ⟨cx, oP, oH⟩ := hz.cx (ver := ver) c.1 (by rw [e0 16 (by omega)]; exact w1) d.1 (by rw [e0 6 (by omega), e0 7 (by omega)]; exact d.2)
      have eRz : Rl (ur r 0 0 0) w = Rl r w := by unfold Rl; rw [e0 12 (by omega)]
      obtain ⟨v, r1, q, m1, x1, x2, x3, x4, x5, x6, x7⟩ := x_anew cx h.1.2.1 oP oH
      rw [eRz, e0 7 (by omega), e0 12 (by omega)] at x4
      have hb := hi.1
      have hc := hi.1.1
      obtain ⟨a, y1, y2, y3⟩ := any_loop (r := ur r 0 0 0) (row := rw9 (ur r 0 0 0) w) (E := ur r 0 0 0 18 (rw9 (ur r 0 0 0) w)) (by unfold rw9; rw [e0 12 (by omega)]; omega) rfl hi.1.2 (ur r 0 0 0 18 (rw9 (ur r 0 0 0) w)).toNat fuel9 0 0 (by omega) (by omega) (by omega) (Or.inl rfl)
      have ga : G_isAny w (ur r 0 0 0) = some (a, ur r 0 0 0) := by
        unfold G_isAny G_isAny_0
        rw [g_rowOfRun c.1 (by omega) (by rw [e0 12 (by omega)]; omega) (by rw [e0 12 (by omega)]; omega), cag_e, y1, boolG_e y2]
      have e4 : m 1 4 = 100 := h.1.1.1.2.2.2.2.1
      have e14 : m1 1 4 = 100 := by rw [x6 1 (by omega) 4]; exact e4
      have e2 : m1 100 2 = q 2 0 := x5.1.2.2.1 2 rfl
      rw [ga, cag_e, fl.1.2.2.2.2.2.2.1, fl.1.2.2.2.2.2.1, ru.1.1, e4, x4, cal_e, e14, e2]
      repeat rw [chk_t (by omega)]
      have hp : RelC N r1 m1 := hz.played x5.pl x6 (fun j a b => x2 j (by omega)) x3
      have em : ∀ i, i < 100 → m1 i = m i := fun i hi => by
        funext j
        exact x6 i (by omega) j
      rcases y2 with rfl | rfl
      · rw [if_t rfl]
        obtain ⟨z, gb, gp⟩ := g_plays (r := ur r 0 0 0) (w := w) (ver := ver) c.1 (by omega) (by rw [e0 12 (by omega)]; omega) (by rw [e0 12 (by omega)]; omega) (by rw [e0 7 (by omega)]; omega) (by rw [e0 7 (by omega)]; omega) d.1 (by omega) (by have := hi.1.1; unfold rw9 at this; omega) hi.1.2
        have hno := (y3 rfl).2
        have b8 := hi.1
        have pn := plays_none (l5 := 80 * (9 * w + ur r 0 0 0 12 w - 1)) (l4 := 80 * (9 * w + ur r 0 0 0 12 w - 1) + ur r 0 0 0 18 (9 * w + ur r 0 0 0 12 w - 1)) (ur r 0 0 0 18 (rw9 (ur r 0 0 0) w)).toNat fuel9 (80 * (9 * w + ur r 0 0 0 12 w - 1)) z (by unfold rw9 at *; omega) (by rw [e0 12 (by omega)]; omega) (by unfold rw9 at *; rw [e0 12 (by omega)] at *; omega) (by omega) (fun i ia ib => by
          rw [gb.1 19 (by omega)]
          have := hno (i - 80 * rw9 (ur r 0 0 0) w) (by unfold rw9; omega) (by unfold rw9 at *; omega)
          rw [show 80 * rw9 (ur r 0 0 0) w + (i - 80 * rw9 (ur r 0 0 0) w) = i by omega] at this
          exact this)
        rw [x1, pn] at gp
        have ev : v = 80 * (9 * w + ur r 0 0 0 12 w - 1) ∧ r1 = z := by
          injection gp with gp
          injection gp with g1 g2
          exact ⟨g1, g2⟩
        rw [e0 12 (by omega)] at ev
        have q0 : q 2 0 = 0 := by rw [x7 (by omega), ev.2]; exact gb.2.2.2.2.2.1
        rw [if_f (show ¬ v = -1 by omega), if_f (show ¬ (1 : Int) = 0 by decide), q0]
        have hp2 : RelC N (ur r 0 0 0) m1 := hz.played x5.pl x6 (fun _ _ _ => rfl) hz.2.2.2.2.1
        refine ⟨0, 0, m1, 0, _, rfl, rfl, Or.inl rfl, by rw [z0, h0], fun _ => rfl, hp2.mono (by omega), tz, fun i a b => em i (by omega), em _ (by omega), em _ (by omega), ?_, ?_⟩
        · rw [em _ (by omega), e0 16 (by omega)]; omega
        · rw [em _ (by omega), e0 16 (by omega)]; omega
      · rw [if_f (show ¬ (1 : Int) = 0 by decide), x1, cag_e]
        have tp : GT r1 := tz.fr fun j hj => x2 j (by omega)
        have p0 : r1 0 0 = 0 := by rw [x2 0 (by omega)]; exact z0
        have p16 : r1 16 0 = r 16 0 := by rw [x2 16 (by omega), e0 16 (by omega)]
        by_cases e : v = -1
        · rw [if_t e, if_t e, if_t rfl]
          refine ⟨0, -2000, m1, -2000, _, rfl, rfl, Or.inl rfl, by rw [p0, h0], fun _ => rfl, hp.mono (by omega), tp, fun i a b => em i (by omega), em _ (by omega), em _ (by omega), ?_, ?_⟩
          · rw [em _ (by omega), p16]; omega
          · rw [em _ (by omega), p16]; omega
        · rw [if_f e, if_f e, if_f (show ¬ (1 : Int) = 0 by decide), x7 e]
          refine ⟨0, r1 41 0, m1, r1 41 0, _, rfl, rfl, Or.inl rfl, by rw [p0, h0], fun _ => rfl, hp.mono (by omega), tp, fun i a b => em i (by omega), em _ (by omega), em _ (by omega), ?_, ?_⟩
          · rw [em _ (by omega), p16]; omega
          · rw [em _ (by omega), p16]; omega
    · unfold G_registerAnew_43
      rw [if_f d, if_f d, calX_e (by decide), if_t rfl, if_t rfl, g_fineE (by decide), cag_e, if_t rfl]
      repeat rw [chk_t (by omega)]
      exact CallR.thr h tt (e := 1) rfl (by rw [h1]) (Or.inl rfl)
  · unfold G_registerAnew_32 G_registerAnew_43
    rw [if_f c, if_f c, calX_e (by decide), if_t rfl, if_t rfl, g_fineE (by decide), cag_e, if_t rfl]
    exact CallR.thr h tt (e := 1) rfl (by rw [h1]) (Or.inl rfl)
end RB
