/-! one call on both sides: events, workers, queues -/
section EV
variable {cd : Int → Int} {N : Int} {r : Rst} {m : Mem} {w : Int}
/-- something happens to a run, and all that always holds goes on to hold -/
theorem RelC.happen {k x y : Int} (h : RelC N r m) (w0 : 0 ≤ w) (w1 : w < r 16 0) (k1 : 1 ≤ k) (k5 : k ≤ 5) (bx : -100000 ≤ x ∧ x ≤ 100000) (bY : -100000 ≤ y ∧ y ≤ 100000) (hx : 0 ≤ x) (h12 : r 17 (rw9 r w) = 20 → k = 1 ∨ k = 2 → x < r 22 w ∧ r 23 (80 * w + x) = 0 ∧ ∀ i, 0 ≤ i → i < r 18 (rw9 r w) → hk r w i = 1 ∨ hk r w i = 2 → r 20 (80 * rw9 r w + i) ≠ x) (h5 : r 17 (rw9 r w) = 20 → k = 5 → x < r 32 w ∧ (r 33 (80 * w + x) = -1 ∨ r 17 (rw9 r (r 33 (80 * w + x))) ≠ 20) ∧ ∀ i, 0 ≤ i → i < r 18 (rw9 r w) → hk r w i = 5 → r 20 (80 * rw9 r w + i) ≠ x) : ∃ v m' r', X7_happen (Rl r w) k x y m = some (v, m') ∧ G_happens w k x y r = some (v, r') ∧ (v = 0 ∨ v = 1) ∧ RelC N r' m' ∧ (∀ i, ¬ (Rl r w + 1 ≤ i ∧ i ≤ Rl r w + 4) → m' i = m i) ∧ (∀ j : Nat, j < 18 ∨ 21 < j → r' j = r j) := by
  have g := h.2.2.rg
  obtain ⟨v, m', r', a1, a2, a3, ⟨rfl, a4, a5, rfl, rfl⟩ | ⟨rfl, a4, rfl, rfl⟩⟩ := rel_happen (k := k) (x := x) (y := y) h.1 g w0 w1
  · refine ⟨1, _, _, a1, a2, Or.inr rfl, ⟨a3, fun w2 c d => ?_, h.2.2.ev w0 w1 a4 a5 k1 (by omega) bx bY (fun _ => hx) (h12 a4) (h5 a4)⟩, fun i hi => ?_, fun j hj => wr_n hj⟩
    · rw [wr_n (by omega)] at d
      have u := h.2.1 w2 c d
      refine ⟨u.1.ev g (by omega) w0 w1 c d (by omega), ?_⟩
      have s := g.2.2 w w0 w1
      have s2 := g.2.2 w2 c d
      have t1 := s.1
      have t2 := s.2.1
      have t3 := s2.1
      have t4 := s2.2.1
      have eR : Rl r w = 100000 * (w + 1) + 10000 * r 12 w := rfl
      have eR2 : Rl r w2 = 100000 * (w2 + 1) + 10000 * r 12 w2 := rfl
      rw [Rl_wr]
      unfold put9
      by_cases e : w2 = w
      · subst e
        rw [upd9_n (by omega), upd9_n (by omega), upd9_n (by omega), upd9_n (by omega)]
        exact u.2
      · rw [upd9_n (by omega), upd9_n (by omega), upd9_n (by omega), upd9_n (by omega)]
        exact u.2
    · unfold put9
      rw [upd9_row (by omega), upd9_row (by omega), upd9_row (by omega), upd9_row (by omega)]
  · exact ⟨0, m', r', a1, a2, Or.inl rfl, h, fun _ _ => rfl, fun _ _ => rfl⟩
/-- a cancel is asked for -/
theorem RelC.cancel (h : RelC N r m) (w0 : 0 ≤ w) (w1 : w < r 16 0) : ∃ v m' r', X7_askCancel (Rl r w) m = some (v, m') ∧ G_cancels w r = some (v, r') ∧ (v = 0 ∨ v = 1) ∧ RelC N r' m' ∧ (∀ i, ¬ (Rl r w ≤ i ∧ i ≤ Rl r w + 4) → m' i = m i) ∧ (∀ j : Nat, j < 18 ∨ 21 < j → r' j = r j) := by
  have g := h.2.2.rg
  obtain ⟨v, m', r', a1, a2, a0, a3, a4, ⟨rfl, ⟨b1, b2, b3⟩, rfl, rfl⟩ | ⟨rfl, b1, rfl, rfl⟩⟩ := rel_cancel h.1 g (h.2.1 w w0 w1).1 w0 w1
  · refine ⟨1, _, _, a1, a2, Or.inr rfl, ⟨a3, fun w2 c d => ?_, h.2.2.ev w0 w1 b2 b3 (by omega) (by omega) (by omega) (by omega) (fun e => by omega) (fun e => by omega) (fun e => by omega)⟩, fun i hi => ?_, fun j hj => wr_n hj⟩
    · rw [wr_n (by omega)] at d
      have u := h.2.1 w2 c d
      have s := g.2.2 w w0 w1
      have s2 := g.2.2 w2 c d
      have t1 := s.1
      have t2 := s.2.1
      have t3 := s2.1
      have t4 := s2.2.1
      have er : rw9 r w = 9 * w + r 12 w - 1 := rfl
      have er2 : rw9 r w2 = 9 * w2 + r 12 w2 - 1 := rfl
      have eR : Rl r w = 100000 * (w + 1) + 10000 * r 12 w := rfl
      have eR2 : Rl r w2 = 100000 * (w2 + 1) + 10000 * r 12 w2 := rfl
      have s62 := s2.2.2.2.2.2 (rw9 r w2) (by omega) (by omega)
      have s61 := s.2.2.2.2.2 (rw9 r w) (by omega) (by omega)
      by_cases e : w2 = w
      · subst e
        refine ⟨a4, ?_⟩
        rw [Rl_wr, upd9_n (by omega)]
        unfold put9
        rw [upd9_n (by omega), upd9_n (by omega), upd9_n (by omega), upd9_n (by omega)]
        exact u.2
      · have em : upd9 (put9 (Rl r w + 1) 6 0 0 m) (Rl r w) 10 1 (Rl r w2) = m (Rl r w2) := by
          rw [upd9_row (by omega)]
          unfold put9
          rw [upd9_row (by omega), upd9_row (by omega), upd9_row (by omega), upd9_row (by omega)]
        unfold CaW
        rw [Rl_wr, em]
        refine ⟨?_, u.2⟩
        rw [rw9_wr, wr_o (by omega) (by omega)]
        rw [show m (Rl r w2) 10 = _ from u.1]
        refine can_congr fun i c d => ?_
        unfold hk
        rw [rw9_wr, wr_o (by omega) (by omega)]
    · rw [upd9_row (by omega)]
      unfold put9
      rw [upd9_row (by omega), upd9_row (by omega), upd9_row (by omega), upd9_row (by omega)]
  · exact ⟨0, m', r', a1, a2, Or.inl rfl, h, fun _ _ => rfl, fun _ _ => rfl⟩
/-- what a call does that changes a workflow's own things alone -/
theorem CallR.own {o : Option R3} {g : Option G2} (h : RelC N r m) {v : Int} {m' : Mem} {r' : Rst} (ho : o = some (0, v, m')) (hg : g = some (v, r')) (h' : RelC N r' m') (t' : GT r') (e0 : r' 0 0 = cd 0) (em : ∀ i, i < 5000 → m' i = m i) (e16 : r' 16 0 = r 16 0) : CallR cd N r m o g := by
  refine ⟨0, v, m', v, r', ho, hg, Or.inl rfl, e0, fun _ => rfl, h'.mono (by omega), t', fun i a b => em i (by omega), em _ (by omega), em _ (by omega), ?_, ?_⟩
  · rw [em _ (by omega)]; omega
  · rw [em _ (by omega)]; omega
theorem boolX_c {o : Option R3} {g : Option G2} (h : CallR cd N r m o g) (hb : ∀ v m', o = some (0, v, m') → v = 0 ∨ v = 1) (hg : ∀ v r', g = some (v, r') → v = 0 ∨ v = 1) : CallR cd N r m (boolX o) (boolG g) := by
  obtain ⟨e, v, m', v', r', a1, a2, a3, a4, a5, a6, a7, a8⟩ := h
  refine ⟨e, v, m', v', r', ?_, ?_, a3, a4, a5, a6, a7, a8⟩
  · rw [a1]
    refine boolX_e ?_
    by_cases c : e = 0
    · subst c
      exact Or.inr (hb v m' a1)
    · exact Or.inl c
  · rw [a2]
    exact boolG_e (hg v' r' a2)
theorem c_signal {x y : Int} (h : RelC N r m) (tt : GT r) (h0 : cd 0 = 0) (h1 : cd 1 = 1) (h2 : cd 2 = 2) : CallR cd N r m (X11_signal 1 w x y m) (G_signal w x y r) := by
  have g := h.2.2.rg
  have b := g.1
  unfold X11_signal X11_signal_0 G_signal G_signal_0 G_signal_38
  rw [chk_t (by omega), x_flowOf h.1 g, g_flow g, cag_e]
  by_cases c : 0 ≤ w ∧ w ≤ r 16 0 - 1
  · have f := (h.1.2.2.2.2.2.1 w c.1 (by omega)).1
    have s := g.2.2 w c.1 (by omega)
    have s1 := s.1
    have eR : Rl r w = 100000 * (w + 1) + 10000 * r 12 w := rfl
    rw [if_t c, if_t c, calX_0, x_isWithin, cal_e, if_f (show ¬ (1 : Int) = 0 by decide), g_isIn, cag_e]
    by_cases d : 0 ≤ x ∧ x ≤ 2
    · rw [if_t d, if_f (show ¬ (1 : Int) = 0 by decide), if_f (show ¬ (1 : Int) = 0 by decide), x_isWithin, cal_e, g_isValue, cag_e]
      by_cases e : -99 ≤ y ∧ y ≤ 99
      · rw [if_t e, if_f (show ¬ (1 : Int) = 0 by decide), if_f (show ¬ (1 : Int) = 0 by decide), g_fine0, cag_e, if_f (by decide), chk_t (by omega), f.1.2.2.2.2.2.2.1, chk_t (by omega)]
        have hz : RelC N (ur r 0 0 0) m := h.fr h.1.2.1 (fun _ _ => rfl) fun j hj => ur_ne (by omega)
        have eRz : Rl (ur r 0 0 0) w = Rl r w := by unfold Rl; rw [ur_n (by omega)]
        obtain ⟨v, m', r', a1, a2, a3, a4, a5, a6⟩ := hz.happen (k := 4) (x := x) (y := y) c.1 (by rw [ur_n (by omega)]; omega) (by omega) (by omega) (by omega) (by omega) d.1 (fun _ e => by omega) (fun _ e => by omega)
        rw [eRz] at a1 a5
        rw [a1, cal_e, a2, cag_e]
        have e16 : r' 16 0 = r 16 0 := by rw [a6 16 (by omega), ur_n (by omega)]
        have e0 : r' 0 0 = cd 0 := by rw [a6 0 (by omega), ur_e rfl rfl, h0]
        rcases a3 with rfl | rfl
        · rw [if_t rfl, boolX_e (by omega), boolG_e (by omega)]
          exact CallR.own h rfl rfl a4 (tt.fr fun j hj => by rw [a6 j (by omega), ur_ne (by omega)]) e0 (fun i hi => a5 i (by omega)) e16
        · rw [if_f (by decide), boolX_e (by omega), boolG_e (by omega)]
          exact CallR.own h rfl rfl a4 (tt.fr fun j hj => by rw [a6 j (by omega), ur_ne (by omega)]) e0 (fun i hi => a5 i (by omega)) e16
      · rw [if_f e, if_t rfl, if_t rfl, g_fineE (by decide), cag_e, if_t rfl, boolX_e (by omega), boolG_e (by omega)]
        exact CallR.thr h tt (e := 2) rfl (by rw [h2]) (by omega)
    · rw [if_f d, if_t rfl, if_t rfl, g_fineE (by decide), cag_e, if_t rfl, boolX_e (by omega), boolG_e (by omega)]
      exact CallR.thr h tt (e := 2) rfl (by rw [h2]) (by omega)
  · rw [if_f c, if_f c, calX_e (by decide), if_t rfl, g_fineE (by decide), cag_e, if_t rfl, boolX_e (by omega), boolG_e (by omega)]
    exact CallR.thr h tt (e := 1) rfl (by rw [h1]) (Or.inl rfl)
theorem c_cancel (h : RelC N r m) (tt : GT r) (h0 : cd 0 = 0) (h1 : cd 1 = 1) : CallR cd N r m (X11_cancel 1 w m) (G_cancel w r) := by
  have g := h.2.2.rg
  have b := g.1
  unfold X11_cancel X11_cancel_0 G_cancel G_cancel_0 G_cancel_14
  rw [chk_t (by omega), x_flowOf h.1 g, g_flow g, cag_e]
  by_cases c : 0 ≤ w ∧ w ≤ r 16 0 - 1
  · have f := (h.1.2.2.2.2.2.1 w c.1 (by omega)).1
    have s := g.2.2 w c.1 (by omega)
    have s1 := s.1
    have eR : Rl r w = 100000 * (w + 1) + 10000 * r 12 w := rfl
    rw [if_t c, if_t c, calX_0, chk_t (by omega), f.1.2.2.2.2.2.2.1, chk_t (by omega), if_f (by decide), g_fine0, cag_e, if_f (by decide)]
    have hz : RelC N (ur r 0 0 0) m := h.fr h.1.2.1 (fun _ _ => rfl) fun j hj => ur_ne (by omega)
    have eRz : Rl (ur r 0 0 0) w = Rl r w := by unfold Rl; rw [ur_n (by omega)]
    obtain ⟨v, m', r', a1, a2, a3, a4, a5, a6⟩ := hz.cancel c.1 (by rw [ur_n (by omega)]; omega)
    rw [eRz] at a1 a5
    rw [a1, cal_e, a2, cag_e]
    have e16 : r' 16 0 = r 16 0 := by rw [a6 16 (by omega), ur_n (by omega)]
    have e0 : r' 0 0 = cd 0 := by rw [a6 0 (by omega), ur_e rfl rfl, h0]
    rcases a3 with rfl | rfl
    · rw [if_t rfl, boolX_e (by omega), boolG_e (by omega)]
      exact CallR.own h rfl rfl a4 (tt.fr fun j hj => by rw [a6 j (by omega), ur_ne (by omega)]) e0 (fun i hi => a5 i (by omega)) e16
    · rw [if_f (by decide), boolX_e (by omega), boolG_e (by omega)]
      exact CallR.own h rfl rfl a4 (tt.fr fun j hj => by rw [a6 j (by omega), ur_ne (by omega)]) e0 (fun i hi => a5 i (by omega)) e16
  · rw [if_f c, if_f c, calX_e (by decide), if_t rfl, g_fineE (by decide), cag_e, if_t rfl, boolX_e (by omega), boolG_e (by omega)]
    exact CallR.thr h tt (e := 1) rfl (by rw [h1]) (Or.inl rfl)
theorem c_isDue (h : RelC N r m) (tt : GT r) (h0 : cd 0 = 0) (h1 : cd 1 = 1) : CallR cd N r m (X11_isDue 1 w m) (G_isDue w r) := by
  have g := h.2.2.rg
  have b := g.1
  unfold X11_isDue X11_isDue_0 G_isDue G_isDue_0 G_isDue_14
  rw [chk_t (by omega), x_flowOf h.1 g, g_flow g, cag_e]
  by_cases c : 0 ≤ w ∧ w ≤ r 16 0 - 1
  · have f := h.1.2.2.2.2.2.1 w c.1 (by omega)
    have s := g.2.2 w c.1 (by omega)
    have s1 := s.1
    have er : rw9 r w = 9 * w + r 12 w - 1 := rfl
    have eR : Rl r w = 100000 * (w + 1) + 10000 * r 12 w := rfl
    have u := f.2.1 (r 12 w) s1 (Int.le_refl _)
    rw [← eR, ← er] at u
    have hz : GI N (ur r 0 0 0) := h.2.2.fr fun j hj => ur_ne (by omega)
    have e9 : rw9 (ur r 0 0 0) w = rw9 r w := by unfold rw9; rw [ur_n (by omega)]
    have ek : hk (ur r 0 0 0) w = hk r w := by unfold hk; rw [e9, ur_ne (by omega)]
    rw [if_t c, if_t c, calX_0, chk_t (by omega), f.1.1.2.2.2.2.2.2.1, chk_t (by omega), if_f (show ¬ (1 : Int) = 0 by decide), g_fine0, cag_e, if_f (show ¬ (1 : Int) = 0 by decide), u.1.2.2.2.1, g_due hz c.1 (by rw [ur_n (by omega)]; omega), cag_e, e9, ek, ur_n (by omega), ur_n (by omega), x_news h.1 h.2.2 c.1 (by omega), cal_e]
    by_cases d : r 17 (rw9 r w) = 20
    · by_cases e : hk r w (r 18 (rw9 r w) - 1) < 7
      · have pd : r 17 (rw9 r w) = 20 ∧ hk r w (r 18 (rw9 r w) - 1) < 7 := ⟨d, e⟩
        rw [if_t pd, if_t d, if_t e, if_f (show ¬ (1 : Int) = 0 by decide), if_f (show ¬ (1 : Int) = 0 by decide), boolX_e (by omega), boolG_e (by omega)]
        exact CallR.ret h tt rfl rfl h0
      · have np : ¬ (r 17 (rw9 r w) = 20 ∧ hk r w (r 18 (rw9 r w) - 1) < 7) := fun hh => e hh.2
        rw [if_f np, if_t d, if_f e, if_t rfl, if_t rfl, boolX_e (by omega), boolG_e (by omega)]
        exact CallR.ret h tt rfl rfl h0
    · have np : ¬ (r 17 (rw9 r w) = 20 ∧ hk r w (r 18 (rw9 r w) - 1) < 7) := fun hh => d hh.1
      rw [if_f np, if_f d, if_t rfl, boolX_e (by omega), boolG_e (by omega)]
      exact CallR.ret h tt rfl rfl h0
  · rw [if_f c, if_f c, calX_e (by decide), if_t rfl, g_fineE (by decide), cag_e, if_t rfl, boolX_e (by omega), boolG_e (by omega)]
    exact CallR.thr h tt (e := 1) rfl (by rw [h1]) (Or.inl rfl)
end EV
