/-! one call on both sides: what only asks -/
/-- what a call leaves of the rest, and what room it takes -/
def Fq (r : Rst) (m : Mem) (r' : Rst) (m' : Mem) : Prop := (∀ i, 10 ≤ i → i ≤ 94 → m' i = m i) ∧ m' (-3) = m (-3) ∧ m' (-4) = m (-4) ∧ m' (-2) 0 ≤ m (-2) 0 + 100 + 10 * (r' 16 0 - r 16 0) ∧ m' (-2) 1 ≤ m (-2) 1 + 2000 + 700 * (r' 16 0 - r 16 0)
def CallR (cd : Int → Int) (N : Int) (r : Rst) (m : Mem) (o : Option R3) (g : Option G2) : Prop := ∃ e v m' v' r', o = some (e, v, m') ∧ g = some (v', r') ∧ (e = 0 ∨ e = 1 ∨ e = 2 ∨ e = 3) ∧ r' 0 0 = cd e ∧ (e = 0 → v' = v) ∧ RelC (N + 1) r' m' ∧ GT r' ∧ Fq r m r' m'
theorem thr_row {m : Mem} {i : Int} (h : i ≠ -2) : thr9 m i = m i := by
  funext b
  unfold thr9
  rw [if_f (fun hh => h hh.1), if_f (fun hh => h hh.1)]
theorem thr_c {m : Mem} : thr9 m (-2) 0 = m (-2) 0 + 1 ∧ thr9 m (-2) 1 = m (-2) 1 + 6 := by
  unfold thr9
  refine ⟨by rw [if_t ⟨rfl, rfl⟩], by rw [if_f (by decide), if_t ⟨rfl, rfl⟩]⟩
theorem GI.mono {N N' : Int} {r : Rst} (h : GI N r) (k : N ≤ N') : GI N' r := by
  obtain ⟨a1, a2, a3, a4, a5, a6, a7, a8, b1, b2, b3, b4⟩ := h
  exact ⟨a1, a2, a3, a4, a5, a6, a7, a8, by omega, by omega, fun q c d => by have := b3 q c d; omega, fun q c d => by have := b4 q c d; omega⟩
theorem RelC.mono {N N' : Int} {r : Rst} {m : Mem} (h : RelC N r m) (k : N ≤ N') : RelC N' r m := ⟨h.1, h.2.1, h.2.2.mono k⟩
theorem RelC.f0 {N v : Int} {r : Rst} {m : Mem} (h : RelC N r m) : RelC (N + 1) (ur r 0 0 v) m := (h.fr h.1.2.1 (fun _ _ => rfl) fun j hj => ur_ne (by omega)).mono (by omega)
theorem RelC.thr {N : Int} {r : Rst} {m : Mem} (h : RelC N r m) : RelC N r (thr9 m) := h.fr (h.1.2.1.rows fun i a b => thr_row (by omega)) (fun i hi => thr_row (by omega)) fun j hj => rfl
theorem g_fine0 {r : Rst} : G_isFine 0 r = some (1, ur r 0 0 0) := by rw [g_isFine, if_t rfl]
theorem g_fineE {t : Int} {r : Rst} (h : t ≠ 0) : G_isFine t r = some (0, ur r 0 0 t) := by rw [g_isFine, if_f h]
section CL
variable {cd : Int → Int} {N : Int} {r : Rst} {m : Mem} {o : Option R3} {g : Option G2}
theorem CallR.thr (h : RelC N r m) (t : GT r) {e v : Int} (ho : o = some (e, 0, thr9 m)) (hg : g = some (v, ur r 0 0 (cd e))) (he : e = 1 ∨ e = 2 ∨ e = 3) : CallR cd N r m o g := by
  refine ⟨e, 0, _, v, _, ho, hg, Or.inr he, ur_e rfl rfl, fun h => by omega, h.thr.f0, t.fr fun j hj => ur_ne (by omega), fun i a b => thr_row (by omega), thr_row (by omega), thr_row (by omega), ?_, ?_⟩
  · rw [thr_c.1, ur_n (by omega)]; omega
  · rw [thr_c.2, ur_n (by omega)]; omega
theorem CallR.ret (h : RelC N r m) (t : GT r) {v : Int} (ho : o = some (0, v, m)) (hg : g = some (v, ur r 0 0 0)) (h0 : cd 0 = 0) : CallR cd N r m o g := by
  refine ⟨0, v, m, v, _, ho, hg, Or.inl rfl, by rw [h0]; exact ur_e rfl rfl, fun _ => rfl, h.f0, t.fr fun j hj => ur_ne (by omega), fun i a b => rfl, rfl, rfl, ?_, ?_⟩
  · rw [ur_n (by omega)]; omega
  · rw [ur_n (by omega)]; omega
theorem x_flowOf {w : Int} (h : RelM r m) (g : Rg r) : X11_flowOf 1 w m = some (if 0 ≤ w ∧ w ≤ r 16 0 - 1 then (0, 100000 * (w + 1), m) else (1, 0, thr9 m)) := by
  have b := g.1
  have e5 : m 1 5 = r 16 0 := h.1.1.2.2.2.2.2.1
  unfold X11_flowOf X11_flowOf_0
  rw [chk_t (by omega), e5, chk_t (by omega), x_isWithin, cal_e]
  by_cases c : 0 ≤ w ∧ w ≤ r 16 0 - 1
  · have e1 : m 1 1 = 3 := h.1.1.2.1
    rw [if_t c, if_f (by decide), chk_t (by omega), e1, h.1.2 w c.1 (by omega), if_t c]
  · rw [if_f c, if_t rfl, if_f c]
theorem g_flow {w : Int} (g : Rg r) : G_isFlow w r = some (if 0 ≤ w ∧ w ≤ r 16 0 - 1 then 1 else 0, r) := g_isFlow g.1.1 g.1.2
theorem c_parent {w : Int} (h : RelC N r m) (tt : GT r) (h0 : cd 0 = 0) (h1 : cd 1 = 1) : CallR cd N r m (X11_parent 1 w m) (G_parent w r) := by
  have g := h.2.2.rg
  have b := g.1
  unfold X11_parent X11_parent_0 G_parent G_parent_0 G_parent_14
  rw [chk_t (by omega), x_flowOf h.1 g, g_flow g, cag_e]
  by_cases c : 0 ≤ w ∧ w ≤ r 16 0 - 1
  · rw [if_t c, if_t c, calX_0, chk_t (by omega), if_f (by decide), g_fine0, cag_e, if_f (by decide), chk_t (by omega)]
    have f := (h.1.2.2.2.2.2.1 w c.1 (by omega)).1
    exact CallR.ret h tt (by rw [f.1.2.2.2.2.2.2.2]) (by rw [ur_n (by omega)]) h0
  · rw [if_f c, if_f c, calX_e (by decide), if_t rfl, g_fineE (by decide), cag_e, if_t rfl]
    exact CallR.thr h tt (e := 1) rfl (by rw [h1]) (Or.inl rfl)
theorem c_runs {w : Int} (h : RelC N r m) (tt : GT r) (h0 : cd 0 = 0) (h1 : cd 1 = 1) : CallR cd N r m (X11_runs 1 w m) (G_runs w r) := by
  have g := h.2.2.rg
  have b := g.1
  unfold X11_runs X11_runs_0 G_runs G_runs_0 G_runs_14
  rw [chk_t (by omega), x_flowOf h.1 g, g_flow g, cag_e]
  by_cases c : 0 ≤ w ∧ w ≤ r 16 0 - 1
  · rw [if_t c, if_t c, calX_0, chk_t (by omega), if_f (by decide), g_fine0, cag_e, if_f (by decide), chk_t (by omega)]
    have f := (h.1.2.2.2.2.2.1 w c.1 (by omega)).1
    exact CallR.ret h tt (by rw [f.1.2.2.2.2.2.1]) (by rw [ur_n (by omega)]) h0
  · rw [if_f c, if_f c, calX_e (by decide), if_t rfl, g_fineE (by decide), cag_e, if_t rfl]
    exact CallR.thr h tt (e := 1) rfl (by rw [h1]) (Or.inl rfl)
theorem c_register {w : Int} (h : RelC N r m) (tt : GT r) (h0 : cd 0 = 0) (h1 : cd 1 = 1) : CallR cd N r m (X11_register 1 w m) (G_register w r) := by
  have g := h.2.2.rg
  have b := g.1
  unfold X11_register X11_register_0 G_register G_register_0 G_register_14
  rw [chk_t (by omega), x_flowOf h.1 g, g_flow g, cag_e]
  by_cases c : 0 ≤ w ∧ w ≤ r 16 0 - 1
  · have f := h.1.2.2.2.2.2.1 w c.1 (by omega)
    have s := g.2.2 w c.1 (by omega)
    have s1 := s.1
    have eR : Rl r w = 100000 * (w + 1) + 10000 * r 12 w := rfl
    rw [if_t c, if_t c, calX_0, chk_t (by omega), f.1.1.2.2.2.2.2.2.1, chk_t (by omega), if_f (by decide), g_fine0, cag_e, if_f (by decide), chk_t (by omega)]
    exact CallR.ret h tt (by rw [f.2.2.1.2.2.2.1]) (by rw [ur_n (by omega)]) h0
  · rw [if_f c, if_f c, calX_e (by decide), if_t rfl, g_fineE (by decide), cag_e, if_t rfl]
    exact CallR.thr h tt (e := 1) rfl (by rw [h1]) (Or.inl rfl)
theorem c_place {w : Int} (h : RelC N r m) (tt : GT r) (h0 : cd 0 = 0) (h1 : cd 1 = 1) : CallR cd N r m (X11_place 1 w m) (G_place w r) := by
  have g := h.2.2.rg
  have b := g.1
  unfold X11_place X11_place_0 G_place G_place_0 G_place_14
  rw [chk_t (by omega), x_flowOf h.1 g, g_flow g, cag_e]
  by_cases c : 0 ≤ w ∧ w ≤ r 16 0 - 1
  · have f := h.1.2.2.2.2.2.1 w c.1 (by omega)
    have s := g.2.2 w c.1 (by omega)
    have s1 := s.1
    have eR : Rl r w = 100000 * (w + 1) + 10000 * r 12 w := rfl
    rw [if_t c, if_t c, calX_0, chk_t (by omega), f.1.1.2.2.2.2.2.2.1, chk_t (by omega), if_f (by decide), g_fine0, cag_e, if_f (by decide), chk_t (by omega)]
    exact CallR.ret h tt (by rw [f.2.2.1.2.2.2.2]) (by rw [ur_n (by omega)]) h0
  · rw [if_f c, if_f c, calX_e (by decide), if_t rfl, g_fineE (by decide), cag_e, if_t rfl]
    exact CallR.thr h tt (e := 1) rfl (by rw [h1]) (Or.inl rfl)
/-- a run that there is, or none -/
theorem x_runOf {w k : Int} (h : RelM r m) (g : Rg r) : X11_runOf 1 w k m = some (if (0 ≤ w ∧ w ≤ r 16 0 - 1) ∧ 1 ≤ k ∧ k ≤ r 12 w then (0, 100000 * (w + 1) + 10000 * k, m) else (1, 0, thr9 m)) := by
  have b := g.1
  unfold X11_runOf X11_runOf_0
  rw [chk_t (by omega), x_flowOf h g]
  by_cases c : 0 ≤ w ∧ w ≤ r 16 0 - 1
  · have f := (h.2.2.2.2.2.1 w c.1 (by omega)).1
    have s := g.2.2 w c.1 (by omega)
    have s2 := s.2.1
    rw [if_t c, calX_0, chk_t (by omega), f.1.2.2.2.2.2.1, x_isWithin, cal_e]
    by_cases d : 1 ≤ k ∧ k ≤ r 12 w
    · rw [if_t d, if_f (by decide), chk_t (by omega), f.1.2.2.2.2.1, chk_t (by omega), f.2.2.2 k d.1 d.2, if_t ⟨c, d⟩]
    · rw [if_f d, if_t rfl, if_f (fun hh => d hh.2)]
  · rw [if_f c, calX_e (by decide), if_f (fun hh => c hh.1)]
theorem g_isRun {w k : Int} (g : Rg r) : G_isRun w k r = some (if (0 ≤ w ∧ w ≤ r 16 0 - 1) ∧ 1 ≤ k ∧ k ≤ r 12 w then 1 else 0, r) := by
  have b := g.1
  unfold G_isRun G_isRun_0
  rw [g_flow g, cag_e]
  by_cases c : 0 ≤ w ∧ w ≤ r 16 0 - 1
  · rw [if_t c, if_f (by decide), chk_t (by omega), g_isIn, cag_e]
    by_cases d : 1 ≤ k ∧ k ≤ r 12 w
    · rw [if_t d, if_f (by decide), boolG_e (Or.inr rfl), if_t ⟨c, d⟩]
    · rw [if_f d, if_t rfl, boolG_e (Or.inl rfl), if_f (fun hh => d hh.2)]
  · rw [if_f c, if_t rfl, boolG_e (Or.inl rfl), if_f (fun hh => c hh.1)]
theorem c_state {w k : Int} (h : RelC N r m) (tt : GT r) (h0 : cd 0 = 0) (h1 : cd 1 = 1) : CallR cd N r m (X11_state 1 w k m) (G_state w k r) := by
  have g := h.2.2.rg
  have b := g.1
  unfold X11_state X11_state_0 G_state G_state_0 G_state_15
  rw [chk_t (by omega), x_runOf h.1 g, g_isRun g, cag_e]
  by_cases c : (0 ≤ w ∧ w ≤ r 16 0 - 1) ∧ 1 ≤ k ∧ k ≤ r 12 w
  · have f := (h.1.2.2.2.2.2.1 w c.1.1 (by omega)).2.1 k c.2.1 c.2.2
    have s := g.2.2 w c.1.1 (by omega)
    have s2 := s.2.1
    rw [if_t c, if_t c, calX_0, chk_t (by omega), if_f (by decide), g_fine0, cag_e, if_f (by decide), chk_t (by omega), chk_t (by omega), chk_t (by omega), chk_t (by omega)]
    exact CallR.ret h tt (by rw [f.1.2.2.2.1]) (by rw [ur_n (by omega)]) h0
  · rw [if_f c, if_f c, calX_e (by decide), if_t rfl, g_fineE (by decide), cag_e, if_t rfl]
    exact CallR.thr h tt (e := 1) rfl (by rw [h1]) (Or.inl rfl)
theorem c_events {w k : Int} (h : RelC N r m) (tt : GT r) (h0 : cd 0 = 0) (h1 : cd 1 = 1) : CallR cd N r m (X11_events 1 w k m) (G_events w k r) := by
  have g := h.2.2.rg
  have b := g.1
  unfold X11_events X11_events_0 G_events G_events_0 G_events_15
  rw [chk_t (by omega), x_runOf h.1 g, g_isRun g, cag_e]
  by_cases c : (0 ≤ w ∧ w ≤ r 16 0 - 1) ∧ 1 ≤ k ∧ k ≤ r 12 w
  · have f := (h.1.2.2.2.2.2.1 w c.1.1 (by omega)).2.1 k c.2.1 c.2.2
    have s := g.2.2 w c.1.1 (by omega)
    have s2 := s.2.1
    rw [if_t c, if_t c, calX_0, chk_t (by omega), f.1.1, chk_t (by omega), if_f (by decide), g_fine0, cag_e, if_f (by decide), chk_t (by omega), chk_t (by omega), chk_t (by omega), chk_t (by omega)]
    exact CallR.ret h tt (by rw [f.1.2.2.2.2.2.2.2]) (by rw [ur_n (by omega)]) h0
  · rw [if_f c, if_f c, calX_e (by decide), if_t rfl, g_fineE (by decide), cag_e, if_t rfl]
    exact CallR.thr h tt (e := 1) rfl (by rw [h1]) (Or.inl rfl)
/-- an event that there is, or none -/
theorem x_historyWith {w k e : Int} (h : RelM r m) (g : Rg r) : X11_historyWith 1 w k e m = some (if ((0 ≤ w ∧ w ≤ r 16 0 - 1) ∧ 1 ≤ k ∧ k ≤ r 12 w) ∧ 0 ≤ e ∧ e ≤ r 18 (9 * w + k - 1) - 1 then (0, 100000 * (w + 1) + 10000 * k + 1, m) else (1, 0, thr9 m)) := by
  have b := g.1
  unfold X11_historyWith X11_historyWith_0
  rw [chk_t (by omega), x_runOf h g]
  by_cases c : (0 ≤ w ∧ w ≤ r 16 0 - 1) ∧ 1 ≤ k ∧ k ≤ r 12 w
  · have f := (h.2.2.2.2.2.1 w c.1.1 (by omega)).2.1 k c.2.1 c.2.2
    have s := g.2.2 w c.1.1 (by omega)
    have s2 := s.2.1
    have s6 := s.2.2.2.2.2 (9 * w + k - 1) (by omega) (by omega)
    rw [if_t c, calX_0, chk_t (by omega), f.1.1, chk_t (by omega), f.1.2.2.2.2.2.2.2, chk_t (by omega), x_isWithin, cal_e]
    by_cases d : 0 ≤ e ∧ e ≤ r 18 (9 * w + k - 1) - 1
    · rw [if_t d, if_f (by decide), if_t ⟨c, d⟩]
    · rw [if_f d, if_t rfl, if_f (fun hh => d hh.2)]
  · rw [if_f c, calX_e (by decide), if_f (fun hh => c hh.1)]
theorem g_isEvent {w k e : Int} (g : Rg r) : G_isEvent w k e r = some (if ((0 ≤ w ∧ w ≤ r 16 0 - 1) ∧ 1 ≤ k ∧ k ≤ r 12 w) ∧ 0 ≤ e ∧ e ≤ r 18 (9 * w + k - 1) - 1 then 1 else 0, r) := by
  have b := g.1
  unfold G_isEvent G_isEvent_0
  rw [g_isRun g, cag_e]
  by_cases c : (0 ≤ w ∧ w ≤ r 16 0 - 1) ∧ 1 ≤ k ∧ k ≤ r 12 w
  · have s := g.2.2 w c.1.1 (by omega)
    have s2 := s.2.1
    have s6 := s.2.2.2.2.2 (9 * w + k - 1) (by omega) (by omega)
    rw [if_t c, if_f (by decide), chk_t (by omega), chk_t (by omega), chk_t (by omega), chk_t (by omega), chk_t (by omega), g_isIn, cag_e]
    by_cases d : 0 ≤ e ∧ e ≤ r 18 (9 * w + k - 1) - 1
    · rw [if_t d, if_f (by decide), boolG_e (Or.inr rfl), if_t ⟨c, d⟩]
    · rw [if_f d, if_t rfl, boolG_e (Or.inl rfl), if_f (fun hh => d hh.2)]
  · rw [if_f c, if_t rfl, boolG_e (Or.inl rfl), if_f (fun hh => c hh.1)]
theorem c_eventKind {w k e : Int} (h : RelC N r m) (tt : GT r) (h0 : cd 0 = 0) (h1 : cd 1 = 1) : CallR cd N r m (X11_eventKind 1 w k e m) (G_eventKind w k e r) := by
  have g := h.2.2.rg
  have b := g.1
  unfold X11_eventKind X11_eventKind_0 G_eventKind G_eventKind_0 G_eventKind_16
  rw [chk_t (by omega), x_historyWith h.1 g, g_isEvent g, cag_e]
  by_cases c : ((0 ≤ w ∧ w ≤ r 16 0 - 1) ∧ 1 ≤ k ∧ k ≤ r 12 w) ∧ 0 ≤ e ∧ e ≤ r 18 (9 * w + k - 1) - 1
  · have f := (h.1.2.2.2.2.2.1 w c.1.1.1 (by omega)).2.1 k c.1.2.1 c.1.2.2
    have s := g.2.2 w c.1.1.1 (by omega)
    have s2 := s.2.1
    have s6 := s.2.2.2.2.2 (9 * w + k - 1) (by omega) (by omega)
    rw [if_t c, if_t c, calX_0, chk_t (by omega), f.1.2.2.2.2.1, chk_t (by omega), if_f (by decide), g_fine0, cag_e, if_f (by decide), chk_t (by omega), chk_t (by omega), chk_t (by omega), chk_t (by omega), chk_t (by omega), chk_t (by omega)]
    exact CallR.ret h tt (by rw [(f.2 e c.2.1 (by omega)).1]) (by rw [ur_n (by omega)]) h0
  · rw [if_f c, if_f c, calX_e (by decide), if_t rfl, g_fineE (by decide), cag_e, if_t rfl]
    exact CallR.thr h tt (e := 1) rfl (by rw [h1]) (Or.inl rfl)
theorem c_eventNumber {w k e i : Int} (h : RelC N r m) (tt : GT r) (h0 : cd 0 = 0) (h1 : cd 1 = 1) : CallR cd N r m (X11_eventNumber 1 w k e i m) (G_eventNumber w k e i r) := by
  have g := h.2.2.rg
  have b := g.1
  unfold X11_eventNumber X11_eventNumber_0 G_eventNumber G_eventNumber_0 G_eventNumber_16
  rw [chk_t (by omega), x_historyWith h.1 g, g_isEvent g, cag_e]
  by_cases c : ((0 ≤ w ∧ w ≤ r 16 0 - 1) ∧ 1 ≤ k ∧ k ≤ r 12 w) ∧ 0 ≤ e ∧ e ≤ r 18 (9 * w + k - 1) - 1
  · have f := (h.1.2.2.2.2.2.1 w c.1.1.1 (by omega)).2.1 k c.1.2.1 c.1.2.2
    have s := g.2.2 w c.1.1.1 (by omega)
    have s2 := s.2.1
    have s6 := s.2.2.2.2.2 (9 * w + k - 1) (by omega) (by omega)
    rw [if_t c, if_t c, calX_0, if_f (show ¬ (1 : Int) = 0 by decide), g_fine0, cag_e, if_f (show ¬ (1 : Int) = 0 by decide)]
    by_cases d : i = 0
    · rw [if_t d, if_t d, chk_t (by omega), f.1.2.2.2.2.2.2.1, chk_t (by omega), chk_t (by omega), chk_t (by omega), chk_t (by omega), chk_t (by omega), chk_t (by omega), chk_t (by omega)]
      exact CallR.ret h tt (by rw [(f.2 e c.2.1 (by omega)).2.2]) (by rw [ur_n (by omega)]) h0
    · rw [if_f d, if_f d, chk_t (by omega), f.1.2.2.2.2.2.1, chk_t (by omega), chk_t (by omega), chk_t (by omega), chk_t (by omega), chk_t (by omega), chk_t (by omega), chk_t (by omega)]
      exact CallR.ret h tt (by rw [(f.2 e c.2.1 (by omega)).2.1]) (by rw [ur_n (by omega)]) h0
  · rw [if_f c, if_f c, calX_e (by decide), if_t rfl, g_fineE (by decide), cag_e, if_t rfl]
    exact CallR.thr h tt (e := 1) rfl (by rw [h1]) (Or.inl rfl)
theorem x_familyOf {t : Int} (h : RelM r m) : X11_familyOf 1 t m = some (if 0 ≤ t ∧ t ≤ 2 then (0, 1000 * (t + 1), m) else (1, 0, thr9 m)) := by
  unfold X11_familyOf X11_familyOf_0
  rw [x_isWithin, cal_e]
  by_cases c : 0 ≤ t ∧ t ≤ 2
  · have e0 : m 1 0 = 2 := h.1.1.1
    rw [if_t c, if_f (by decide), chk_t (by omega), e0, chk_t (by omega), (h.2.2.1 t c.1 (by omega)).1.1, if_t c]
  · rw [if_f c, if_t rfl, if_f c]
theorem c_versions {t : Int} (h : RelC N r m) (tt : GT r) (h0 : cd 0 = 0) (h1 : cd 1 = 1) : CallR cd N r m (X11_versions 1 t m) (G_versions t r) := by
  unfold X11_versions X11_versions_0 G_versions G_versions_0 G_versions_13
  rw [chk_t (by omega), x_familyOf h.1, g_isType, cag_e]
  by_cases c : 0 ≤ t ∧ t ≤ 2
  · rw [if_t c, if_t c, calX_0, chk_t (by omega), if_f (by decide), g_fine0, cag_e, if_f (by decide), chk_t (by omega)]
    exact CallR.ret h tt (by rw [(h.1.2.2.1 t c.1 (by omega)).1.2.2.1]) (by rw [ur_n (by omega)]) h0
  · rw [if_f c, if_f c, calX_e (by decide), if_t rfl, g_fineE (by decide), cag_e, if_t rfl]
    exact CallR.thr h tt (e := 1) rfl (by rw [h1]) (Or.inl rfl)
/-- something has happened behind the latest decision -/
theorem x_news {w : Int} (h : RelM r m) (gi : GI N r) (w0 : 0 ≤ w) (w1 : w < r 16 0) : X7_hasNews (Rl r w) m = some (if hk r w (r 18 (rw9 r w) - 1) < 7 then 1 else 0, m) := by
  have g := gi.rg
  have s := g.2.2 w w0 w1
  have s1 := s.1
  have s2 := s.2.1
  have lt := gi.lt w0 w1
  have er : rw9 r w = 9 * w + r 12 w - 1 := rfl
  have eR : Rl r w = 100000 * (w + 1) + 10000 * r 12 w := rfl
  have u := (h.2.2.2.2.2.1 w w0 w1).2.1 (r 12 w) s1 (Int.le_refl _)
  rw [← eR, ← er] at u
  unfold X7_hasNews X7_hasNews_0
  rw [chk_t (by omega), u.1.1, chk_t (by omega), u.1.2.2.2.2.2.2.2, chk_t (by omega), if_f (by omega), if_f (by omega), u.1.2.2.2.2.1, chk_t (by omega), (u.2 (r 18 (rw9 r w) - 1) (by omega) (by omega)).1]
  by_cases c : hk r w (r 18 (rw9 r w) - 1) < 7
  · have c' : r 19 (80 * rw9 r w + (r 18 (rw9 r w) - 1)) < 7 := c
    rw [if_t c, if_f (by omega), boolR_e (Or.inr rfl)]
  · have c' : ¬ r 19 (80 * rw9 r w + (r 18 (rw9 r w) - 1)) < 7 := c
    rw [if_f c, if_t (by omega), boolR_e (Or.inl rfl)]
theorem g_due {w : Int} (gi : GI N r) (w0 : 0 ≤ w) (w1 : w < r 16 0) : G_isDueNow w r = some (if r 17 (rw9 r w) = 20 ∧ hk r w (r 18 (rw9 r w) - 1) < 7 then 1 else 0, r) := by
  have g := gi.rg
  have b := g.1
  have s := g.2.2 w w0 w1
  have s1 := s.1
  have s2 := s.2.1
  have lt := gi.lt w0 w1
  have er : rw9 r w = 9 * w + r 12 w - 1 := rfl
  unfold G_isDueNow G_isDueNow_0
  rw [g_rowOfRun w0 (by omega) (by omega) s2, cag_e, g_isRunning w0 (by omega) s1 s2, cag_e]
  by_cases c : r 17 (rw9 r w) = 20
  · rw [if_t c, if_f (by decide), chk_t (by omega), chk_t (by omega), chk_t (by omega), chk_t (by omega), chk_t (by omega)]
    have e : 80 * rw9 r w + r 18 (rw9 r w) - 1 = 80 * rw9 r w + (r 18 (rw9 r w) - 1) := by omega
    rw [e]
    by_cases d : hk r w (r 18 (rw9 r w) - 1) < 7
    · have d' : r 19 (80 * rw9 r w + (r 18 (rw9 r w) - 1)) < 7 := d
      rw [if_f (by omega), boolG_e (Or.inr rfl), if_t ⟨c, d⟩]
    · have d' : ¬ r 19 (80 * rw9 r w + (r 18 (rw9 r w) - 1)) < 7 := d
      rw [if_t (show 7 ≤ r 19 (80 * rw9 r w + (r 18 (rw9 r w) - 1)) by omega), boolG_e (Or.inl rfl), if_f (fun hh => d hh.2)]
  · rw [if_f c, if_t rfl, boolG_e (Or.inl rfl), if_f (fun hh => c hh.1)]
end CL
