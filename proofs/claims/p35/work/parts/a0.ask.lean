/-! what p35's law asks: each call answers out of the reference's fields and leaves the memory as it is -/
/-- what has() tells -/
def hasV (r : Rst) (q : Int) : Int := if r 39 q = -1 then -1 else 1000 * (r 39 q / 80) + 100 * r 12 (r 39 q / 80) + r 39 q % 80
/-- how many are ready on a queue, of the first workflows -/
def rdS (r : Rst) (q : Int) : Nat → Int
  | 0 => 0
  | n + 1 => rdS r q n + cR r q n 80
def dueV (r : Rst) (w : Int) : Int := if r 17 (rw9 r w) = 20 ∧ hk r w (r 18 (rw9 r w) - 1) < 7 then 1 else 0
section QA
variable {N : Int} {r : Rst} {m : Mem} {w k e : Int}
theorem q_parent (h : RelC N r m) (w0 : 0 ≤ w) (w1 : w < r 16 0) : X11_parent 1 w m = some (0, r 9 w, m) := by
  have g := h.2.2.rg
  have b := g.1
  have f := (h.1.2.2.2.2.2.1 w w0 w1).1
  unfold X11_parent X11_parent_0
  rw [chk_t (by omega), x_flowOf h.1 g, if_t ⟨w0, by omega⟩, calX_0, chk_t (by omega), f.1.2.2.2.2.2.2.2]
theorem q_runs (h : RelC N r m) (w0 : 0 ≤ w) (w1 : w < r 16 0) : X11_runs 1 w m = some (0, r 12 w, m) := by
  have g := h.2.2.rg
  have b := g.1
  have f := (h.1.2.2.2.2.2.1 w w0 w1).1
  unfold X11_runs X11_runs_0
  rw [chk_t (by omega), x_flowOf h.1 g, if_t ⟨w0, by omega⟩, calX_0, chk_t (by omega), f.1.2.2.2.2.2.1]
theorem q_register (h : RelC N r m) (w0 : 0 ≤ w) (w1 : w < r 16 0) : X11_register 1 w m = some (0, r 14 w, m) := by
  have g := h.2.2.rg
  have b := g.1
  have f := h.1.2.2.2.2.2.1 w w0 w1
  have s1 := (g.2.2 w w0 w1).1
  have eR : Rl r w = 100000 * (w + 1) + 10000 * r 12 w := rfl
  unfold X11_register X11_register_0
  rw [chk_t (by omega), x_flowOf h.1 g, if_t ⟨w0, by omega⟩, calX_0, chk_t (by omega), f.1.1.2.2.2.2.2.2.1, chk_t (by omega), f.2.2.1.2.2.2.1]
theorem q_place (h : RelC N r m) (w0 : 0 ≤ w) (w1 : w < r 16 0) : X11_place 1 w m = some (0, r 15 w, m) := by
  have g := h.2.2.rg
  have b := g.1
  have f := h.1.2.2.2.2.2.1 w w0 w1
  have s1 := (g.2.2 w w0 w1).1
  have eR : Rl r w = 100000 * (w + 1) + 10000 * r 12 w := rfl
  unfold X11_place X11_place_0
  rw [chk_t (by omega), x_flowOf h.1 g, if_t ⟨w0, by omega⟩, calX_0, chk_t (by omega), f.1.1.2.2.2.2.2.2.1, chk_t (by omega), f.2.2.1.2.2.2.2]
theorem q_state (h : RelC N r m) (w0 : 0 ≤ w) (w1 : w < r 16 0) (k0 : 1 ≤ k) (k1 : k ≤ r 12 w) : X11_state 1 w k m = some (0, r 17 (9 * w + k - 1), m) := by
  have g := h.2.2.rg
  have b := g.1
  have f := (h.1.2.2.2.2.2.1 w w0 w1).2.1 k k0 k1
  unfold X11_state X11_state_0
  rw [chk_t (by omega), x_runOf h.1 g, if_t ⟨⟨w0, by omega⟩, k0, k1⟩, calX_0, chk_t (by omega), f.1.2.2.2.1]
theorem q_events (h : RelC N r m) (w0 : 0 ≤ w) (w1 : w < r 16 0) (k0 : 1 ≤ k) (k1 : k ≤ r 12 w) : X11_events 1 w k m = some (0, r 18 (9 * w + k - 1), m) := by
  have g := h.2.2.rg
  have b := g.1
  have f := (h.1.2.2.2.2.2.1 w w0 w1).2.1 k k0 k1
  unfold X11_events X11_events_0
  rw [chk_t (by omega), x_runOf h.1 g, if_t ⟨⟨w0, by omega⟩, k0, k1⟩, calX_0, chk_t (by omega), f.1.1, chk_t (by omega), f.1.2.2.2.2.2.2.2]
theorem q_kind (h : RelC N r m) (w0 : 0 ≤ w) (w1 : w < r 16 0) (k0 : 1 ≤ k) (k1 : k ≤ r 12 w) (e0 : 0 ≤ e) (e1 : e < r 18 (9 * w + k - 1)) : X11_eventKind 1 w k e m = some (0, r 19 (80 * (9 * w + k - 1) + e), m) := by
  have g := h.2.2.rg
  have b := g.1
  have f := (h.1.2.2.2.2.2.1 w w0 w1).2.1 k k0 k1
  have s := g.2.2 w w0 w1
  have s2 := s.2.1
  have s6 := s.2.2.2.2.2 (9 * w + k - 1) (by omega) (by omega)
  unfold X11_eventKind X11_eventKind_0
  rw [chk_t (by omega), x_historyWith h.1 g, if_t ⟨⟨⟨w0, by omega⟩, k0, k1⟩, e0, by omega⟩, calX_0, chk_t (by omega), f.1.2.2.2.2.1, chk_t (by omega), (f.2 e e0 e1).1]
theorem q_first (h : RelC N r m) (w0 : 0 ≤ w) (w1 : w < r 16 0) (k0 : 1 ≤ k) (k1 : k ≤ r 12 w) (e0 : 0 ≤ e) (e1 : e < r 18 (9 * w + k - 1)) : X11_eventNumber 1 w k e 1 m = some (0, r 20 (80 * (9 * w + k - 1) + e), m) := by
  have g := h.2.2.rg
  have b := g.1
  have f := (h.1.2.2.2.2.2.1 w w0 w1).2.1 k k0 k1
  have s := g.2.2 w w0 w1
  have s2 := s.2.1
  have s6 := s.2.2.2.2.2 (9 * w + k - 1) (by omega) (by omega)
  unfold X11_eventNumber X11_eventNumber_0
  rw [chk_t (by omega), x_historyWith h.1 g, if_t ⟨⟨⟨w0, by omega⟩, k0, k1⟩, e0, by omega⟩, calX_0, if_f (by decide), chk_t (by omega), f.1.2.2.2.2.2.1, chk_t (by omega), (f.2 e e0 e1).2.1]
theorem q_second (h : RelC N r m) (w0 : 0 ≤ w) (w1 : w < r 16 0) (k0 : 1 ≤ k) (k1 : k ≤ r 12 w) (e0 : 0 ≤ e) (e1 : e < r 18 (9 * w + k - 1)) : X11_eventNumber 1 w k e 0 m = some (0, r 21 (80 * (9 * w + k - 1) + e), m) := by
  have g := h.2.2.rg
  have b := g.1
  have f := (h.1.2.2.2.2.2.1 w w0 w1).2.1 k k0 k1
  have s := g.2.2 w w0 w1
  have s2 := s.2.1
  have s6 := s.2.2.2.2.2 (9 * w + k - 1) (by omega) (by omega)
  unfold X11_eventNumber X11_eventNumber_0
  rw [chk_t (by omega), x_historyWith h.1 g, if_t ⟨⟨⟨w0, by omega⟩, k0, k1⟩, e0, by omega⟩, calX_0, if_t rfl, chk_t (by omega), f.1.2.2.2.2.2.2.1, chk_t (by omega), (f.2 e e0 e1).2.2]
theorem q_versions (h : RelC N r m) (k0 : 0 ≤ k) (k1 : k < 3) : X11_versions 1 k m = some (0, r 6 k, m) := by
  unfold X11_versions X11_versions_0
  rw [chk_t (by omega), x_familyOf h.1, if_t ⟨k0, by omega⟩, calX_0, chk_t (by omega), (h.1.2.2.1 k k0 k1).1.2.2.1]
theorem q_due (h : RelC N r m) (w0 : 0 ≤ w) (w1 : w < r 16 0) : X11_isDue 1 w m = some (0, dueV r w, m) := by
  have g := h.2.2.rg
  have b := g.1
  have f := h.1.2.2.2.2.2.1 w w0 w1
  have s1 := (g.2.2 w w0 w1).1
  have er : rw9 r w = 9 * w + r 12 w - 1 := rfl
  have eR : Rl r w = 100000 * (w + 1) + 10000 * r 12 w := rfl
  have u := f.2.1 (r 12 w) s1 (Int.le_refl _)
  rw [← eR, ← er] at u
  unfold X11_isDue X11_isDue_0 dueV
  rw [chk_t (by omega), x_flowOf h.1 g, if_t ⟨w0, by omega⟩, calX_0, chk_t (by omega), f.1.1.2.2.2.2.2.2.1, chk_t (by omega), u.1.2.2.2.1, x_news h.1 h.2.2 w0 w1, cal_e]
  by_cases d : r 17 (rw9 r w) = 20
  · by_cases e : hk r w (r 18 (rw9 r w) - 1) < 7
    · rw [if_t d, if_t e, if_f (by decide), if_t ⟨d, e⟩, boolX_e (by omega)]
    · rw [if_t d, if_f e, if_t rfl, if_f (fun hh => e hh.2), boolX_e (by omega)]
  · rw [if_f d, if_f (fun hh => d hh.1), boolX_e (by omega)]
theorem q_has (h : RelC N r m) (k0 : 0 ≤ k) (k1 : k < 4) : X11_has 1 k m = some (0, hasV r k, m) := by
  have g := h.2.2.rg
  have b := g.1
  have wk := h.1.2.2.2.2.1 k k0 k1
  unfold X11_has X11_has_0 hasV
  rw [chk_t (by omega), x_handOf h.1, if_t ⟨k0, by omega⟩, calX_0, chk_t (by omega)]
  rcases wk.2.2 with ⟨d1, d2⟩ | ⟨w, n, d1, d2, d3, d4, d5, d6⟩
  · rw [if_t d2, if_t d1]
  · have s := g.2.2 w d1 d2
    have s1 := s.1
    have lt := (h.2.2.lt d1 d2).1
    have eR : Rl r w = 100000 * (w + 1) + 10000 * r 12 w := rfl
    have ac := ((h.1.2.2.2.2.2.1 w d1 d2).2.2.2.1 n d3 d4).2
    have e1 : (80 * w + n) / 80 = w := by omega
    have e2 : (80 * w + n) % 80 = n := by omega
    rw [d6, if_f (by omega), chk_t (by omega), ac.1.2.2.2.2.2.1, d5, if_f (by omega), e1, e2]
theorem rdS_ok {q : Int} : ∀ {n : Nat}, 0 ≤ rdS r q n ∧ rdS r q n ≤ 80 * n
  | 0 => ⟨Int.le_refl _, Int.le_refl _⟩
  | n + 1 => by
    have h1 := rdS_ok (q := q) (n := n)
    have h2 := cR_le (r := r) (q := q) (w := n) (n := 80)
    rw [rdS]
    omega
theorem q_ready8 {q : Int} (h : RelM r m) (g : Rg r) : ∀ (j t : Nat) (c w : Int), r 16 0 - w = j → 0 ≤ w → 0 ≤ c → c ≤ 80 * w → j < t → X11_ready_8 t 1 q c w m = some (0, c + (rdS r q (r 16 0).toNat - rdS r q w.toNat), m) := by
  have f9 := fuel9_ge
  have b := g.1
  have e5 : m 1 5 = r 16 0 := h.1.1.2.2.2.2.2.1
  have e1 : m 1 1 = 3 := h.1.1.2.1
  intro j
  induction j with
  | zero =>
    intro t c w h0 h1 h2 h3 h4
    obtain ⟨t, rfl⟩ : ∃ k, t = k + 1 := ⟨t - 1, by omega⟩
    rw [X11_ready_8, chk_t (by omega), e5, if_t (by omega), show r 16 0 = w by omega, Int.sub_self, Int.add_zero]
  | succ j ih =>
    intro t c w h0 h1 h2 h3 h4
    obtain ⟨t, rfl⟩ : ∃ k, t = k + 1 := ⟨t - 1, by omega⟩
    have w1 : w < r 16 0 := by omega
    have f := h.2.2.2.2.2.1 w h1 w1
    have s := g.2.2 w h1 w1
    have s1 := s.1
    have s3 := s.2.2.1
    have eR : Rl r w = 100000 * (w + 1) + 10000 * r 12 w := rfl
    have cl := cR_le (r := r) (q := q) (w := w) (n := 80)
    have ca : cR r q w (r 22 w).toNat = cR r q w 80 := by
      have := cR_act (r := r) (q := q) (w := w) (n := (r 22 w).toNat) (by omega) (t := 80 - (r 22 w).toNat)
      rw [show (r 22 w).toNat + (80 - (r 22 w).toNat) = 80 by omega] at this
      exact this.symm
    have xc := x_count (q := q) h g h1 w1 fuel9 0 0 (by omega) s3.1 (by omega) (by omega) (by omega)
    rw [show cR r q w (0 : Int).toNat = 0 from rfl, Int.sub_zero, Int.zero_add, ca] at xc
    have rs : rdS r q (w + 1).toNat = rdS r q w.toNat + cR r q w 80 := by
      rw [show (w + 1).toNat = w.toNat + 1 by omega, rdS, show ((w.toNat : Nat) : Int) = w by omega]
    rw [X11_ready_8, chk_t (by omega), e5, if_f (by omega), e1, chk_t (by omega), h.1.2 w h1 w1, chk_t (by omega), f.1.1.2.2.2.2.2.2.1, chk_t (by omega)]
    unfold X7_countReady X7_countReady_0
    rw [xc, cal_e, chk_t (by omega), chk_t (by omega), ih t _ (w + 1) (by omega) (by omega) (by omega) (by omega) (by omega), rs]
    congr 2
    congr 1
    omega
theorem q_ready {q : Int} (h : RelC N r m) (q0 : 0 ≤ q) (q1 : q < 2) : X11_ready 1 q m = some (0, rdS r q (r 16 0).toNat, m) := by
  have f9 := fuel9_ge
  have b := h.2.2.rg.1
  have y := q_ready8 (q := q) h.1 h.2.2.rg (r 16 0).toNat fuel9 0 0 (by omega) (by omega) (by omega) (by omega) (by omega)
  unfold X11_ready X11_ready_0 X11_checkQueue X11_checkQueue_0
  rw [x_isWithin, cal_e, if_t (show 0 ≤ q ∧ q ≤ 1 by omega), if_f (by decide), calX_0, y, show rdS r q (0 : Int).toNat = 0 from rfl, Int.sub_zero, Int.zero_add]
theorem q_found26 {p lo hi : Int} (h : RelM r m) (g : Rg r) (hp : 0 ≤ p ∧ p ≤ 1) : ∀ (t : Nat) (c l : Int), 0 ≤ l → l ≤ r 16 0 → 0 ≤ c → c ≤ l → r 16 0 - l < t → ∃ v, X11_found_26 t 1 p lo hi c l m = some (0, v, m) ∧ v ≤ r 16 0 := by
  have b := g.1
  have e5 : m 1 5 = r 16 0 := h.1.1.2.2.2.2.2.1
  have e1 : m 1 1 = 3 := h.1.1.2.1
  intro t
  induction t with
  | zero => intro c l h0 h1 h2 h3 h4; omega
  | succ t ih =>
    intro c l h0 h1 h2 h3 h4
    rw [X11_found_26, chk_t (by omega), e5]
    by_cases d : r 16 0 ≤ l
    · rw [if_t d]; exact ⟨c, rfl, by omega⟩
    · have f := h.2.2.2.2.2.1 l h0 (by omega)
      have s := g.2.2 l h0 (by omega)
      have s1 := s.1
      have eR : Rl r l = 100000 * (l + 1) + 10000 * r 12 l := rfl
      rw [if_f d, e1, h.1.2 l h0 (by omega), chk_t (by omega), chk_t (by omega), f.1.1.2.2.2.2.2.2.1, chk_t (by omega)]
      obtain ⟨v0, y0⟩ := ih c (l + 1) (by omega) (by omega) h2 (by omega) (by omega)
      obtain ⟨v1, y1⟩ := ih (c + 1) (l + 1) (by omega) (by omega) (by omega) (by omega) (by omega)
      by_cases k : m (Rl r l) 7 = 20
      · rw [if_t k, chk_t (by omega), f.1.1.2.2.2.1, chk_t (by omega), x_isWithin, cal_e]
        by_cases e : lo ≤ m (100000 * (l + 1) + 1) p ∧ m (100000 * (l + 1) + 1) p ≤ hi
        · rw [if_t e, if_f (by decide), chk_t (by omega), chk_t (by omega)]
          exact ⟨v1, y1⟩
        · rw [if_f e, if_t rfl, chk_t (by omega)]
          exact ⟨v0, y0⟩
      · rw [if_f k, chk_t (by omega)]
        exact ⟨v0, y0⟩
theorem q_found (h : RelC N r m) : ∃ v, X11_found 1 0 (-999) 999 m = some (0, v, m) ∧ v ≤ r 16 0 := by
  have f9 := fuel9_ge
  have b := h.2.2.rg.1
  obtain ⟨v, y1, y2⟩ := q_found26 (p := 0) (lo := -999) (hi := 999) h.1 h.2.2.rg (by omega) fuel9 0 0 (by omega) (by omega) (by omega) (by omega) (by omega)
  unfold X11_found X11_found_0 X11_checkProperty X11_checkProperty_0
  rw [x_isWithin, cal_e, if_t (show (0 : Int) ≤ 0 ∧ (0 : Int) ≤ 1 by omega), if_f (show ¬ (1 : Int) = 0 by decide), calX_0, if_t (show (-999 : Int) ≤ 999 by decide), y1]
  exact ⟨v, rfl, y2⟩
end QA
