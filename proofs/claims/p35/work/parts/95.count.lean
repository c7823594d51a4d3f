/-! one call on both sides: found, ready -/
section CT
variable {cd : Int → Int} {N : Int} {r r' : Rst} {m m' : Mem} {w n : Int}
theorem found_loop {p lo hi : Int} (h : RelM r m) (g : Rg r) (hp : 0 ≤ p ∧ p ≤ 1) : ∀ (t : Nat) (c l : Int), 0 ≤ l → l ≤ r 16 0 → 0 ≤ c → c ≤ l → r 16 0 - l < t → ∃ v, X11_found_26 t 1 p lo hi c l m = some (0, v, m) ∧ G_found_34 t p lo hi c l r = some (v, r) := by
  have b := g.1
  have e5 : m 1 5 = r 16 0 := h.1.1.2.2.2.2.2.1
  have e1 : m 1 1 = 3 := h.1.1.2.1
  intro t
  induction t with
  | zero => intro c l h0 h1 h2 h3 h4; omega
  | succ t ih =>
    intro c l h0 h1 h2 h3 h4
    rw [X11_found_26, G_found_34, chk_t (by omega), e5]
    by_cases d : r 16 0 ≤ l
    · rw [if_t d, if_t d]; exact ⟨c, rfl, rfl⟩
    · have f := h.2.2.2.2.2.1 l h0 (by omega)
      have s := g.2.2 l h0 (by omega)
      have s1 := s.1
      have s2 := s.2.1
      have er : rw9 r l = 9 * l + r 12 l - 1 := rfl
      have eR : Rl r l = 100000 * (l + 1) + 10000 * r 12 l := rfl
      have u := f.2.1 (r 12 l) s1 (Int.le_refl _)
      rw [← eR, ← er] at u
      rw [if_f d, if_f d, e1, h.1.2 l h0 (by omega), chk_t (by omega), chk_t (by omega), f.1.1.2.2.2.2.2.2.1, chk_t (by omega), u.1.2.2.2.1, g_isRunning h0 (by omega) s1 s2, cag_e, Int.add_zero]
      obtain ⟨v0, y0⟩ := ih c (l + 1) (by omega) (by omega) h2 (by omega) (by omega)
      obtain ⟨v1, y1⟩ := ih (c + 1) (l + 1) (by omega) (by omega) (by omega) (by omega) (by omega)
      by_cases k : r 17 (rw9 r l) = 20
      · have ep : m (100000 * (l + 1) + 1) p = r 13 (2 * l + p) := by
          rcases (show p = 0 ∨ p = 1 by omega) with e | e
          · rw [e, f.1.2.2.1.1, Int.add_zero]
          · rw [e, f.1.2.2.1.2]
        rw [if_t k, if_t k, if_f (show ¬ (1 : Int) = 0 by decide), chk_t (by omega), f.1.1.2.2.2.1, chk_t (by omega), ep, x_isWithin, cal_e, chk_t (by omega), chk_t (by omega), chk_t (by omega), g_isIn, cag_e]
        by_cases e : lo ≤ r 13 (2 * l + p) ∧ r 13 (2 * l + p) ≤ hi
        · rw [if_t e, if_f (show ¬ (1 : Int) = 0 by decide), if_f (show ¬ (1 : Int) = 0 by decide), chk_t (by omega), chk_t (by omega), chk_t (by omega), chk_t (by omega), chk_t (by omega)]
          exact ⟨v1, y1⟩
        · rw [if_f e, if_t rfl, if_t rfl, chk_t (by omega), chk_t (by omega), chk_t (by omega), chk_t (by omega), chk_t (by omega)]
          exact ⟨v0, y0⟩
      · rw [if_f k, if_f k, if_t rfl, chk_t (by omega), chk_t (by omega), chk_t (by omega)]
        exact ⟨v0, y0⟩
theorem c_found {p lo hi : Int} (h : RelC N r m) (tt : GT r) (h0 : cd 0 = 0) (h2 : cd 2 = 1) : CallR cd N r m (X11_found 1 p lo hi m) (G_found p lo hi r) := by
  have f9 := fuel9_ge
  have b := h.2.2.rg.1
  unfold X11_found X11_found_0 G_found G_found_0 G_found_20 X11_checkProperty X11_checkProperty_0
  rw [x_isWithin, cal_e, g_isIn, cag_e]
  by_cases c : 0 ≤ p ∧ p ≤ 1
  · rw [if_t c, if_f (show ¬ (1 : Int) = 0 by decide), if_f (show ¬ (1 : Int) = 0 by decide), calX_0]
    by_cases d : lo ≤ hi
    · have hz := h.z0
      obtain ⟨v, y1, y2⟩ := found_loop (p := p) (lo := lo) (hi := hi) hz.1 hz.2.2.rg c fuel9 0 0 (by omega) (by rw [ur_n (by omega)]; omega) (by omega) (by omega) (by rw [ur_n (by omega)]; omega)
      rw [if_t d, if_t d, g_fine0, cag_e, if_f (by decide), y1, y2]
      exact CallR.ret h tt rfl rfl h0
    · rw [if_f d, if_f d, g_fineE (by decide), cag_e, if_t rfl]
      exact CallR.thr h tt (e := 2) rfl (by rw [h2]) (by omega)
  · rw [if_f c, if_t rfl, if_t rfl, calX_e (by decide), g_fineE (by decide), cag_e, if_t rfl]
    exact CallR.thr h tt (e := 2) rfl (by rw [h2]) (by omega)
/-- how many are ready, of the first ones -/
def cR (r : Rst) (q w : Int) : Nat → Int
  | 0 => 0
  | n + 1 => cR r q w n + if (n : Int) < r 22 w ∧ r 23 (80 * w + n) = 1 ∧ r 24 (80 * w + n) = q then 1 else 0
theorem cR_le {q w : Int} : ∀ {n : Nat}, 0 ≤ cR r q w n ∧ cR r q w n ≤ n
  | 0 => ⟨Int.le_refl _, Int.le_refl _⟩
  | n + 1 => by
    have := cR_le (q := q) (w := w) (n := n)
    rw [cR]
    split <;> omega
theorem cR_act {q w : Int} {n : Nat} (h0 : r 22 w ≤ n) : ∀ {t : Nat}, cR r q w (n + t) = cR r q w n
  | 0 => rfl
  | t + 1 => by
    rw [show n + (t + 1) = (n + t) + 1 from rfl, cR, cR_act h0 (t := t), if_f (by omega)]
    exact Int.add_zero _
/-- one activity is ready on a queue, on both sides -/
theorem x_isReady {q : Int} (h : RelM r m) (w0 : 0 ≤ w) (w1 : w < r 16 0) (n0 : 0 ≤ n) (n1 : n < r 22 w) (g : Rg r) : X0_isReadyOn (Rl r w + 100 + n) q m = some (if r 23 (80 * w + n) = 1 ∧ r 24 (80 * w + n) = q then 1 else 0, m) := by
  have ac := ((h.2.2.2.2.2.1 w w0 w1).2.2.2.1 n n0 n1).2
  have s1 := (g.2.2 w w0 w1).1
  have eR : Rl r w = 100000 * (w + 1) + 10000 * r 12 w := rfl
  unfold X0_isReadyOn X0_isReadyOn_0
  rw [chk_t (by omega)]
  have e2 := ac.1.2.2.1
  have e6 : m (Rl r w + 100 + n) 6 = 0 ↔ r 23 (80 * w + n) = 1 := by
    rcases ac.2 with a | a | a | a <;> omega
  by_cases c : r 23 (80 * w + n) = 1
  · rw [if_t (e6.mpr c), e2]
    by_cases d : r 24 (80 * w + n) = q
    · rw [if_t d, boolR_e (by omega), if_t ⟨c, d⟩]
    · rw [if_f d, boolR_e (by omega), if_f (fun hh => d hh.2)]
  · rw [if_f (fun hh => c (e6.mp hh)), boolR_e (by omega), if_f (fun hh => c hh.1)]
theorem g_isReady1 {q : Int} (w0 : 0 ≤ w) (w1 : w < 10) (n0 : 0 ≤ n) (n1 : n < 80) : G_isReady (80 * w + n) q r = some (if n < r 22 w ∧ r 23 (80 * w + n) = 1 ∧ r 24 (80 * w + n) = q then 1 else 0, r) := by
  have ed : (80 * w + n) / 80 = w := by omega
  have emd : (80 * w + n) % 80 = n := by omega
  unfold G_isReady G_isReady_0
  rw [chk_t (by omega), chk_t (by omega), ed, emd, chk_t (by omega)]
  by_cases c : r 22 w ≤ n
  · rw [if_t c, boolG_e (by omega), if_f (by omega)]
  · rw [if_f c, chk_t (by omega)]
    by_cases d : r 23 (80 * w + n) = 1
    · rw [if_t d, chk_t (by omega)]
      by_cases e : r 24 (80 * w + n) = q
      · rw [if_t e, boolG_e (by omega), if_t ⟨by omega, d, e⟩]
      · rw [if_f e, boolG_e (by omega), if_f (fun hh => e hh.2.2)]
    · rw [if_f d, boolG_e (by omega), if_f (fun hh => d hh.2.1)]
theorem x_count {q : Int} (h : RelM r m) (g : Rg r) (w0 : 0 ≤ w) (w1 : w < r 16 0) : ∀ (t : Nat) (c l : Int), 0 ≤ l → l ≤ r 22 w → 0 ≤ c → c ≤ 1000 + l → r 22 w - l < t → X7_countReady_4 t (Rl r w) q c l m = some (c + (cR r q w (r 22 w).toNat - cR r q w l.toNat), m) := by
  have s := g.2.2 w w0 w1
  have s1 := s.1
  have s3 := s.2.2.1
  have f := h.2.2.2.2.2.1 w w0 w1
  have eR : Rl r w = 100000 * (w + 1) + 10000 * r 12 w := rfl
  have u := f.2.1 (r 12 w) s1 (Int.le_refl _)
  rw [← eR] at u
  have e3 : m (Rl r w) 3 = r 22 w := f.2.2.1.1
  intro t
  induction t with
  | zero => intro c l h0 h1 h2 h3 h4; omega
  | succ t ih =>
    intro c l h0 h1 h2 h3 h4
    rw [X7_countReady_4, chk_t (by omega), e3]
    by_cases d : r 22 w ≤ l
    · rw [if_t d, show l = r 22 w by omega, Int.sub_self, Int.add_zero]
    · have cn : cR r q w (l + 1).toNat = cR r q w l.toNat + if r 23 (80 * w + l) = 1 ∧ r 24 (80 * w + l) = q then 1 else 0 := by
        rw [show (l + 1).toNat = l.toNat + 1 by omega, cR, show ((l.toNat : Nat) : Int) = l by omega]
        congr 1
        by_cases k : r 23 (80 * w + l) = 1 ∧ r 24 (80 * w + l) = q
        · rw [if_t k, if_t ⟨by omega, k⟩]
        · rw [if_f k, if_f (fun hh => k hh.2)]
      rw [if_f d, u.1.2.1, chk_t (by omega), (f.2.2.2.1 l h0 (by omega)).1, chk_t (by omega), x_isReady h w0 w1 h0 (by omega) g, cal_e]
      by_cases k : r 23 (80 * w + l) = 1 ∧ r 24 (80 * w + l) = q
      · rw [if_t k] at cn
        rw [if_t k, if_f (by decide), chk_t (by omega), chk_t (by omega), ih (c + 1) (l + 1) (by omega) (by omega) (by omega) (by omega) (by omega), cn]
        congr 2
        omega
      · rw [if_f k] at cn
        rw [if_f k, if_t rfl, chk_t (by omega), ih c (l + 1) (by omega) (by omega) (by omega) (by omega) (by omega), cn, Int.add_zero]
theorem g_count {q : Int} (g : Rg r) (w0 : 0 ≤ w) (w1 : w < r 16 0) : ∀ (j t : Nat) (c n : Int), 80 - n = j → 0 ≤ n → 0 ≤ c → c ≤ 100000 + n → G_ready_25 (t + j) q c (80 * w + n) r = G_ready_25 t q (c + (cR r q w 80 - cR r q w n.toNat)) (80 * (w + 1)) r := by
  have b := g.1
  intro j
  induction j with
  | zero =>
    intro t c n h0 h1 h2 h3
    have : n = 80 := by omega
    subst this
    rw [Nat.add_zero, show (80 : Int).toNat = 80 from rfl, Int.sub_self, Int.add_zero, show 80 * w + 80 = 80 * (w + 1) by omega]
  | succ j ih =>
    intro t c n h0 h1 h2 h3
    have cl := cR_le (r := r) (q := q) (w := w) (n := n.toNat)
    have cl2 := cR_le (r := r) (q := q) (w := w) (n := 80)
    have cn : cR r q w (n + 1).toNat = cR r q w n.toNat + if n < r 22 w ∧ r 23 (80 * w + n) = 1 ∧ r 24 (80 * w + n) = q then 1 else 0 := by
      rw [show (n + 1).toNat = n.toNat + 1 by omega, cR, show ((n.toNat : Nat) : Int) = n by omega]
    rw [show t + (j + 1) = (t + j) + 1 from rfl, G_ready_25, chk_t (by omega), if_f (by omega), g_isReady1 w0 (by omega) h1 (by omega), cag_e, Int.add_zero]
    by_cases k : n < r 22 w ∧ r 23 (80 * w + n) = 1 ∧ r 24 (80 * w + n) = q
    · rw [if_t k] at cn
      rw [if_t k, if_f (by decide), chk_t (by omega), chk_t (by omega), Int.add_assoc (80 * w) n 1]
      rw [ih t (c + 1) (n + 1) (by omega) (by omega) (by omega) (by omega), cn]
      congr 1
      omega
    · rw [if_f k] at cn
      rw [if_f k, if_t rfl, chk_t (by omega), chk_t (by omega), Int.add_assoc (80 * w) n 1, ih t c (n + 1) (by omega) (by omega) h2 (by omega), cn, Int.add_zero]
theorem ready_loop {q : Int} (h : RelM r m) (g : Rg r) : ∀ (j t1 t2 : Nat) (c w : Int), r 16 0 - w = j → 0 ≤ w → 0 ≤ c → c ≤ 80 * w → (j : Int) < t1 → 80 * (j : Int) < t2 → ∃ v, X11_ready_8 t1 1 q c w m = some (0, v, m) ∧ G_ready_25 t2 q c (80 * w) r = some (v, r) := by
  have f9 := fuel9_ge
  have b := g.1
  have e5 : m 1 5 = r 16 0 := h.1.1.2.2.2.2.2.1
  have e1 : m 1 1 = 3 := h.1.1.2.1
  intro j
  induction j with
  | zero =>
    intro t1 t2 c w h0 h1 h2 h3 h4 h5
    obtain ⟨t1, rfl⟩ : ∃ k, t1 = k + 1 := ⟨t1 - 1, by omega⟩
    obtain ⟨t2, rfl⟩ : ∃ k, t2 = k + 1 := ⟨t2 - 1, by omega⟩
    rw [X11_ready_8, G_ready_25, chk_t (by omega), e5, if_t (by omega), chk_t (by omega), if_t (by omega)]
    exact ⟨c, rfl, rfl⟩
  | succ j ih =>
    intro t1 t2 c w h0 h1 h2 h3 h4 h5
    obtain ⟨t1, rfl⟩ : ∃ k, t1 = k + 1 := ⟨t1 - 1, by omega⟩
    obtain ⟨t2, rfl⟩ : ∃ k, t2 = k + 80 := ⟨t2 - 80, by omega⟩
    have w1 : w < r 16 0 := by omega
    have f := h.2.2.2.2.2.1 w h1 w1
    have s := g.2.2 w h1 w1
    have s1 := s.1
    have s2 := s.2.1
    have s3 := s.2.2.1
    have eR : Rl r w = 100000 * (w + 1) + 10000 * r 12 w := rfl
    have cl := cR_le (r := r) (q := q) (w := w) (n := 80)
    have ca : cR r q w (r 22 w).toNat = cR r q w 80 := by
      have := cR_act (r := r) (q := q) (w := w) (n := (r 22 w).toNat) (by omega) (t := 80 - (r 22 w).toNat)
      rw [show (r 22 w).toNat + (80 - (r 22 w).toNat) = 80 by omega] at this
      exact this.symm
    have gc := g_count (q := q) g h1 w1 80 t2 c 0 (by omega) (by omega) h2 (by omega)
    rw [Int.add_zero, show cR r q w (0 : Int).toNat = 0 from rfl, Int.sub_zero] at gc
    have xc := x_count (q := q) h g h1 w1 fuel9 0 0 (by omega) s3.1 (by omega) (by omega) (by omega)
    rw [show cR r q w (0 : Int).toNat = 0 from rfl, Int.sub_zero, Int.zero_add, ca] at xc
    rw [X11_ready_8, chk_t (by omega), e5, if_f (by omega), e1, chk_t (by omega), h.1.2 w h1 w1, chk_t (by omega), f.1.1.2.2.2.2.2.2.1, chk_t (by omega)]
    unfold X7_countReady X7_countReady_0
    rw [xc, cal_e, chk_t (by omega), chk_t (by omega), gc]
    exact ih t1 t2 _ (w + 1) (by omega) (by omega) (by omega) (by omega) (by omega) (by omega)
theorem c_ready {q : Int} (h : RelC N r m) (tt : GT r) (h0 : cd 0 = 0) (h1 : cd 1 = 1) : CallR cd N r m (X11_ready 1 q m) (G_ready q r) := by
  have f9 := fuel9_ge
  have b := h.2.2.rg.1
  unfold X11_ready X11_ready_0 G_ready G_ready_0 G_ready_13 X11_checkQueue X11_checkQueue_0
  rw [x_isWithin, cal_e, g_isQueue, cag_e]
  by_cases c : 0 ≤ q ∧ q ≤ 1
  · have hz := h.z0
    have e16 : ur r 0 0 0 16 0 = r 16 0 := ur_n (by omega)
    obtain ⟨v, y1, y2⟩ := ready_loop (q := q) hz.1 hz.2.2.rg (r 16 0).toNat fuel9 fuel9 0 0 (by rw [e16]; omega) (by omega) (by omega) (by omega) (by omega) (by omega)
    rw [show 80 * (0 : Int) = 0 from rfl] at y2
    rw [if_t c, if_f (show ¬ (1 : Int) = 0 by decide), if_f (show ¬ (1 : Int) = 0 by decide), calX_0, g_fine0, cag_e, if_f (by decide), y1, y2]
    exact CallR.ret h tt rfl rfl h0
  · rw [if_f c, if_t rfl, if_t rfl, calX_e (by decide), g_fineE (by decide), cag_e, if_t rfl]
    exact CallR.thr h tt (e := 1) rfl (by rw [h1]) (by omega)
end CT
