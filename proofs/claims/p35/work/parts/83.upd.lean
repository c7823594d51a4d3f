/-! changes of one thing, on both sides -/
section UP
variable {r r' : Rst} {m m' : Mem} {w n x : Int}
/-- a run's own row -/
theorem rel_row (h : RelM r m) (g : Rg r) (w0 : 0 ≤ w) (w1 : w < r 16 0) (em : ∀ i, i ≠ Rl r w → m' i = m i) (e0 : m' (Rl r w) 0 = m (Rl r w) 0 ∧ m' (Rl r w) 1 = m (Rl r w) 1 ∧ m' (Rl r w) 2 = m (Rl r w) 2) (e7 : m' (Rl r w) 7 = r' 17 (rw9 r w)) (lt : Lt r' m' w) (er : ∀ (j : Nat) i, ¬ ((j = 14 ∨ j = 15 ∨ j = 32) ∧ i = w ∨ j = 17 ∧ i = rw9 r w) → r' j i = r j i) : RelM r' m' := by
  have s := g.2.2 w w0 w1
  obtain ⟨s1, s2, s3, s4, s5, s6⟩ := s
  have ew : rw9 r w = 9 * w + r 12 w - 1 := rfl
  have eR : Rl r w = 100000 * (w + 1) + 10000 * r 12 w := rfl
  obtain ⟨f1, f2, f3, f4, f5⟩ := h.2.2.2.2.2.1 w w0 w1
  have u := f2 (r 12 w) s1 (Int.le_refl _)
  rw [← eR, ← ew] at u
  obtain ⟨⟨u0, u1, u2, u7, v⟩, ue⟩ := u
  have r12 : r' 12 w = r 12 w := er 12 w (by omega)
  refine h.run g w0 w1 (fun i a b => em i (by omega)) (fun i a b => em i (by omega)) (fun j i a b c => er j i (fun d => c ⟨?_, ?_⟩)) ⟨f1.fr (fun i a b => em i (by omega)) (fun j i a b => er j i (by omega)), fun k k0 k1 => ?_, lt, f4.fr s3.2 (fun i a => em i (by omega)) (fun j i a b => er j i (by omega)), f5.fr s4.2 (em _ (by omega)) (fun j i a b => er j i (by omega))⟩
  · unfold Own; omega
  · omega
  · rw [r12] at k1
    by_cases c : k = r 12 w
    · rw [c, ← eR, ← ew]
      refine ⟨⟨by rw [e0.1]; exact u0, by rw [e0.2.1]; exact u1, by rw [e0.2.2]; exact u2, e7, ?_⟩, ?_⟩
      · rw [em _ (by omega), er 18 _ (by omega)]; exact v
      · rw [em (Rl r w + 2) (by omega), em (Rl r w + 3) (by omega), em (Rl r w + 4) (by omega), er 18 _ (by omega)]
        intro e a b
        rw [er 19 _ (by omega), er 20 _ (by omega), er 21 _ (by omega)]
        exact ue e a b
    · exact (f2 k k0 k1).fr (fun i a b => em i (by omega)) (er 17 _ (by omega)) (er 18 _ (by omega)) fun j e a b _ _ => er j _ (by omega)
/-- one activity -/
theorem rel_act (h : RelM r m) (g : Rg r) (w0 : 0 ≤ w) (w1 : w < r 16 0) (n0 : 0 ≤ n) (n1 : n < r 22 w) (em : ∀ i, i ≠ Rl r w + 100 + n → m' i = m i) (ac : ActC r' w n (m' (Rl r w + 100 + n))) (er : ∀ (j : Nat) i, ¬ (23 ≤ j ∧ j ≤ 28 ∧ i = 80 * w + n) → r' j i = r j i) : RelM r' m' := by
  have s := g.2.2 w w0 w1
  obtain ⟨s1, s2, s3, s4, s5, s6⟩ := s
  have eR : Rl r w = 100000 * (w + 1) + 10000 * r 12 w := rfl
  obtain ⟨f1, f2, f3, f4, f5⟩ := h.2.2.2.2.2.1 w w0 w1
  have r12 : r' 12 w = r 12 w := er 12 w (by omega)
  have eR' : Rl r' w = Rl r w := by unfold Rl; rw [r12]
  refine h.run g w0 w1 (fun i a b => em i (by omega)) (fun i a b => em i (by omega)) (fun j i a b c => er j i (fun d => c ⟨?_, ?_⟩)) ⟨f1.fr (fun i a b => em i (by omega)) (fun j i a b => er j i (by omega)), f2.fr s2 (fun row a b => (s6 row a b).2) (fun k i a b c d => em i (by omega)) (fun j i a b => er j i (by omega)), f3.fr (em _ (by omega)) (fun j a => er j w (by omega)), fun k k0 k1 => ?_, f5.fr s4.2 (em _ (by omega)) (fun j i a b => er j i (by omega))⟩
  · unfold Own; omega
  · omega
  · rw [er 22 w (by omega)] at k1
    obtain ⟨a1, a2⟩ := f4 k k0 k1
    rw [eR', em _ (by omega)]
    refine ⟨a1, ?_⟩
    by_cases c : k = n
    · rw [c]; exact ac
    · rw [em _ (by omega)]
      exact a2.fr (er 8 w (by omega)) r12 fun j a b => er j _ (by omega)
/-- one timer -/
theorem rel_timer (h : RelM r m) (g : Rg r) (w0 : 0 ≤ w) (w1 : w < r 16 0) (n0 : 0 ≤ n) (n1 : n < r 30 w) : RelM (ur r 31 (80 * w + n) x) (upd9 m (Rl r w + 6) n x) := by
  have s := g.2.2 w w0 w1
  obtain ⟨s1, s2, s3, s4, s5, s6⟩ := s
  have eR : Rl r w = 100000 * (w + 1) + 10000 * r 12 w := rfl
  obtain ⟨f1, f2, f3, f4, f5⟩ := h.2.2.2.2.2.1 w w0 w1
  have em : ∀ i, i ≠ Rl r w + 6 → upd9 m (Rl r w + 6) n x i = m i := fun i hi => upd9_row hi
  have er : ∀ (j : Nat) i, j ≠ 31 ∨ i ≠ 80 * w + n → ur r 31 (80 * w + n) x j i = r j i := fun j i hi => ur_n hi
  have eR' : Rl (ur r 31 (80 * w + n) x) w = Rl r w := by unfold Rl; rw [er 12 w (by omega)]
  refine h.run g w0 w1 (fun i a b => em i (by omega)) (fun i a b => em i (by omega)) (fun j i a b c => er j i ?_) ⟨f1.fr (fun i a b => em i (by omega)) (fun j i a b => er j i (by omega)), f2.fr s2 (fun row a b => (s6 row a b).2) (fun k i a b c d => em i (by omega)) (fun j i a b => er j i (by omega)), f3.fr (em _ (by omega)) (fun j a => er j w (by omega)), f4.fr s3.2 (fun i a => em i (by omega)) (fun j i a b => er j i (by omega)), fun k k0 k1 => ?_⟩
  · unfold Own at c; omega
  · rw [er 30 w (by omega)] at k1
    rw [eR']
    by_cases c : k = n
    · rw [c, upd9_e rfl rfl, ur_e rfl rfl]
    · rw [upd9_n (by omega), er 31 _ (by omega)]
      exact f5 k k0 k1
/-- the workers -/
theorem rel_wk (h : RelM r m) (g : Rg r) (em : ∀ i, ¬ (5100 ≤ i ∧ i < 5104) → m' i = m i) (er : ∀ j : Nat, j ≠ 38 → j ≠ 39 → r' j = r j) (wk : ∀ q, 0 ≤ q → q < 4 → Wk r' m' q) : RelM r' m' := by
  obtain ⟨h1, h2, h3, h4, h5, h6, h7, h8⟩ := h
  have e16 : r' 16 0 = r 16 0 := by rw [er 16 (by omega) (by omega)]
  refine ⟨h1.fr ⟨em 1 (by omega), em 3 (by omega)⟩ (by rw [er 1 (by omega) (by omega)]) e16 (by rw [er 29 (by omega) (by omega)]), h2.rows (fun i a b => em i (by omega)), fun t a b => (h3 t a b).fr a b (g.2.1 t a b) (fun i c => em i (by omega)) (fun j c d => er j (by omega) (by omega)), fun q a b => (h4 q a b).fr a b (fun i c => em i (by omega)) (fun j c d => er j (by omega) (by omega)), wk, fun w a b => ?_, h7.fr (fun w a b => by rw [em _ (by omega)]) e16 (fun j c => er j (by omega) (by omega)), h8.fr (em _ (by omega)) e16 (fun t _ _ => by rw [er 6 (by omega) (by omega)]) (fun w _ _ => by rw [er 12 (by omega) (by omega)]) (fun w _ _ => by rw [er 22 (by omega) (by omega)])⟩
  rw [e16] at b
  exact (h6 w a b).fr (g.2.2 w a b) (fun i c d => em i (by omega)) fun j i c => by
    have := c.j
    rw [er j (by omega) (by omega)]
/-- the queues, the clock, what was decided so far -/
theorem rel_qu (h : RelM r m) (g : Rg r) (em : ∀ i, ¬ (5000 ≤ i ∧ i < 5100) → i ≠ 1 → m' i = m i) (e1 : ∀ j, j ≠ 6 → j ≠ 7 → m' 1 j = m 1 j) (e6 : m' 1 6 = r' 29 0) (e7 : m' 1 7 = r' 1 0) (er : ∀ j : Nat, j ≠ 35 → j ≠ 36 → j ≠ 37 → j ≠ 1 → j ≠ 29 → r' j = r j) (qu : ∀ q, 0 ≤ q → q < 2 → Qu r' m' q) : RelM r' m' := by
  obtain ⟨h1, h2, h3, h4, h5, h6, h7, h8⟩ := h
  have e16 : r' 16 0 = r 16 0 := by rw [er 16 (by omega) (by omega) (by omega) (by omega) (by omega)]
  refine ⟨?_, h2.rows (fun i a b => em i (by omega) (by omega)), fun t a b => (h3 t a b).fr a b (g.2.1 t a b) (fun i c => em i (by omega) (by omega)) (fun j c d => er j (by omega) (by omega) (by omega) (by omega) (by omega)), qu, fun q a b => (h5 q a b).fr a b (fun i c => em i (by omega) (by omega)) (er 38 (by omega) (by omega) (by omega) (by omega) (by omega)) (er 39 (by omega) (by omega) (by omega) (by omega) (by omega)) (by omega) (fun w _ _ => by rw [er 12 (by omega) (by omega) (by omega) (by omega) (by omega)]) (fun w _ _ => by rw [er 22 (by omega) (by omega) (by omega) (by omega) (by omega)]; exact Int.le_refl _), fun w a b => ?_, h7.fr (fun w a b => by rw [em _ (by omega) (by omega)]) e16 (fun j c => er j (by omega) (by omega) (by omega) (by omega) (by omega)), h8.fr (em _ (by omega) (by omega)) e16 (fun t _ _ => by rw [er 6 (by omega) (by omega) (by omega) (by omega) (by omega)]) (fun w _ _ => by rw [er 12 (by omega) (by omega) (by omega) (by omega) (by omega)]) (fun w _ _ => by rw [er 22 (by omega) (by omega) (by omega) (by omega) (by omega)])⟩
  · unfold Rt at *
    rw [e1 0 (by omega) (by omega), e1 1 (by omega) (by omega), e1 2 (by omega) (by omega), e1 3 (by omega) (by omega), e1 4 (by omega) (by omega), e1 5 (by omega) (by omega), e16, em 3 (by omega) (by omega)]
    obtain ⟨⟨a1, a2, a3, a4, a5, a6, a7, a8⟩, a9⟩ := h1
    exact ⟨⟨a1, a2, a3, a4, a5, a6, e6, e7⟩, a9⟩
  · rw [e16] at b
    exact (h6 w a b).fr (g.2.2 w a b) (fun i c d => em i (by omega) (by omega)) fun j i c => by
      have := c.j
      rw [er j (by omega) (by omega) (by omega) (by omega) (by omega)]
end UP
