/-! one call on both sides: workers and queues (2) -/
section WR
variable {cd : Int → Int} {N N' : Int} {r r' : Rst} {m m' : Mem} {w n : Int}
theorem Rg.fr (g : Rg r) (e : ∀ j : Nat, j = 6 ∨ j = 12 ∨ j = 16 ∨ j = 18 ∨ j = 22 ∨ j = 30 ∨ j = 32 → r' j = r j) : Rg r' := by
  unfold Rg Sz at *
  rw [e 6 (by omega), e 12 (by omega), e 16 (by omega), e 18 (by omega), e 22 (by omega), e 30 (by omega), e 32 (by omega)]
  exact g
/-- an activity changes, and whoever has it has nothing any more -/
theorem rel_offs (h : RelM r m) (g : Rg r) (w0 : 0 ≤ w) (w1 : w < r 16 0) (n0 : 0 ≤ n) (n1 : n < r 22 w) (em : ∀ i, ¬ (5100 ≤ i ∧ i < 5104) → i ≠ Rl r w + 100 + n → m' i = m i) (ewk : ∀ q, 0 ≤ q → q < 4 → m' (5100 + q) 0 = m (5100 + q) 0 ∧ m' (5100 + q) 1 = if m (5100 + q) 1 = Rl r w + 100 + n then 0 else m (5100 + q) 1) (er : ∀ (j : Nat) i, j ≠ 39 → ¬ (23 ≤ j ∧ j ≤ 28 ∧ i = 80 * w + n) → r' j i = r j i) (e39 : ∀ q, 0 ≤ q → q < 4 → r' 39 q = if r 39 q = 80 * w + n then -1 else r 39 q) (ac : ActC r' w n (m' (Rl r w + 100 + n))) : RelM r' m' := by
  have s := g.2.2 w w0 w1
  have s1 := s.1
  have eR : Rl r w = 100000 * (w + 1) + 10000 * r 12 w := rfl
  have nf : ∀ j : Nat, j ≠ 39 → ¬ (23 ≤ j ∧ j ≤ 28) → r' j = r j := fun j a b => by
    funext i
    exact er j i a (by omega)
  have ea : RelM (fun j i => if 23 ≤ j ∧ j ≤ 28 ∧ i = 80 * w + n then r' j i else r j i) (fun i => if i = Rl r w + 100 + n then m' i else m i) := by
    refine rel_act h g w0 w1 n0 n1 (fun i hi => if_f hi) ?_ (fun j i hi => if_f hi)
    show ActC _ w n (if Rl r w + 100 + n = Rl r w + 100 + n then m' (Rl r w + 100 + n) else m (Rl r w + 100 + n))
    rw [if_t rfl]
    refine ac.fr ?_ ?_ fun j a b => ?_
    · show (if _ then _ else _) = _
      rw [if_f (by omega), nf 8 (by omega) (by omega)]
    · show (if _ then _ else _) = _
      rw [if_f (by omega), nf 12 (by omega) (by omega)]
    · show (if _ then _ else _) = _
      rw [if_t ⟨a, b, rfl⟩]
  have g2 : Rg (fun j i => if 23 ≤ j ∧ j ≤ 28 ∧ i = 80 * w + n then r' j i else r j i) := g.fr fun j hj => by
    funext i
    exact if_f (by omega)
  refine rel_wk ea g2 (fun i hi => ?_) (fun j a b => ?_) (fun q a b => ?_)
  · show m' i = if i = Rl r w + 100 + n then m' i else m i
    by_cases c : i = Rl r w + 100 + n
    · rw [if_t c]
    · rw [if_f c]; exact em i hi c
  · funext i
    show r' j i = if 23 ≤ j ∧ j ≤ 28 ∧ i = 80 * w + n then r' j i else r j i
    by_cases c : 23 ≤ j ∧ j ≤ 28 ∧ i = 80 * w + n
    · rw [if_t c]
    · rw [if_f c]; exact er j i b c
  · have wk := h.2.2.2.2.1 q a b
    have iw := wk.is g w0 w1 n0 n1
    obtain ⟨k4, k5⟩ := ewk q a b
    refine ⟨by rw [em 5 (by omega) (by omega)]; exact wk.1, by rw [k4, nf 38 (by omega) (by omega)]; exact wk.2.1, ?_⟩
    rw [e39 q a b, k5, nf 16 (by omega) (by omega), nf 22 (by omega) (by omega)]
    by_cases c : r 39 q = 80 * w + n
    · rw [if_t c, if_t (iw.mpr c)]
      exact Or.inl ⟨rfl, rfl⟩
    · rw [if_f c, if_f (fun hh => c (iw.mp hh))]
      unfold Rl
      rw [nf 12 (by omega) (by omega)]
      exact wk.2.2
/-- an activity is taken off, and all that always holds goes on to hold -/
theorem GI.off (h : GI N r) (w0 : 0 ≤ w) (w1 : w < r 16 0) (n0 : 0 ≤ n) (n1 : n < r 22 w) (hw : ∀ q, 0 ≤ q → q < 4 → r 39 q = -1 ∨ ∃ w n, 0 ≤ w ∧ w < r 16 0 ∧ 0 ≤ n ∧ n < r 22 w ∧ r 39 q = 80 * w + n) (e : ∀ j : Nat, j ≠ 39 → j ≠ 23 → r' j = r j) (e23 : ∀ i, i ≠ 80 * w + n → r' 23 i = r 23 i) (e0 : r' 23 (80 * w + n) = 0) (e39 : ∀ q, 0 ≤ q → q < 4 → r' 39 q = if r 39 q = 80 * w + n then -1 else r 39 q) : GI N r' := by
  refine h.act (fun j a b c d f k l => e j l b) (fun w2 n2 a b c d f => ?_) ?_
  · by_cases i : 80 * w2 + n2 = 80 * w + n
    · rw [i]; exact e0
    · rw [e23 _ i]; exact f
  · obtain ⟨k1, k2⟩ := h.2.2.2.2.2.2.2.1
    refine ⟨fun q a b => ?_, fun w2 n2 a b c d => ?_⟩
    · rw [e 38 (by omega) (by omega), e39 q a b]
      refine ⟨(k1 q a b).1, ?_⟩
      by_cases f : r 39 q = 80 * w + n
      · rw [if_t f]; exact Or.inl rfl
      · rw [if_f f, e23 _ f]; exact (k1 q a b).2
    · rw [e 16 (by omega) (by omega)] at b
      rw [e 22 (by omega) (by omega)] at d
      rw [e 25 (by omega) (by omega), e 26 (by omega) (by omega), e 27 (by omega) (by omega), e 1 (by omega) (by omega)]
      by_cases i : 80 * w2 + n2 = 80 * w + n
      · rw [i, e0]
        exact ⟨fun f => by omega, fun f => by omega, fun f => by omega⟩
      · rw [e23 _ i]
        exact k2 w2 n2 a b c d
theorem RelM.has (h : RelM r m) : ∀ q, 0 ≤ q → q < 4 → r 39 q = -1 ∨ ∃ w n, 0 ≤ w ∧ w < r 16 0 ∧ 0 ≤ n ∧ n < r 22 w ∧ r 39 q = 80 * w + n := fun q a b => by
  rcases (h.2.2.2.2.1 q a b).2.2 with c | ⟨w, n, c1, c2, c3, c4, c5, _⟩
  · exact Or.inl c.1
  · exact Or.inr ⟨w, n, c1, c2, c3, c4, c5⟩
theorem RelC.off (h : RelC N r m) (w0 : 0 ≤ w) (w1 : w < r 16 0) (n0 : 0 ≤ n) (n1 : n < r 22 w) : ∃ m' r', X11_takeOff 1 (Rl r w + 100 + n) m = some (0, m') ∧ G_takesOff w n r = some (0, r') ∧ RelC N r' m' ∧ (∀ i, (i < 5100 ∨ 5104 ≤ i) → i ≠ Rl r w + 100 + n → m' i = m i) ∧ (∀ j, j ≠ 6 → m' (Rl r w + 100 + n) j = m (Rl r w + 100 + n) j) ∧ (∀ j : Nat, j ≠ 39 → j ≠ 23 → r' j = r j) ∧ (∀ i, i ≠ 80 * w + n → r' 23 i = r 23 i) ∧ r' 23 (80 * w + n) = 0 ∧ ∀ i, 0 ≤ i → i < 4 → r' 39 i = if r 39 i = 80 * w + n then -1 else r 39 i := by
  have g := h.2.2.rg
  obtain ⟨m', r', a1, a2, a3, a4, a5, a6, a7, a8, a9, b1⟩ := rel_off h.1 g w0 w1 n0 n1
  have lt := (h.2.2.lt w0 w1).1
  have s1 := (g.2.2 w w0 w1).1
  have s2 := (g.2.2 w w0 w1).2.1
  have eR : Rl r w = 100000 * (w + 1) + 10000 * r 12 w := rfl
  refine ⟨m', r', a1, a2, h.mk a3 (h.2.2.off w0 w1 n0 n1 h.1.has a6 a7 a8 b1) (fun w2 c d => ?_) (fun j hj => a6 j (by omega) (by omega)), a4, a5, a6, a7, a8, b1⟩
  have t1 := (g.2.2 w2 c d).1
  have t2 := (g.2.2 w2 c d).2.1
  have eR2 : Rl r w2 = 100000 * (w2 + 1) + 10000 * r 12 w2 := rfl
  refine a4 _ (by omega) ?_
  by_cases e : w2 = w
  · rw [e]; omega
  · omega
theorem g_told1 (w0 : 0 ≤ w) (w1 : w < 10) (n0 : 0 ≤ n) (n1 : n < 80) (h0 : 0 ≤ r 12 w) (h9 : r 12 w ≤ 9) : G_told (80 * w + n) r = some (1000 * w + 100 * r 12 w + n, r) := by
  have ed : (80 * w + n) / 80 = w := by omega
  have em : (80 * w + n) % 80 = n := by omega
  unfold G_told G_told_0
  rw [ed, em, chk_t (by omega), chk_t (by omega), chk_t (by omega), chk_t (by omega), chk_t (by omega), chk_t (by omega), chk_t (by omega)]
theorem c_has {k : Int} (h : RelC N r m) (tt : GT r) (h0 : cd 0 = 0) (h1 : cd 1 = 1) : CallR cd N r m (X11_has 1 k m) (G_has k r) := by
  have g := h.2.2.rg
  have b := g.1
  unfold X11_has X11_has_0 G_has G_has_0 G_has_13
  rw [chk_t (by omega), x_handOf h.1, g_isWorker, cag_e]
  by_cases c : 0 ≤ k ∧ k ≤ 3
  · have wk := h.1.2.2.2.2.1 k c.1 (by omega)
    have ez : ur r 0 0 0 39 k = r 39 k := ur_n (by omega)
    rw [if_t c, if_t c, calX_0, chk_t (by omega), if_f (show ¬ (1 : Int) = 0 by decide), g_fine0, cag_e, if_f (show ¬ (1 : Int) = 0 by decide), ez]
    rcases wk.2.2 with ⟨d1, d2⟩ | ⟨w, n, d1, d2, d3, d4, d5, d6⟩
    · rw [if_t d2, chk_t (by omega), if_t d1]
      exact CallR.ret h tt rfl rfl h0
    · have s := g.2.2 w d1 d2
      have s1 := s.1
      have s2 := s.2.1
      have lt := (h.2.2.lt d1 d2).1
      have eR : Rl r w = 100000 * (w + 1) + 10000 * r 12 w := rfl
      have ac := ((h.1.2.2.2.2.2.1 w d1 d2).2.2.2.1 n d3 d4).2
      have e12 : ur r 0 0 0 12 w = r 12 w := ur_n (by omega)
      rw [d6, if_f (by omega), chk_t (by omega), chk_t (by omega), d5, if_f (by omega), chk_t (by omega), g_told1 d1 (by omega) d3 (by omega) (by omega) (by omega), cag_e, e12]
      exact CallR.ret h tt (by rw [ac.1.2.2.2.2.2.1]) rfl h0
  · rw [if_f c, if_f c, calX_e (by decide), if_t rfl, g_fineE (by decide), cag_e, if_t rfl]
    exact CallR.thr h tt (e := 1) rfl (by rw [h1]) (Or.inl rfl)
end WR
