/-! one call on both sides: tick (rests) -/
section TW
variable {cd : Int → Int} {N : Int} {r r' : Rst} {m m' : Mem} {w n q k : Int}
theorem RelC.wake (h : RelC N r m) (w0 : 0 ≤ w) (w1 : w < r 16 0) (n0 : 0 ≤ n) (n1 : n < r 22 w) (how : r 23 (80 * w + n) = 3) (cl : r 26 (80 * w + n) = r 1 0) : RelC N (ur r 23 (80 * w + n) 1) (upd9 (upd9 m (Rl r w + 100 + n) 6 0) (Rl r w + 100 + n) 7 (r 1 0)) := by
  have g := h.2.2.rg
  have b10 := g.1
  have s1 := (g.2.2 w w0 w1).1
  have s2 := (g.2.2 w w0 w1).2.1
  have lt := (h.2.2.lt w0 w1).1
  have eR : Rl r w = 100000 * (w + 1) + 10000 * r 12 w := rfl
  have ac := ((h.1.2.2.2.2.2.1 w w0 w1).2.2.2.1 n n0 n1).2
  have gk := h.2.2.gk
  have g25 := (gk.2 w n w0 w1 n0 n1).2.2 how
  refine h.mk (rel_act h.1 g w0 w1 n0 n1 (fun i hi => by rw [upd9_row hi, upd9_row hi]) ?_ (fun j i hi => ur_n (by omega))) (h.2.2.act (fun j a b c d e f l => ur_ne b) (fun w2 n2 a b c d e => by rw [ur_n (Or.inr fun hh => by rw [hh] at e; omega)]; exact e) ⟨fun q a b => ?_, fun w2 n2 a b c d => ?_⟩) (fun w2 a b => ?_) fun j hj => ur_ne (by omega)
  · unfold ActC Rl at *
    simp (disch := omega) only [ur_n, ur_e, upd9_n, upd9_e]
    obtain ⟨⟨a1, a2, a3, a4, a5, a6, a7⟩, _⟩ := ac
    exact ⟨⟨a1, a2, a3, a4, a5, a6, a7⟩, Or.inl ⟨trivial, trivial, cl.symm⟩⟩
  · have kq := gk.1 q a b
    rw [ur_ne (by omega), ur_ne (by omega)]
    refine ⟨kq.1, ?_⟩
    rcases kq.2 with e | e
    · exact Or.inl e
    · right
      rw [ur_n (Or.inr fun hh => by rw [hh] at e; omega)]
      exact e
  · rw [ur_ne (by omega)] at b
    rw [ur_ne (by omega)] at d
    rw [ur_ne (j := 23) (a := 25) (by omega), ur_ne (j := 23) (a := 26) (by omega), ur_ne (j := 23) (a := 27) (by omega), ur_ne (j := 23) (a := 1) (by omega)]
    by_cases i : 80 * w2 + n2 = 80 * w + n
    · rw [i, ur_e rfl rfl]
      exact ⟨fun _ => ⟨by omega, by omega⟩, fun f => by omega, fun f => by omega⟩
    · rw [ur_n (by omega)]
      exact gk.2 w2 n2 a b c d
  · have t1 := (g.2.2 w2 a b).1
    have t2 := (g.2.2 w2 a b).2.1
    have eR2 : Rl r w2 = 100000 * (w2 + 1) + 10000 * r 12 w2 := rfl
    have : Rl r w2 ≠ Rl r w + 100 + n := by
      by_cases e : w2 = w
      · rw [e]; omega
      · omega
    rw [upd9_row this, upd9_row this]
/-- what waking leaves -/
def Tg (r : Rst) (m : Mem) (r' : Rst) (m' : Mem) : Prop := (∀ i, i < 5000 → m' i = m i) ∧ (∀ j : Nat, j ≠ 23 → r' j = r j) ∧ ∀ i, r' 23 i = 2 ↔ r 23 i = 2
theorem Tg.rf : Tg r m r m := ⟨fun _ _ => rfl, fun _ _ => rfl, fun _ => Iff.rfl⟩
theorem Tg.tr {r1 : Rst} {m1 : Mem} (h : Tg r m r1 m1) (k : Tg r1 m1 r' m') : Tg r m r' m' := ⟨fun i hi => (k.1 i hi).trans (h.1 i hi), fun j a => (k.2.1 j a).trans (h.2.1 j a), fun i => (k.2.2 i).trans (h.2.2 i)⟩
theorem wake_seg : ∀ (d t1 t2 : Nat) (n : Int) (r : Rst) (m : Mem), RelC N r m → 0 ≤ w → w < r 16 0 → r 22 w - n = d → 0 ≤ n → (d : Int) < t1 → Wz r (80 * w + n) → ∃ m' r', X7_wakeActivities_2 t1 (Rl r w) (r 1 0) n m = some (0, m') ∧ G_ticksOnce_165 (t2 + d) (80 * w + n) r = G_ticksOnce_165 t2 (80 * w + r 22 w) r' ∧ RelC N r' m' ∧ Tg r m r' m' ∧ Wz r' (80 * w + r 22 w) := by
  intro d
  induction d with
  | zero =>
    intro t1 t2 n r m h w0 w1 c0 c1 c2 lz
    obtain ⟨t1, rfl⟩ : ∃ k, t1 = k + 1 := ⟨t1 - 1, by omega⟩
    have g := h.2.2.rg
    have s1 := (g.2.2 w w0 w1).1
    have eR : Rl r w = 100000 * (w + 1) + 10000 * r 12 w := rfl
    have e3 : m (Rl r w) 3 = r 22 w := (h.1.2.2.2.2.2.1 w w0 w1).2.2.1.1
    have en : n = r 22 w := by omega
    rw [X7_wakeActivities_2, chk_t (by omega), e3, if_t (by omega), en]
    exact ⟨m, r, rfl, rfl, h, Tg.rf, by rw [← en]; exact lz⟩
  | succ d ih =>
    intro t1 t2 n r m h w0 w1 c0 c1 c2 lz
    obtain ⟨t1, rfl⟩ : ∃ k, t1 = k + 1 := ⟨t1 - 1, by omega⟩
    have g := h.2.2.rg
    have b10 := g.1
    have s := g.2.2 w w0 w1
    have s1 := s.1
    have s2 := s.2.1
    have lt := (h.2.2.lt w0 w1).1
    have eR : Rl r w = 100000 * (w + 1) + 10000 * r 12 w := rfl
    have f := h.1.2.2.2.2.2.1 w w0 w1
    have u := f.2.1 (r 12 w) s1 (Int.le_refl _)
    rw [← eR] at u
    have e3 : m (Rl r w) 3 = r 22 w := f.2.2.1.1
    have n1 : n < r 22 w := by omega
    have acn := f.2.2.2.1 n c1 n1
    have ac := acn.2
    have ed : (80 * w + n) / 80 = w := by omega
    have emd : (80 * w + n) % 80 = n := by omega
    have gk := h.2.2.gk.2 w n w0 w1 c1 n1
    have keep : (r 23 (80 * w + n) = 3 → r 1 0 ≠ r 26 (80 * w + n)) → Wz r (80 * w + (n + 1)) := fun hh w2 n2 a b c e f => by
      by_cases i : 80 * w2 + n2 = 80 * w + n
      · rw [i]; exact hh
      · exact lz w2 n2 a b c e (by omega)
    have na : ∀ k : Nat, (r 23 (80 * w + n) = 3 → r 1 0 ≠ r 26 (80 * w + n)) → ∃ m' r', X7_wakeActivities_2 t1 (Rl r w) (r 1 0) (n + 1) m = some (0, m') ∧ G_ticksOnce_220 (G_ticksOnce_165 (t2 + d)) (80 * w + n) 0 r = G_ticksOnce_165 t2 (80 * w + r 22 w) r' ∧ RelC N r' m' ∧ Tg r m r' m' ∧ Wz r' (80 * w + r 22 w) := fun _ hh => by
      unfold G_ticksOnce_220
      rw [if_t rfl, chk_t (by omega), chk_t (by omega), ur_same rfl, stg_e, chk_t (by omega), Int.add_assoc (80 * w) n 1]
      exact ih t1 t2 (n + 1) r m h w0 w1 (by omega) (by omega) (by omega) (keep hh)
    rw [X7_wakeActivities_2, chk_t (by omega), e3, if_f (by omega), u.1.2.1, chk_t (by omega), acn.1, chk_t (by omega), show t2 + (d + 1) = (t2 + d) + 1 from rfl, G_ticksOnce_165, ed, emd, chk_t (by omega), if_f (show ¬ 80 * r 16 0 ≤ 80 * w + n by omega), chk_t (by omega), chk_t (by omega), chk_t (by omega), if_f (show ¬ r 22 w ≤ n by omega), chk_t (by omega)]
    unfold X0_wake X0_wake_0
    by_cases e : r 23 (80 * w + n) = 3
    · have a6 : m (Rl r w + 100 + n) 6 = 2 := by rcases ac.2 with a | a | a | a <;> omega
      have a8 : m (Rl r w + 100 + n) 8 = r 26 (80 * w + n) := by rcases ac.2 with a | a | a | a <;> omega
      have gk2 := (gk.2.2 e).2
      rw [if_t e, chk_t (by omega), if_t a6, a8]
      by_cases l : r 26 (80 * w + n) = r 1 0
      · have hw := h.wake w0 w1 c1 n1 e l
        rw [if_t l, if_f (by omega), chk_t (by omega), st_e, st_e, cal_e, chk_t (by omega)]
        have tg : Tg r m (ur r 23 (80 * w + n) 1) (upd9 (upd9 m (Rl r w + 100 + n) 6 0) (Rl r w + 100 + n) 7 (r 1 0)) := ⟨fun i hi => by rw [upd9_row (by omega), upd9_row (by omega)], fun j hj => ur_ne hj, fun i => by
          by_cases hi : i = 80 * w + n
          · rw [ur_e rfl hi, hi]; omega
          · rw [ur_n (Or.inr hi)]⟩
        have v23 : ur r 23 (80 * w + n) 1 23 (80 * w + n) = 1 := ur_e rfl rfl
        have vo : ∀ i, i ≠ 80 * w + n → ur r 23 (80 * w + n) 1 23 i = r 23 i := fun i hi => ur_n (Or.inr hi)
        unfold G_ticksOnce_220
        rw [if_f (by decide), chk_t (by omega), stg_e, chk_t (by omega), Int.add_assoc (80 * w) n 1]
        generalize upd9 (upd9 m (Rl r w + 100 + n) 6 0) (Rl r w + 100 + n) 7 (r 1 0) = m1 at *
        generalize ur r 23 (80 * w + n) 1 = r1 at *
        have e1 := tg.2.1 1 (by omega)
        have e16 := tg.2.1 16 (by omega)
        have e22 := tg.2.1 22 (by omega)
        have e12 := tg.2.1 12 (by omega)
        have e26 := tg.2.1 26 (by omega)
        obtain ⟨m', r', z1, z2, z3, z4, z5⟩ := ih t1 t2 (n + 1) r1 m1 hw w0 (by rw [e16]; exact w1) (by rw [e22]; omega) (by omega) (by omega) (fun w2 n2 a b c e f i => by
          rw [e16] at b
          rw [e22] at e
          rw [e1, e26]
          by_cases hi : 80 * w2 + n2 = 80 * w + n
          · rw [hi] at i; omega
          · rw [vo _ hi] at i
            exact lz w2 n2 a b c e (by omega) i)
        rw [show Rl r1 w = Rl r w by unfold Rl; rw [e12], e1] at z1
        rw [e22] at z2 z5
        exact ⟨m', r', z1, z2, z3, tg.tr z4, z5⟩
      · rw [if_f l, if_t (by omega), cal_e, chk_t (by omega), chk_t (by omega)]
        exact na 0 fun _ hh => l hh.symm
    · have a6 : ¬ m (Rl r w + 100 + n) 6 = 2 := by rcases ac.2 with a | a | a | a <;> omega
      rw [if_f e, chk_t (by omega), if_f a6, cal_e, chk_t (by omega)]
      exact na 0 fun hh => absurd hh e
theorem wake_skip (g : Rg r) (w0 : 0 ≤ w) (w1 : w < r 16 0) : ∀ (d t2 : Nat) (n : Int), 80 - n = d → 0 ≤ n → r 22 w ≤ n → G_ticksOnce_165 (t2 + d) (80 * w + n) r = G_ticksOnce_165 t2 (80 * (w + 1)) r := by
  have b10 := g.1
  intro d
  induction d with
  | zero => intro t2 n c0 c1 c2; rw [show 80 * w + n = 80 * (w + 1) by omega, Nat.add_zero]
  | succ d ih =>
    intro t2 n c0 c1 c2
    have ed : (80 * w + n) / 80 = w := by omega
    have emd : (80 * w + n) % 80 = n := by omega
    rw [show t2 + (d + 1) = (t2 + d) + 1 from rfl, G_ticksOnce_165, ed, emd, chk_t (by omega), if_f (show ¬ 80 * r 16 0 ≤ 80 * w + n by omega), chk_t (by omega), chk_t (by omega), chk_t (by omega), if_t c2]
    unfold G_ticksOnce_220
    rw [if_t rfl, chk_t (by omega), chk_t (by omega), ur_same rfl, stg_e, chk_t (by omega), Int.add_assoc (80 * w) n 1]
    exact ih t2 (n + 1) (by omega) (by omega) (by omega)
theorem wake_all : ∀ (d t1 t2 : Nat) (w : Int) (r : Rst) (m : Mem), RelC N r m → r 16 0 - w = d → 0 ≤ w → (d : Int) < t1 → 80 * (d : Int) < t2 → Wz r (80 * w) → ∃ m' r', X11_passTick_96 t1 1 w m = some (0, m') ∧ G_ticksOnce_165 t2 (80 * w) r = some (0, r') ∧ RelC N r' m' ∧ Tg r m r' m' ∧ Wz r' 800 := by
  have f9 := fuel9_ge
  intro d
  induction d with
  | zero =>
    intro t1 t2 w r m h c0 c1 c2 c3 lz
    obtain ⟨t1, rfl⟩ : ∃ k, t1 = k + 1 := ⟨t1 - 1, by omega⟩
    obtain ⟨t2, rfl⟩ : ∃ k, t2 = k + 1 := ⟨t2 - 1, by omega⟩
    have g := h.2.2.rg
    have b10 := g.1
    have e5 : m 1 5 = r 16 0 := h.1.1.1.2.2.2.2.2.1
    rw [X11_passTick_96, G_ticksOnce_165, chk_t (by omega), e5, if_t (by omega), chk_t (by omega), if_t (by omega)]
    refine ⟨m, r, rfl, rfl, h, Tg.rf, fun w2 n2 a b c e f => lz w2 n2 a b c e ?_⟩
    have := (h.2.2.lt a b).1
    omega
  | succ d ih =>
    intro t1 t2 w r m h c0 c1 c2 c3 lz
    obtain ⟨t1, rfl⟩ : ∃ k, t1 = k + 1 := ⟨t1 - 1, by omega⟩
    have g := h.2.2.rg
    have b10 := g.1
    have e5 : m 1 5 = r 16 0 := h.1.1.1.2.2.2.2.2.1
    have e1 : m 1 1 = 3 := h.1.1.1.2.1
    have e7 : m 1 7 = r 1 0 := h.1.1.1.2.2.2.2.2.2.2
    have w1 : w < r 16 0 := by omega
    have s1 := (g.2.2 w c1 w1).1
    have lt := (h.2.2.lt c1 w1).1
    have s2 := (g.2.2 w c1 w1).2.1
    have eR : Rl r w = 100000 * (w + 1) + 10000 * r 12 w := rfl
    have f := h.1.2.2.2.2.2.1 w c1 w1
    obtain ⟨t3, ht3⟩ : ∃ k : Nat, t2 = (k + (80 - r 22 w).toNat) + (r 22 w).toNat := ⟨t2 - 80, by omega⟩
    rw [X11_passTick_96, chk_t (by omega), e5, if_f (by omega), e1, chk_t (by omega), h.1.1.2 w c1 w1, chk_t (by omega), f.1.1.2.2.2.2.2.2.1, chk_t (by omega), e7]
    obtain ⟨m1, r1, y1, y2, y3, y4, y5⟩ := wake_seg (w := w) (r 22 w).toNat fuel9 (t3 + (80 - r 22 w).toNat) 0 r m h c1 w1 (by omega) (by omega) (by omega) (by rw [Int.add_zero]; exact lz)
    rw [Int.add_zero, ← ht3] at y2
    unfold X7_wakeActivities X7_wakeActivities_0
    have e16 := y4.2.1 16 (by omega)
    have e22 := y4.2.1 22 (by omega)
    rw [y1, cal_e, chk_t (by omega), y2, wake_skip y3.2.2.rg c1 (by rw [e16]; exact w1) (80 - r 22 w).toNat t3 (r 22 w) (by omega) (by omega) (by rw [e22]; omega)]
    obtain ⟨m', r', z1, z2, z3, z4, z5⟩ := ih t1 t3 (w + 1) r1 m1 y3 (by rw [e16]; omega) (by omega) (by omega) (by omega) (fun w2 n2 a b c e i => y5 w2 n2 a b c e (by
      rw [e16] at b
      rw [e22] at e
      have := (h.2.2.lt a b).1
      by_cases i2 : w2 = w
      · rw [i2] at e ⊢; omega
      · omega))
    exact ⟨m', r', z1, z2, z3, y4.tr z4, z5⟩
end TW
