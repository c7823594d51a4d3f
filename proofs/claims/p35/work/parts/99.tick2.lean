/-! one call on both sides: tick (leases, rests) -/
section TL
variable {cd : Int → Int} {N : Int} {r r' : Rst} {m m' : Mem} {w n q k : Int}
/-- no lease ends at the places before -/
def Lz (r : Rst) (A : Int) : Prop := ∀ w n, 0 ≤ w → w < r 16 0 → 0 ≤ n → n < r 22 w → 80 * w + n < A → r 23 (80 * w + n) = 2 → r 1 0 ≠ r 27 (80 * w + n)
/-- no rest ends at the places before -/
def Wz (r : Rst) (A : Int) : Prop := ∀ w n, 0 ≤ w → w < r 16 0 → 0 ≤ n → n < r 22 w → 80 * w + n < A → r 23 (80 * w + n) = 3 → r 1 0 ≠ r 26 (80 * w + n)
theorem lease_seg {k165 : Int → Rst → Option G2} (hN : N ≤ 600) : ∀ (d t1 t2 : Nat) (n : Int) (r : Rst) (m : Mem), RelC N r m → 0 ≤ w → w < r 16 0 → r 22 w - n = d → 0 ≤ n → (d : Int) < t1 → Lz r (80 * w + n) → ∃ m' r', X11_endLeases_2 t1 1 (Rl r w) n m = some (0, m') ∧ G_ticksOnce_102 k165 (t2 + d) (80 * w + n) r = G_ticksOnce_102 k165 t2 (80 * w + r 22 w) r' ∧ RelC N r' m' ∧ Tf r m r' m' ∧ Lz r' (80 * w + r 22 w) := by
  intro d
  induction d with
  | zero =>
    intro t1 t2 n r m h w0 w1 c0 c1 c2 lz
    obtain ⟨t1, rfl⟩ : ∃ k, t1 = k + 1 := ⟨t1 - 1, by omega⟩
    have g := h.2.2.rg
    have s1 := (g.2.2 w w0 w1).1
    have eR : Rl r w = 100000 * (w + 1) + 10000 * r 12 w := rfl
    have e3 : m (Rl r w) 3 = r 22 w := (h.1.2.2.2.2.2.1 w w0 w1).2.2.1.1
    have en : n = r 22 w := by omega
    rw [X11_endLeases_2, chk_t (by omega), e3, if_t (by omega), en]
    exact ⟨m, r, rfl, rfl, h, Tf.rf, by rw [← en]; exact lz⟩
  | succ d ih =>
    intro t1 t2 n r m h w0 w1 c0 c1 c2 lz
    obtain ⟨t1, rfl⟩ : ∃ k, t1 = k + 1 := ⟨t1 - 1, by omega⟩
    have g := h.2.2.rg
    have b10 := g.1
    have s := g.2.2 w w0 w1
    have s1 := s.1
    have s2 := s.2.1
    have lt := (h.2.2.lt w0 w1).1
    have eR : Rl r w = 100000 * (w + 1) + 10000 * r 12 w := rfl
    have f := h.1.2.2.2.2.2.1 w w0 w1
    have u := f.2.1 (r 12 w) s1 (Int.le_refl _)
    rw [← eR] at u
    have e3 : m (Rl r w) 3 = r 22 w := f.2.2.1.1
    have e7 : m 1 7 = r 1 0 := h.1.1.1.2.2.2.2.2.2.2
    have n1 : n < r 22 w := by omega
    have acn := f.2.2.2.1 n c1 n1
    have ac := acn.2
    have ed : (80 * w + n) / 80 = w := by omega
    have emd : (80 * w + n) % 80 = n := by omega
    have gk := h.2.2.gk.2 w n w0 w1 c1 n1
    have keep : (r 23 (80 * w + n) = 2 → r 1 0 ≠ r 27 (80 * w + n)) → Lz r (80 * w + (n + 1)) := fun hh w2 n2 a b c e f => by
      by_cases i : 80 * w2 + n2 = 80 * w + n
      · rw [i]; exact hh
      · exact lz w2 n2 a b c e (by omega)
    rw [X11_endLeases_2, chk_t (by omega), e3, if_f (by omega), u.1.2.1, chk_t (by omega), acn.1, chk_t (by omega), show t2 + (d + 1) = (t2 + d) + 1 from rfl, G_ticksOnce_102, ed, emd, chk_t (by omega), if_f (show ¬ 80 * r 16 0 ≤ 80 * w + n by omega), chk_t (by omega), chk_t (by omega), chk_t (by omega), if_f (show ¬ r 22 w ≤ n by omega), chk_t (by omega)]
    by_cases e : r 23 (80 * w + n) = 2
    · have a6 : m (Rl r w + 100 + n) 6 = 1 := by rcases ac.2 with a | a | a | a <;> omega
      have a8 : m (Rl r w + 100 + n) 8 = r 27 (80 * w + n) := by rcases ac.2 with a | a | a | a <;> omega
      have gk2 := (gk.2.1 e).2
      rw [if_t e, a6, if_t rfl, chk_t (by omega), chk_t (by omega), e7, a8]
      by_cases l : r 27 (80 * w + n) = r 1 0
      · obtain ⟨m1, r1, y1, y2, y3, y4, y5, y6, y7, y8⟩ := h.lose hN w0 w1 c1 n1 e
        have tf : Tf r m r1 m1 := ⟨fun i hi => y4 i (by omega) (by omega) (by omega), fun j a b c d e f g l => y6 j (by omega) (by omega) (by omega) (by omega)⟩
        have ef := tf.e
        rw [if_t l, if_f (by omega), y1, cal_e, chk_t (by omega), y2, cag_e, Int.add_assoc (80 * w) n 1, chk_t (by omega)]
        try rw [chk_t (by omega)]
        obtain ⟨m', r', z1, z2, z3, z4, z5⟩ := ih t1 t2 (n + 1) r1 m1 y3 w0 (by rw [ef.2.2.1]; exact w1) (by rw [ef.2.2.2.1]; omega) (by omega) (by omega) (fun w2 n2 a b c e f i => by
          rw [ef.2.2.1] at b
          rw [ef.2.2.2.1] at e
          rw [ef.1, ef.2.2.2.2.2.1]
          by_cases hi : 80 * w2 + n2 = 80 * w + n
          · rw [hi] at i; omega
          · rw [(y7 _ hi).1] at i
            exact lz w2 n2 a b c e (by omega) i)
        rw [ef.2.2.2.2.2.2.2 w] at z1
        rw [ef.2.2.2.1] at z2 z5
        exact ⟨m', r', z1, z2, z3, tf.tr z4, z5⟩
      · rw [if_f l, if_t (by omega), chk_t (by omega), chk_t (by omega), Int.add_assoc (80 * w) n 1]
        exact ih t1 t2 (n + 1) r m h w0 w1 (by omega) (by omega) (by omega) (keep fun _ hh => l hh.symm)
    · have a6 : ¬ m (Rl r w + 100 + n) 6 = 1 := by rcases ac.2 with a | a | a | a <;> omega
      rw [if_f e, if_f a6, chk_t (by omega), chk_t (by omega), Int.add_assoc (80 * w) n 1]
      try rw [chk_t (by omega)]
      exact ih t1 t2 (n + 1) r m h w0 w1 (by omega) (by omega) (by omega) (keep fun hh => absurd hh e)
theorem lease_skip {k165 : Int → Rst → Option G2} (g : Rg r) (w0 : 0 ≤ w) (w1 : w < r 16 0) : ∀ (d t2 : Nat) (n : Int), 80 - n = d → 0 ≤ n → r 22 w ≤ n → G_ticksOnce_102 k165 (t2 + d) (80 * w + n) r = G_ticksOnce_102 k165 t2 (80 * (w + 1)) r := by
  have b10 := g.1
  intro d
  induction d with
  | zero => intro t2 n c0 c1 c2; rw [show 80 * w + n = 80 * (w + 1) by omega, Nat.add_zero]
  | succ d ih =>
    intro t2 n c0 c1 c2
    have ed : (80 * w + n) / 80 = w := by omega
    have emd : (80 * w + n) % 80 = n := by omega
    rw [show t2 + (d + 1) = (t2 + d) + 1 from rfl, G_ticksOnce_102, ed, emd, chk_t (by omega), if_f (show ¬ 80 * r 16 0 ≤ 80 * w + n by omega), chk_t (by omega), chk_t (by omega), chk_t (by omega), if_t c2, chk_t (by omega), Int.add_assoc (80 * w) n 1]
    exact ih t2 (n + 1) (by omega) (by omega) (by omega)
theorem lease_all {k96 : Int → Int → Mem → Option R2} {k165 : Int → Rst → Option G2} (hN : N ≤ 600) : ∀ (d t1 t2 : Nat) (w : Int) (r : Rst) (m : Mem), RelC N r m → r 16 0 - w = d → 0 ≤ w → (d : Int) < t1 → 80 * (d : Int) < t2 → Lz r (80 * w) → ∃ m' r', X11_passTick_67 k96 t1 1 w m = k96 1 0 m' ∧ G_ticksOnce_102 k165 t2 (80 * w) r = k165 0 r' ∧ RelC N r' m' ∧ Tf r m r' m' ∧ Lz r' 800 := by
  have f9 := fuel9_ge
  intro d
  induction d with
  | zero =>
    intro t1 t2 w r m h c0 c1 c2 c3 lz
    obtain ⟨t1, rfl⟩ : ∃ k, t1 = k + 1 := ⟨t1 - 1, by omega⟩
    obtain ⟨t2, rfl⟩ : ∃ k, t2 = k + 1 := ⟨t2 - 1, by omega⟩
    have g := h.2.2.rg
    have b10 := g.1
    have e5 : m 1 5 = r 16 0 := h.1.1.1.2.2.2.2.2.1
    rw [X11_passTick_67, G_ticksOnce_102, chk_t (by omega), e5, if_t (by omega), chk_t (by omega), if_t (by omega)]
    refine ⟨m, r, rfl, rfl, h, Tf.rf, fun w2 n2 a b c e f => lz w2 n2 a b c e ?_⟩
    have := (h.2.2.lt a b).1
    omega
  | succ d ih =>
    intro t1 t2 w r m h c0 c1 c2 c3 lz
    obtain ⟨t1, rfl⟩ : ∃ k, t1 = k + 1 := ⟨t1 - 1, by omega⟩
    have g := h.2.2.rg
    have b10 := g.1
    have e5 : m 1 5 = r 16 0 := h.1.1.1.2.2.2.2.2.1
    have e1 : m 1 1 = 3 := h.1.1.1.2.1
    have w1 : w < r 16 0 := by omega
    have s1 := (g.2.2 w c1 w1).1
    have lt := (h.2.2.lt c1 w1).1
    have s2 := (g.2.2 w c1 w1).2.1
    have s3 := (g.2.2 w c1 w1).2.2
    have eR : Rl r w = 100000 * (w + 1) + 10000 * r 12 w := rfl
    have f := h.1.2.2.2.2.2.1 w c1 w1
    obtain ⟨t3, ht3⟩ : ∃ k : Nat, t2 = (k + (80 - r 22 w).toNat) + (r 22 w).toNat := ⟨t2 - 80, by omega⟩
    rw [X11_passTick_67, chk_t (by omega), e5, if_f (by omega), e1, chk_t (by omega), h.1.1.2 w c1 w1, chk_t (by omega), f.1.1.2.2.2.2.2.2.1]
    obtain ⟨m1, r1, y1, y2, y3, y4, y5⟩ := lease_seg (k165 := k165) (w := w) hN (r 22 w).toNat fuel9 (t3 + (80 - r 22 w).toNat) 0 r m h c1 w1 (by omega) (by omega) (by omega) (by rw [Int.add_zero]; exact lz)
    have ef := y4.e
    rw [Int.add_zero, ← ht3] at y2
    unfold X11_endLeases X11_endLeases_0
    have e22 : r1 22 w = r 22 w := by rw [ef.2.2.2.1]
    rw [y1, cal_e, chk_t (by omega), y2, lease_skip y3.2.2.rg c1 (by rw [ef.2.2.1]; exact w1) (80 - r 22 w).toNat t3 (r 22 w) (by omega) (by omega) (by omega)]
    obtain ⟨m', r', z1, z2, z3, z4, z5⟩ := ih t1 t3 (w + 1) r1 m1 y3 (by rw [ef.2.2.1]; omega) (by omega) (by omega) (by omega) (fun w2 n2 a b c e i => y5 w2 n2 a b c e (by
      rw [ef.2.2.1] at b
      rw [ef.2.2.2.1] at e
      have := (h.2.2.lt a b).1
      by_cases i2 : w2 = w
      · rw [i2] at e ⊢; omega
      · omega))
    exact ⟨m', r', z1, z2, z3, y4.tr z4, z5⟩
end TL
