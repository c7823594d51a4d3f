/-! one call on both sides: tick (timers) -/
section TK
variable {cd : Int → Int} {N : Int} {r r' : Rst} {m m' : Mem} {w n q k : Int}
/-- what a part of a tick leaves -/
def Tf (r : Rst) (m : Mem) (r' : Rst) (m' : Mem) : Prop := (∀ i, i < 5000 → m' i = m i) ∧ ∀ j : Nat, j ≠ 18 → j ≠ 19 → j ≠ 20 → j ≠ 21 → j ≠ 23 → j ≠ 26 → j ≠ 31 → j ≠ 39 → r' j = r j
theorem Tf.rf : Tf r m r m := ⟨fun _ _ => rfl, fun _ _ _ _ _ _ _ _ _ => rfl⟩
theorem Tf.tr {r1 : Rst} {m1 : Mem} (h : Tf r m r1 m1) (k : Tf r1 m1 r' m') : Tf r m r' m' := ⟨fun i hi => (k.1 i hi).trans (h.1 i hi), fun j a b c d e f g l => (k.2 j a b c d e f g l).trans (h.2 j a b c d e f g l)⟩
theorem Tf.e (h : Tf r m r' m') : r' 1 = r 1 ∧ r' 12 = r 12 ∧ r' 16 = r 16 ∧ r' 22 = r 22 ∧ r' 30 = r 30 ∧ r' 27 = r 27 ∧ r' 25 = r 25 ∧ ∀ w, Rl r' w = Rl r w := ⟨h.2 1 (by omega) (by omega) (by omega) (by omega) (by omega) (by omega) (by omega) (by omega), h.2 12 (by omega) (by omega) (by omega) (by omega) (by omega) (by omega) (by omega) (by omega), h.2 16 (by omega) (by omega) (by omega) (by omega) (by omega) (by omega) (by omega) (by omega), h.2 22 (by omega) (by omega) (by omega) (by omega) (by omega) (by omega) (by omega) (by omega), h.2 30 (by omega) (by omega) (by omega) (by omega) (by omega) (by omega) (by omega) (by omega), h.2 27 (by omega) (by omega) (by omega) (by omega) (by omega) (by omega) (by omega) (by omega), h.2 25 (by omega) (by omega) (by omega) (by omega) (by omega) (by omega) (by omega) (by omega), fun w => by unfold Rl; rw [h.2 12 (by omega) (by omega) (by omega) (by omega) (by omega) (by omega) (by omega) (by omega)]⟩
/-- one timer fires -/
theorem RelC.fire (h : RelC N r m) (w0 : 0 ≤ w) (w1 : w < r 16 0) (n0 : 0 ≤ n) (n1 : n < r 30 w) : ∃ v m' r', X7_happen (Rl r w) 3 n 0 (upd9 m (Rl r w + 6) n 0) = some (v, m') ∧ G_happens w 3 n 0 (ur r 31 (80 * w + n) 0) = some (v, r') ∧ RelC N r' m' ∧ Tf r m r' m' ∧ r' 23 = r 23 ∧ r' 26 = r 26 := by
  have g := h.2.2.rg
  have s1 := (g.2.2 w w0 w1).1
  have eR : Rl r w = 100000 * (w + 1) + 10000 * r 12 w := rfl
  have lt := (h.2.2.lt w0 w1).2.1
  have hz : RelC N (ur r 31 (80 * w + n) 0) (upd9 m (Rl r w + 6) n 0) := by
    refine h.mk (rel_timer h.1 g w0 w1 n0 n1) (h.2.2.fr fun j hj => ur_ne (by omega)) (fun w2 a b => ?_) fun j hj => ur_ne (by omega)
    have t1 := (g.2.2 w2 a b).1
    have t2 := (g.2.2 w2 a b).2.1
    have s2 := (g.2.2 w w0 w1).2.1
    have eR2 : Rl r w2 = 100000 * (w2 + 1) + 10000 * r 12 w2 := rfl
    by_cases e : w2 = w
    · rw [e, upd9_row (by omega)]
    · rw [upd9_row (by omega)]
  have eRz : Rl (ur r 31 (80 * w + n) 0) w = Rl r w := by unfold Rl; rw [ur_n (by omega)]
  obtain ⟨v, m', r', b1, b2, b3, b4, b5, b6⟩ := hz.happen (k := 3) (x := n) (y := 0) w0 (by rw [ur_n (by omega)]; exact w1) (by omega) (by omega) (by omega) (by omega) n0 (fun _ e => by omega) (fun _ e => by omega)
  rw [eRz] at b1 b5
  exact ⟨v, m', r', b1, b2, b4, ⟨fun i hi => by rw [b5 i (by omega), upd9_row (by omega)], fun j a b c d e f g l => by rw [b6 j (by omega), ur_ne g]⟩, by rw [b6 23 (by omega), ur_ne (by omega)], by rw [b6 26 (by omega), ur_ne (by omega)]⟩
theorem fire_seg {k102 : Int → Rst → Option G2} : ∀ (d t1 t2 : Nat) (n : Int) (r : Rst) (m : Mem), RelC N r m → 0 ≤ w → w < r 16 0 → r 30 w - n = d → 0 ≤ n → (d : Int) < t1 → ∃ m' r', X7_fireTimers_2 t1 (Rl r w) (r 1 0) n m = some (0, m') ∧ G_ticksOnce_32 k102 (t2 + d) (80 * w + n) r = G_ticksOnce_32 k102 t2 (80 * w + r 30 w) r' ∧ RelC N r' m' ∧ Tf r m r' m' ∧ r' 23 = r 23 ∧ r' 26 = r 26 := by
  intro d
  induction d with
  | zero =>
    intro t1 t2 n r m h w0 w1 c0 c1 c2
    obtain ⟨t1, rfl⟩ : ∃ k, t1 = k + 1 := ⟨t1 - 1, by omega⟩
    have g := h.2.2.rg
    have s1 := (g.2.2 w w0 w1).1
    have eR : Rl r w = 100000 * (w + 1) + 10000 * r 12 w := rfl
    have e4 : m (Rl r w) 4 = r 30 w := (h.1.2.2.2.2.2.1 w w0 w1).2.2.1.2.1
    rw [X7_fireTimers_2, chk_t (by omega), e4, if_t (by omega), show n = r 30 w by omega]
    exact ⟨m, r, rfl, rfl, h, Tf.rf, rfl, rfl⟩
  | succ d ih =>
    intro t1 t2 n r m h w0 w1 c0 c1 c2
    obtain ⟨t1, rfl⟩ : ∃ k, t1 = k + 1 := ⟨t1 - 1, by omega⟩
    have g := h.2.2.rg
    have b10 := g.1
    have s := g.2.2 w w0 w1
    have s1 := s.1
    have s2 := s.2.1
    have lt := (h.2.2.lt w0 w1).2.1
    have eR : Rl r w = 100000 * (w + 1) + 10000 * r 12 w := rfl
    have f := h.1.2.2.2.2.2.1 w w0 w1
    have u := f.2.1 (r 12 w) s1 (Int.le_refl _)
    rw [← eR] at u
    have e4 : m (Rl r w) 4 = r 30 w := f.2.2.1.2.1
    have n1 : n < r 30 w := by omega
    have ti := f.2.2.2.2 n c1 n1
    have ed : (80 * w + n) / 80 = w := by omega
    have emd : (80 * w + n) % 80 = n := by omega
    rw [X7_fireTimers_2, chk_t (by omega), e4, if_f (by omega), u.1.2.2.1, chk_t (by omega), ti, show t2 + (d + 1) = (t2 + d) + 1 from rfl, G_ticksOnce_32, ed, emd, chk_t (by omega), if_f (show ¬ 80 * r 16 0 ≤ 80 * w + n by omega), chk_t (by omega), chk_t (by omega), chk_t (by omega), if_f (show ¬ r 30 w ≤ n by omega), chk_t (by omega)]
    by_cases e : r 31 (80 * w + n) = r 1 0
    · obtain ⟨v, m1, r1, a1, a2, a3, a4, a5, a6⟩ := h.fire w0 w1 c1 n1
      have ef := a4.e
      rw [if_t e, if_t e, chk_t (by omega), st_e, a1, cal_e, chk_t (by omega), chk_t (by omega), stg_e, chk_t (by omega), chk_t (by omega), a2, cag_e, chk_t (by omega), Int.add_assoc (80 * w) n 1, chk_t (by omega)]
      obtain ⟨m', r', y1, y2, y3, y4, y5, y6⟩ := ih t1 t2 (n + 1) r1 m1 a3 w0 (by rw [ef.2.2.1]; exact w1) (by rw [ef.2.2.2.2.1]; omega) (by omega) (by omega)
      rw [ef.2.2.2.2.2.2.2 w, ef.1] at y1
      rw [ef.2.2.2.2.1] at y2
      exact ⟨m', r', y1, y2, y3, a4.tr y4, y5.trans a5, y6.trans a6⟩
    · rw [if_f e, if_f e, chk_t (by omega), chk_t (by omega), Int.add_assoc (80 * w) n 1, chk_t (by omega)]
      exact ih t1 t2 (n + 1) r m h w0 w1 (by omega) (by omega) (by omega)
theorem fire_skip {k102 : Int → Rst → Option G2} (g : Rg r) (w0 : 0 ≤ w) (w1 : w < r 16 0) : ∀ (d t2 : Nat) (n : Int), 80 - n = d → 0 ≤ n → r 30 w ≤ n → G_ticksOnce_32 k102 (t2 + d) (80 * w + n) r = G_ticksOnce_32 k102 t2 (80 * (w + 1)) r := by
  have b10 := g.1
  intro d
  induction d with
  | zero => intro t2 n c0 c1 c2; rw [show 80 * w + n = 80 * (w + 1) by omega, Nat.add_zero]
  | succ d ih =>
    intro t2 n c0 c1 c2
    have ed : (80 * w + n) / 80 = w := by omega
    have emd : (80 * w + n) % 80 = n := by omega
    rw [show t2 + (d + 1) = (t2 + d) + 1 from rfl, G_ticksOnce_32, ed, emd, chk_t (by omega), if_f (show ¬ 80 * r 16 0 ≤ 80 * w + n by omega), chk_t (by omega), chk_t (by omega), chk_t (by omega), if_t c2, chk_t (by omega), Int.add_assoc (80 * w) n 1]
    exact ih t2 (n + 1) (by omega) (by omega) (by omega)
theorem fire_all {k67 : Int → Int → Mem → Option R2} {k102 : Int → Rst → Option G2} : ∀ (d t1 t2 : Nat) (w : Int) (r : Rst) (m : Mem), RelC N r m → r 16 0 - w = d → 0 ≤ w → (d : Int) < t1 → 80 * (d : Int) < t2 → ∃ m' r', X11_passTick_35 k67 t1 1 w m = k67 1 0 m' ∧ G_ticksOnce_32 k102 t2 (80 * w) r = k102 0 r' ∧ RelC N r' m' ∧ Tf r m r' m' ∧ r' 23 = r 23 ∧ r' 26 = r 26 := by
  have f9 := fuel9_ge
  intro d
  induction d with
  | zero =>
    intro t1 t2 w r m h c0 c1 c2 c3
    obtain ⟨t1, rfl⟩ : ∃ k, t1 = k + 1 := ⟨t1 - 1, by omega⟩
    obtain ⟨t2, rfl⟩ : ∃ k, t2 = k + 1 := ⟨t2 - 1, by omega⟩
    have b10 := h.2.2.rg.1
    have e5 : m 1 5 = r 16 0 := h.1.1.1.2.2.2.2.2.1
    rw [X11_passTick_35, G_ticksOnce_32, chk_t (by omega), e5, if_t (by omega), chk_t (by omega), if_t (by omega)]
    exact ⟨m, r, rfl, rfl, h, Tf.rf, rfl, rfl⟩
  | succ d ih =>
    intro t1 t2 w r m h c0 c1 c2 c3
    obtain ⟨t1, rfl⟩ : ∃ k, t1 = k + 1 := ⟨t1 - 1, by omega⟩
    have g := h.2.2.rg
    have b10 := g.1
    have e5 : m 1 5 = r 16 0 := h.1.1.1.2.2.2.2.2.1
    have e1 : m 1 1 = 3 := h.1.1.1.2.1
    have e7 : m 1 7 = r 1 0 := h.1.1.1.2.2.2.2.2.2.2
    have w1 : w < r 16 0 := by omega
    have s1 := (g.2.2 w c1 w1).1
    have lt := (h.2.2.lt c1 w1).2.1
    have eR : Rl r w = 100000 * (w + 1) + 10000 * r 12 w := rfl
    have f := h.1.2.2.2.2.2.1 w c1 w1
    obtain ⟨t3, ht3⟩ : ∃ k : Nat, t2 = (k + (80 - r 30 w).toNat) + (r 30 w).toNat := ⟨t2 - 80, by omega⟩
    rw [X11_passTick_35, chk_t (by omega), e5, if_f (by omega), e1, chk_t (by omega), h.1.1.2 w c1 w1, chk_t (by omega), f.1.1.2.2.2.2.2.2.1, chk_t (by omega), e7]
    obtain ⟨m1, r1, y1, y2, y3, y4, y5, y6⟩ := fire_seg (k102 := k102) (w := w) (r 30 w).toNat fuel9 (t3 + (80 - r 30 w).toNat) 0 r m h c1 w1 (by omega) (by omega) (by omega)
    have ef := y4.e
    rw [Int.add_zero, ← ht3] at y2
    unfold X7_fireTimers X7_fireTimers_0
    have e30 : r1 30 w = r 30 w := by rw [ef.2.2.2.2.1]
    rw [y1, cal_e, chk_t (by omega), y2, fire_skip y3.2.2.rg c1 (by rw [ef.2.2.1]; exact w1) (80 - r 30 w).toNat t3 (r 30 w) (by omega) (by omega) (by omega)]
    obtain ⟨m', r', z1, z2, z3, z4, z5, z6⟩ := ih t1 t3 (w + 1) r1 m1 y3 (by rw [ef.2.2.1]; omega) (by omega) (by omega) (by omega)
    exact ⟨m', r', z1, z2, z3, y4.tr z4, z5.trans y5, z6.trans y6⟩
end TK
