/-! one call on both sides: which activity is next -/
section NX
variable {cd : Int → Int} {N : Int} {r r' : Rst} {m m' : Mem} {w n q : Int}
/-- which of two is preferred, as a number -/
def ahd (r : Rst) (q w n w2 n2 : Int) : Int := if r 8 w = r 8 w2 then (if r 26 (80 * w + n) < r 26 (80 * w2 + n2) then 1 else if r 26 (80 * w + n) = r 26 (80 * w2 + n2) then (if r 28 (80 * w2 + n2) ≤ r 28 (80 * w + n) then 0 else 1) else 0) else (if r 37 (3 * q + r 8 w) < r 37 (3 * q + r 8 w2) then 1 else if r 37 (3 * q + r 8 w) = r 37 (3 * q + r 8 w2) then (if r 8 w2 ≤ r 8 w then 0 else 1) else 0)
theorem g_isAhead {w2 n2 : Int} (h0 : 0 ≤ q ∧ q ≤ 1) (w0 : 0 ≤ w) (w1 : w < 10) (n0 : 0 ≤ n) (n1 : n < 80) (a0 : 0 ≤ w2) (a1 : w2 < 10) (b0 : 0 ≤ n2) (b1 : n2 < 80) (t1 : 0 ≤ r 8 w ∧ r 8 w < 3) (t2 : 0 ≤ r 8 w2 ∧ r 8 w2 < 3) : G_isAhead (80 * w + n) (80 * w2 + n2) q r = some (ahd r q w n w2 n2, r) := by
  have ed : (80 * w + n) / 80 = w := by omega
  have ed2 : (80 * w2 + n2) / 80 = w2 := by omega
  unfold G_isAhead G_isAhead_0 ahd
  rw [ed, ed2]
  rw [chk_t (by omega), chk_t (by omega), chk_t (by omega), chk_t (by omega), chk_t (by omega), chk_t (by omega), chk_t (by omega), chk_t (by omega), chk_t (by omega), chk_t (by omega), chk_t (by omega), chk_t (by omega), chk_t (by omega), chk_t (by omega)]
  by_cases c : r 8 w = r 8 w2
  · rw [if_t c, if_t c, chk_t (by omega), chk_t (by omega)]
    by_cases d : r 26 (80 * w + n) < r 26 (80 * w2 + n2)
    · rw [if_t d, if_t d, boolG_e (by omega)]
    · rw [if_f d, if_f d, chk_t (by omega), chk_t (by omega)]
      by_cases e : r 26 (80 * w + n) = r 26 (80 * w2 + n2)
      · rw [if_t e, if_t e, chk_t (by omega), chk_t (by omega)]
        by_cases f : r 28 (80 * w2 + n2) ≤ r 28 (80 * w + n)
        · rw [if_t f, if_t f, boolG_e (by omega)]
        · rw [if_f f, if_f f, boolG_e (by omega)]
      · rw [if_f e, if_f e, boolG_e (by omega)]
  · rw [if_f c, if_f c]
    by_cases d : r 37 (3 * q + r 8 w) < r 37 (3 * q + r 8 w2)
    · rw [if_t d, if_t d, boolG_e (by omega)]
    · rw [if_f d, if_f d]
      by_cases e : r 37 (3 * q + r 8 w) = r 37 (3 * q + r 8 w2)
      · rw [if_t e, if_t e, chk_t (by omega), chk_t (by omega), chk_t (by omega), chk_t (by omega)]
        by_cases f : r 8 w2 ≤ r 8 w
        · rw [if_t f, if_t f, boolG_e (by omega)]
        · rw [if_f f, if_f f, boolG_e (by omega)]
      · rw [if_f e, if_f e, boolG_e (by omega)]
theorem x_countOf {t : Int} (h : RelM r m) (h0 : 0 ≤ q ∧ q ≤ 1) (t0 : 0 ≤ t ∧ t < 3) : X6_countOf (5000 + 10 * q) t m = some (r 37 (3 * q + t), m) := by
  have qu := h.2.2.2.1 q h0.1 (by omega)
  unfold X6_countOf X6_countOf_0
  rw [if_f (by omega), if_f (by omega), chk_t (by omega), qu.1.2.1, chk_t (by omega), qu.2 t t0.1 t0.2]
theorem x_prefers {w2 n2 : Int} (h : RelM r m) (g : Rg r) (h0 : 0 ≤ q ∧ q ≤ 1) (w0 : 0 ≤ w) (w1 : w < r 16 0) (n0 : 0 ≤ n) (n1 : n < r 22 w) (a0 : 0 ≤ w2) (a1 : w2 < r 16 0) (b0 : 0 ≤ n2) (b1 : n2 < r 22 w2) (t1 : 0 ≤ r 8 w ∧ r 8 w < 3) (t2 : 0 ≤ r 8 w2 ∧ r 8 w2 < 3) (r1 : r 23 (80 * w + n) = 1) (r2 : r 23 (80 * w2 + n2) = 1) : X6_prefers (5000 + 10 * q) (Rl r w + 100 + n) (Rl r w2 + 100 + n2) m = some (ahd r q w n w2 n2, m) := by
  have s1 := (g.2.2 w w0 w1).1
  have s2 := (g.2.2 w2 a0 a1).1
  have eR : Rl r w = 100000 * (w + 1) + 10000 * r 12 w := rfl
  have eR2 : Rl r w2 = 100000 * (w2 + 1) + 10000 * r 12 w2 := rfl
  have ac := ((h.2.2.2.2.2.1 w w0 w1).2.2.2.1 n n0 n1).2
  have ac2 := ((h.2.2.2.2.2.1 w2 a0 a1).2.2.2.1 n2 b0 b1).2
  have e3 := ac.1.2.2.2.1
  have f3 := ac2.1.2.2.2.1
  have e4 := ac.1.2.2.2.2.1
  have f4 := ac2.1.2.2.2.2.1
  have e7 : m (Rl r w + 100 + n) 7 = r 26 (80 * w + n) := by
    rcases ac.2 with a | a | a | a
    · exact a.2.2
    · omega
    · omega
    · omega
  have f7 : m (Rl r w2 + 100 + n2) 7 = r 26 (80 * w2 + n2) := by
    rcases ac2.2 with a | a | a | a
    · exact a.2.2
    · omega
    · omega
    · omega
  unfold X6_prefers X6_prefers_0 ahd
  rw [chk_t (by omega), chk_t (by omega), e3, x_countOf h h0 t1, cal_e, chk_t (by omega), f3, x_countOf h h0 t2, cal_e]
  rw [e3, f3, e7, f7, e4, f4, x_countOf h h0 t1, cal_e, f3, x_countOf h h0 t2, cal_e]
  by_cases c : r 8 w = r 8 w2
  · rw [if_t (show r 37 (3 * q + r 8 w) = r 37 (3 * q + r 8 w2) by rw [c]), if_t c, if_t c]
    by_cases d : r 26 (80 * w + n) = r 26 (80 * w2 + n2)
    · have nd : ¬ r 26 (80 * w + n) < r 26 (80 * w2 + n2) := by omega
      rw [if_t d, if_f nd, if_t d]
      by_cases e : r 28 (80 * w2 + n2) ≤ r 28 (80 * w + n)
      · rw [if_t e, if_t e, boolR_e (by omega)]
      · rw [if_f e, if_f e, boolR_e (by omega)]
    · rw [if_f d, if_f d]
      by_cases e : r 26 (80 * w + n) < r 26 (80 * w2 + n2)
      · have ne : ¬ r 26 (80 * w2 + n2) ≤ r 26 (80 * w + n) := by omega
        rw [if_t e, if_f ne, boolR_e (by omega)]
      · have ne : r 26 (80 * w2 + n2) ≤ r 26 (80 * w + n) := by omega
        rw [if_f e, if_t ne, boolR_e (by omega)]
  · rw [if_f c, if_f c]
    by_cases d : r 37 (3 * q + r 8 w) = r 37 (3 * q + r 8 w2)
    · have nd : ¬ r 37 (3 * q + r 8 w) < r 37 (3 * q + r 8 w2) := by omega
      rw [if_t d, if_f nd, if_t d]
      by_cases e : r 8 w2 ≤ r 8 w
      · rw [if_t e, if_t e, boolR_e (by omega)]
      · rw [if_f e, if_f e, boolR_e (by omega)]
    · rw [if_f d, if_f d]
      by_cases e : r 37 (3 * q + r 8 w) < r 37 (3 * q + r 8 w2)
      · have ne : ¬ r 37 (3 * q + r 8 w2) ≤ r 37 (3 * q + r 8 w) := by omega
        rw [if_t e, if_f ne, boolR_e (by omega)]
      · have ne : r 37 (3 * q + r 8 w2) ≤ r 37 (3 * q + r 8 w) := by omega
        rw [if_f e, if_t ne, boolR_e (by omega)]
/-- the best so far, on both sides -/
def Bst (r : Rst) (q b p : Int) : Prop := (b = -1 ∧ p = 0) ∨ ∃ w n, 0 ≤ w ∧ w < r 16 0 ∧ 0 ≤ n ∧ n < r 22 w ∧ n < 80 ∧ b = 80 * w + n ∧ p = Rl r w + 100 + n ∧ r 23 (80 * w + n) = 1 ∧ r 24 (80 * w + n) = q
theorem next_seg {k5 : Int → Int → Int → Int → Int → Mem → Option R2} (h : RelM r m) (g : Rg r) (gw : GW r) (h0 : 0 ≤ q ∧ q ≤ 1) (w0 : 0 ≤ w) (w1 : w < r 16 0) (h79 : r 22 w ≤ 79) : ∀ (d t1 t2 : Nat) (n b p : Int), r 22 w - n = d → 0 ≤ n → (d : Int) < t1 → Bst r q b p → ∃ b' p', Bst r q b' p' ∧ X11_nextOn_29 k5 t1 1 (5000 + 10 * q) q p w (Rl r w) n m = k5 1 (5000 + 10 * q) q p' (w + 1) m ∧ G_next_4 (t2 + d) q b (80 * w + n) r = G_next_4 t2 q b' (80 * w + r 22 w) r := by
  have b10 := g.1
  have s := g.2.2 w w0 w1
  have s1 := s.1
  have s2 := s.2.1
  have f := h.2.2.2.2.2.1 w w0 w1
  have eR : Rl r w = 100000 * (w + 1) + 10000 * r 12 w := rfl
  have u := f.2.1 (r 12 w) s1 (Int.le_refl _)
  rw [← eR] at u
  have e3 : m (Rl r w) 3 = r 22 w := f.2.2.1.1
  intro d
  induction d with
  | zero =>
    intro t1 t2 n b p c0 c1 c2 hb
    obtain ⟨t1, rfl⟩ : ∃ k, t1 = k + 1 := ⟨t1 - 1, by omega⟩
    have : n = r 22 w := by omega
    rw [this, X11_nextOn_29, chk_t (by omega), e3, if_t (by omega), chk_t (by omega)]
    exact ⟨b, p, hb, rfl, rfl⟩
  | succ d ih =>
    intro t1 t2 n b p c0 c1 c2 hb
    obtain ⟨t1, rfl⟩ : ∃ k, t1 = k + 1 := ⟨t1 - 1, by omega⟩
    have n1 : n < r 22 w := by omega
    rw [X11_nextOn_29, chk_t (by omega), e3, if_f (by omega), u.1.2.1, chk_t (by omega), (f.2.2.2.1 n c1 n1).1, chk_t (by omega), x_isReady h w0 w1 c1 n1 g, cal_e, show t2 + (d + 1) = (t2 + d) + 1 from rfl, G_next_4, chk_t (by omega), if_f (show ¬ 80 * r 16 0 ≤ 80 * w + n by omega), g_isReady1 w0 (by omega) c1 (by omega), cag_e]
    by_cases k : r 23 (80 * w + n) = 1 ∧ r 24 (80 * w + n) = q
    · have k' : n < r 22 w ∧ r 23 (80 * w + n) = 1 ∧ r 24 (80 * w + n) = q := ⟨n1, k⟩
      have nb : Bst r q (80 * w + n) (Rl r w + 100 + n) := Or.inr ⟨w, n, w0, w1, c1, n1, by omega, rfl, rfl, k.1, k.2⟩
      rw [if_t k, if_t k', if_f (show ¬ (1 : Int) = 0 by decide), if_f (show ¬ (1 : Int) = 0 by decide)]
      rcases hb with ⟨rfl, rfl⟩ | ⟨w2, n2, a0, a1, a2, a3, a4, rfl, rfl, a5, a6⟩
      · rw [if_t rfl, if_t rfl, chk_t (by omega), chk_t (by omega), Int.add_assoc (80 * w) n 1, chk_t (by omega)]
        exact ih t1 t2 (n + 1) _ _ (by omega) (by omega) (by omega) nb
      · have s2' := (g.2.2 w2 a0 a1).1
        have eR2 : Rl r w2 = 100000 * (w2 + 1) + 10000 * r 12 w2 := rfl
        rw [if_f (show ¬ Rl r w2 + 100 + n2 = 0 by omega), if_f (show ¬ 80 * w2 + n2 = -1 by omega), chk_t (by omega), x_prefers h g h0 w0 w1 c1 n1 a0 a1 a2 a3 (gw w w0 w1).2.1 (gw w2 a0 a1).2.1 k.1 a5, cal_e, g_isAhead h0 w0 (by omega) c1 (by omega) a0 (by omega) a2 a4 (gw w w0 w1).2.1 (gw w2 a0 a1).2.1, cag_e]
        by_cases e : ahd r q w n w2 n2 = 0
        · rw [if_t e, if_t e, chk_t (by omega), chk_t (by omega), Int.add_assoc (80 * w) n 1, chk_t (by omega)]
          exact ih t1 t2 (n + 1) _ _ (by omega) (by omega) (by omega) (Or.inr ⟨w2, n2, a0, a1, a2, a3, a4, rfl, rfl, a5, a6⟩)
        · rw [if_f e, if_f e, chk_t (by omega), chk_t (by omega), Int.add_assoc (80 * w) n 1, chk_t (by omega)]
          exact ih t1 t2 (n + 1) _ _ (by omega) (by omega) (by omega) nb
    · have k' : ¬ (n < r 22 w ∧ r 23 (80 * w + n) = 1 ∧ r 24 (80 * w + n) = q) := fun hh => k hh.2
      rw [if_f k, if_f k', if_t rfl, if_t rfl, chk_t (by omega), chk_t (by omega), Int.add_assoc (80 * w) n 1]
      exact ih t1 t2 (n + 1) b p (by omega) (by omega) (by omega) hb
theorem next_skip (g : Rg r) (w0 : 0 ≤ w) (w1 : w < r 16 0) : ∀ (d t2 : Nat) (n b : Int), 80 - n = d → 0 ≤ n → r 22 w ≤ n → G_next_4 (t2 + d) q b (80 * w + n) r = G_next_4 t2 q b (80 * (w + 1)) r := by
  have b10 := g.1
  intro d
  induction d with
  | zero =>
    intro t2 n b c0 c1 c2
    rw [show 80 * w + n = 80 * (w + 1) by omega, Nat.add_zero]
  | succ d ih =>
    intro t2 n b c0 c1 c2
    rw [show t2 + (d + 1) = (t2 + d) + 1 from rfl, G_next_4, chk_t (by omega), if_f (show ¬ 80 * r 16 0 ≤ 80 * w + n by omega), g_isReady1 w0 (by omega) c1 (by omega), cag_e, if_f (show ¬ (n < r 22 w ∧ r 23 (80 * w + n) = 1 ∧ r 24 (80 * w + n) = q) by omega), if_t rfl, chk_t (by omega), Int.add_assoc (80 * w) n 1]
    exact ih t2 (n + 1) b (by omega) (by omega) (by omega)
theorem next_all (h : RelM r m) (g : Rg r) (gw : GW r) (h0 : 0 ≤ q ∧ q ≤ 1) (h79 : ∀ w, 0 ≤ w → w < r 16 0 → r 22 w ≤ 79) : ∀ (d t1 t2 : Nat) (w b p : Int), r 16 0 - w = d → 0 ≤ w → (d : Int) < t1 → 80 * (d : Int) < t2 → Bst r q b p → ∃ b' p', Bst r q b' p' ∧ X11_nextOn_5 t1 1 (5000 + 10 * q) q p w m = some (p', m) ∧ G_next_4 t2 q b (80 * w) r = some (b', r) := by
  have f9 := fuel9_ge
  have b10 := g.1
  have e5 : m 1 5 = r 16 0 := h.1.1.2.2.2.2.2.1
  have e1 : m 1 1 = 3 := h.1.1.2.1
  intro d
  induction d with
  | zero =>
    intro t1 t2 w b p c0 c1 c2 c3 hb
    obtain ⟨t1, rfl⟩ : ∃ k, t1 = k + 1 := ⟨t1 - 1, by omega⟩
    obtain ⟨t2, rfl⟩ : ∃ k, t2 = k + 1 := ⟨t2 - 1, by omega⟩
    rw [X11_nextOn_5, G_next_4, chk_t (by omega), e5, if_t (by omega), chk_t (by omega), if_t (by omega)]
    exact ⟨b, p, hb, rfl, rfl⟩
  | succ d ih =>
    intro t1 t2 w b p c0 c1 c2 c3 hb
    obtain ⟨t1, rfl⟩ : ∃ k, t1 = k + 1 := ⟨t1 - 1, by omega⟩
    have w1 : w < r 16 0 := by omega
    have s3 := (g.2.2 w c1 w1).2.2.1
    have f := h.2.2.2.2.2.1 w c1 w1
    have hw := h79 w c1 w1
    obtain ⟨t3, ht3⟩ : ∃ k : Nat, t2 = (k + (80 - r 22 w).toNat) + (r 22 w).toNat := ⟨t2 - 80, by omega⟩
    rw [X11_nextOn_5, chk_t (by omega), e5, if_f (by omega), e1, chk_t (by omega), h.1.2 w c1 w1, chk_t (by omega), f.1.1.2.2.2.2.2.2.1]
    obtain ⟨b1, p1, y1, y2, y3⟩ := next_seg (k5 := X11_nextOn_5 t1) h g gw h0 c1 w1 hw (r 22 w).toNat fuel9 (t3 + (80 - r 22 w).toNat) 0 b p (by omega) (by omega) (by omega) hb
    rw [Int.add_zero, ← ht3] at y3
    rw [y2, y3, next_skip g c1 w1 (80 - r 22 w).toNat t3 (r 22 w) b1 (by omega) (by omega) (by omega)]
    exact ih t1 t3 (w + 1) b1 p1 (by omega) (by omega) (by omega) (by omega) y1
end NX
