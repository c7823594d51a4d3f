/-! one call on both sides: programs are told -/
section PG
variable {cd : Int → Int} {N : Int} {r r' : Rst} {m m' : Mem} {w n q k t a b : Int}
/-- a step as the document allows it -/
abbrev stOk (k a b : Int) : Prop := (0 ≤ k ∧ k ≤ 15) ∧ (sar9 1 k.toNat ≤ a ∧ a ≤ sar9 2 k.toNat) ∧ sar9 3 k.toNat ≤ b ∧ b ≤ sar9 4 k.toNat
theorem sar_r {x : Int} (h0 : 0 ≤ k) (h1 : k ≤ 15) (hx : x = 1 ∨ x = 2 ∨ x = 3 ∨ x = 4) : iR (sar9 x k.toNat) := by
  have hk : k = 0 ∨ k = 1 ∨ k = 2 ∨ k = 3 ∨ k = 4 ∨ k = 5 ∨ k = 6 ∨ k = 7 ∨ k = 8 ∨ k = 9 ∨ k = 10 ∨ k = 11 ∨ k = 12 ∨ k = 13 ∨ k = 14 ∨ k = 15 := by omega
  rcases hk with rfl | rfl | rfl | rfl | rfl | rfl | rfl | rfl | rfl | rfl | rfl | rfl | rfl | rfl | rfl | rfl <;> rcases hx with rfl | rfl | rfl | rfl <;> decide
theorem x_isStep : X11_isStep k a b m = some (if stOk k a b then 1 else 0, m) := by
  unfold X11_isStep X11_isStep_0
  rw [x_isWithin, cal_e]
  by_cases c : 0 ≤ k ∧ k ≤ 15
  · have s1 := sar_r (x := 1) c.1 c.2 (by omega)
    have s2 := sar_r (x := 2) c.1 c.2 (by omega)
    have s3 := sar_r (x := 3) c.1 c.2 (by omega)
    have s4 := sar_r (x := 4) c.1 c.2 (by omega)
    rw [if_t c, if_f (by decide), chk_t ⟨c.1, by omega, s1⟩, chk_t ⟨c.1, by omega, s2⟩, x_isWithin, cal_e]
    by_cases d : sar9 1 k.toNat ≤ a ∧ a ≤ sar9 2 k.toNat
    · rw [if_t d, if_f (by decide), chk_t ⟨c.1, by omega, s3⟩, chk_t ⟨c.1, by omega, s4⟩, x_isWithin, cal_e]
      by_cases e : sar9 3 k.toNat ≤ b ∧ b ≤ sar9 4 k.toNat
      · rw [if_t e, if_f (by decide), boolR_e (Or.inr rfl), if_t (show stOk k a b from ⟨c, d, e⟩)]
      · rw [if_f e, if_t rfl, boolR_e (Or.inl rfl), if_f (show ¬ stOk k a b from fun hh => e hh.2.2)]
    · rw [if_f d, if_t rfl, boolR_e (Or.inl rfl), if_f (show ¬ stOk k a b from fun hh => d hh.2.1)]
  · rw [if_f c, if_t rfl, boolR_e (Or.inl rfl), if_f (show ¬ stOk k a b from fun hh => c hh.1)]
theorem two_a {c d : Prop} [Decidable c] [Decidable d] : (if (if c then (1 : Int) else 0) = 0 then some ((0 : Int), r) else if (if d then (1 : Int) else 0) = 0 then some (0, r) else some (1, r)) = some (if c ∧ d then 1 else 0, r) := by
  by_cases h : c
  · by_cases h2 : d
    · rw [if_t h, if_t h2, if_f (by decide), if_f (by decide), if_t ⟨h, h2⟩]
    · rw [if_t h, if_f h2, if_f (by decide), if_t rfl, if_f (fun hh => h2 hh.2)]
  · rw [if_f h, if_t rfl, if_f (fun hh => h hh.1)]
theorem two_b {c d : Prop} [Decidable c] [Decidable d] : (if (if c then (1 : Int) else 0) = 0 then some ((0 : Int), r) else if d then some (1, r) else some (0, r)) = some (if c ∧ d then 1 else 0, r) := by
  by_cases h : c
  · by_cases h2 : d
    · rw [if_t h, if_t h2, if_f (by decide), if_t ⟨h, h2⟩]
    · rw [if_t h, if_f h2, if_f (by decide), if_f (fun hh => h2 hh.2)]
  · rw [if_f h, if_t rfl, if_f (fun hh => h hh.1)]
theorem stOk_c {c d : Prop} [Decidable c] [Decidable d] (h : c ∧ d ↔ stOk k a b) : boolG (some (if c ∧ d then 1 else 0, r)) = some (if stOk k a b then 1 else 0, r) := by
  rw [boolG_e b01]
  by_cases e : stOk k a b
  · rw [if_t e, if_t (h.2 e)]
  · rw [if_f e, if_f (fun hh => e (h.1 hh))]
theorem g_isStep : G_isStep k a b r = some (if stOk k a b then 1 else 0, r) := by
  unfold G_isStep G_isStep_0
  have hk : k = 0 ∨ k = 1 ∨ k = 2 ∨ k = 3 ∨ k = 4 ∨ k = 5 ∨ k = 6 ∨ k = 7 ∨ k = 8 ∨ k = 9 ∨ k = 10 ∨ k = 11 ∨ k = 12 ∨ k = 13 ∨ k = 14 ∨ k = 15 ∨ (k < 0 ∨ 15 < k) := by omega
  rcases hk with rfl | rfl | rfl | rfl | rfl | rfl | rfl | rfl | rfl | rfl | rfl | rfl | rfl | rfl | rfl | rfl | hk
  · rw [if_t rfl, g_isIn, cag_e, g_isIn, cag_e, two_a]
    refine stOk_c ?_
    unfold stOk
    rw [show sar9 1 (Int.toNat 0) = 0 by decide, show sar9 2 (Int.toNat 0) = 5 by decide, show sar9 3 (Int.toNat 0) = 0 by decide, show sar9 4 (Int.toNat 0) = 1 by decide]
    omega
  · rw [if_f (by decide), if_t rfl, g_isIn, cag_e, two_b]
    refine stOk_c ?_
    unfold stOk
    rw [show sar9 1 (Int.toNat 1) = 1 by decide, show sar9 2 (Int.toNat 1) = 50 by decide, show sar9 3 (Int.toNat 1) = 0 by decide, show sar9 4 (Int.toNat 1) = 0 by decide]
    omega
  · rw [if_f (by decide), if_f (by decide), if_t rfl, g_isIn, cag_e, g_isIn, cag_e, two_a]
    refine stOk_c ?_
    unfold stOk
    rw [show sar9 1 (Int.toNat 2) = 0 by decide, show sar9 2 (Int.toNat 2) = 2 by decide, show sar9 3 (Int.toNat 2) = 0 by decide, show sar9 4 (Int.toNat 2) = 50 by decide]
    omega
  · rw [if_f (by decide), if_f (by decide), if_f (by decide), if_t rfl, g_isIn, cag_e, g_isIn, cag_e, two_a]
    refine stOk_c ?_
    unfold stOk
    rw [show sar9 1 (Int.toNat 3) = 0 by decide, show sar9 2 (Int.toNat 3) = 2 by decide, show sar9 3 (Int.toNat 3) = 0 by decide, show sar9 4 (Int.toNat 3) = 2 by decide]
    omega
  · rw [if_f (by decide), if_f (by decide), if_f (by decide), if_f (by decide), if_t rfl, g_isIn, cag_e, two_b]
    refine stOk_c ?_
    unfold stOk
    rw [show sar9 1 (Int.toNat 4) = 1 by decide, show sar9 2 (Int.toNat 4) = 3 by decide, show sar9 3 (Int.toNat 4) = 0 by decide, show sar9 4 (Int.toNat 4) = 0 by decide]
    omega
  · rw [if_f (by decide), if_f (by decide), if_f (by decide), if_f (by decide), if_f (by decide), if_t rfl, g_isValue, cag_e, g_isIn, cag_e, two_a]
    refine stOk_c ?_
    unfold stOk
    rw [show sar9 1 (Int.toNat 5) = -99 by decide, show sar9 2 (Int.toNat 5) = 99 by decide, show sar9 3 (Int.toNat 5) = 1 by decide, show sar9 4 (Int.toNat 5) = 11 by decide]
    omega
  · rw [if_f (by decide), if_f (by decide), if_f (by decide), if_f (by decide), if_f (by decide), if_f (by decide), if_t rfl, g_isValue, cag_e, g_isIn, cag_e, two_a]
    refine stOk_c ?_
    unfold stOk
    rw [show sar9 1 (Int.toNat 6) = -99 by decide, show sar9 2 (Int.toNat 6) = 99 by decide, show sar9 3 (Int.toNat 6) = 1 by decide, show sar9 4 (Int.toNat 6) = 11 by decide]
    omega
  · rw [if_f (by decide), if_f (by decide), if_f (by decide), if_f (by decide), if_f (by decide), if_f (by decide), if_f (by decide), if_t rfl, g_isValue, cag_e, two_b]
    refine stOk_c ?_
    unfold stOk
    rw [show sar9 1 (Int.toNat 7) = -99 by decide, show sar9 2 (Int.toNat 7) = 99 by decide, show sar9 3 (Int.toNat 7) = 0 by decide, show sar9 4 (Int.toNat 7) = 0 by decide]
    omega
  · rw [if_f (by decide), if_f (by decide), if_f (by decide), if_f (by decide), if_f (by decide), if_f (by decide), if_f (by decide), if_f (by decide), if_t rfl, g_isValue, cag_e, two_b]
    refine stOk_c ?_
    unfold stOk
    rw [show sar9 1 (Int.toNat 8) = -99 by decide, show sar9 2 (Int.toNat 8) = 99 by decide, show sar9 3 (Int.toNat 8) = 0 by decide, show sar9 4 (Int.toNat 8) = 0 by decide]
    omega
  · rw [if_f (by decide), if_f (by decide), if_f (by decide), if_f (by decide), if_f (by decide), if_f (by decide), if_f (by decide), if_f (by decide), if_f (by decide), if_t rfl, g_isIn, cag_e, g_isIn, cag_e, two_a]
    refine stOk_c ?_
    unfold stOk
    rw [show sar9 1 (Int.toNat 9) = 0 by decide, show sar9 2 (Int.toNat 9) = 5 by decide, show sar9 3 (Int.toNat 9) = 0 by decide, show sar9 4 (Int.toNat 9) = 1 by decide]
    omega
  · rw [if_f (by decide), if_f (by decide), if_f (by decide), if_f (by decide), if_f (by decide), if_f (by decide), if_f (by decide), if_f (by decide), if_f (by decide), if_f (by decide), if_t rfl, g_isIn, cag_e, g_isIn, cag_e, two_a]
    refine stOk_c ?_
    unfold stOk
    rw [show sar9 1 (Int.toNat 10) = 0 by decide, show sar9 2 (Int.toNat 10) = 3 by decide, show sar9 3 (Int.toNat 10) = 1 by decide, show sar9 4 (Int.toNat 10) = 11 by decide]
    omega
  · rw [if_f (by decide), if_f (by decide), if_f (by decide), if_f (by decide), if_f (by decide), if_f (by decide), if_f (by decide), if_f (by decide), if_f (by decide), if_f (by decide), if_f (by decide), if_t rfl, g_isIn, cag_e, two_b]
    refine stOk_c ?_
    unfold stOk
    rw [show sar9 1 (Int.toNat 11) = 1 by decide, show sar9 2 (Int.toNat 11) = 11 by decide, show sar9 3 (Int.toNat 11) = 0 by decide, show sar9 4 (Int.toNat 11) = 0 by decide]
    omega
  · rw [if_f (by decide), if_f (by decide), if_f (by decide), if_f (by decide), if_f (by decide), if_f (by decide), if_f (by decide), if_f (by decide), if_f (by decide), if_f (by decide), if_f (by decide), if_f (by decide), if_t rfl, g_isIn, cag_e, g_isIn, cag_e, two_a]
    refine stOk_c ?_
    unfold stOk
    rw [show sar9 1 (Int.toNat 12) = 0 by decide, show sar9 2 (Int.toNat 12) = 1 by decide, show sar9 3 (Int.toNat 12) = -99 by decide, show sar9 4 (Int.toNat 12) = 100 by decide]
    omega
  · rw [if_f (by decide), if_f (by decide), if_f (by decide), if_f (by decide), if_f (by decide), if_f (by decide), if_f (by decide), if_f (by decide), if_f (by decide), if_f (by decide), if_f (by decide), if_f (by decide), if_f (by decide), if_t rfl, g_isIn, cag_e, two_b]
    refine stOk_c ?_
    unfold stOk
    rw [show sar9 1 (Int.toNat 13) = 1 by decide, show sar9 2 (Int.toNat 13) = 9 by decide, show sar9 3 (Int.toNat 13) = 0 by decide, show sar9 4 (Int.toNat 13) = 0 by decide]
    omega
  · rw [if_f (by decide), if_f (by decide), if_f (by decide), if_f (by decide), if_f (by decide), if_f (by decide), if_f (by decide), if_f (by decide), if_f (by decide), if_f (by decide), if_f (by decide), if_f (by decide), if_f (by decide), if_f (by decide), g_isIn, cag_e, show (if (14 : Int) ≤ 14 ∧ (14 : Int) ≤ 15 then (1 : Int) else 0) = 1 by decide, if_f (by decide)]
    have e : ((0 : Int) ≤ 14 ∧ (14 : Int) ≤ 15) ∧ ((0 : Int) ≤ a ∧ a ≤ 0) ∧ (0 : Int) ≤ b ∧ b ≤ 0 ↔ stOk 14 a b := by
      unfold stOk
      rw [show sar9 1 (Int.toNat 14) = 0 by decide, show sar9 2 (Int.toNat 14) = 0 by decide, show sar9 3 (Int.toNat 14) = 0 by decide, show sar9 4 (Int.toNat 14) = 0 by decide]
    by_cases ha : a = 0
    · by_cases hb : b = 0
      · rw [if_t ha, if_t hb, boolG_e (Or.inr rfl), if_t (e.1 (by omega))]
      · rw [if_t ha, if_f hb, boolG_e (Or.inl rfl), if_f (fun hh => by have := e.2 hh; omega)]
    · rw [if_f ha, boolG_e (Or.inl rfl), if_f (fun hh => by have := e.2 hh; omega)]
  · rw [if_f (by decide), if_f (by decide), if_f (by decide), if_f (by decide), if_f (by decide), if_f (by decide), if_f (by decide), if_f (by decide), if_f (by decide), if_f (by decide), if_f (by decide), if_f (by decide), if_f (by decide), if_f (by decide), g_isIn, cag_e, show (if (14 : Int) ≤ 15 ∧ (15 : Int) ≤ 15 then (1 : Int) else 0) = 1 by decide, if_f (by decide)]
    have e : ((0 : Int) ≤ 15 ∧ (15 : Int) ≤ 15) ∧ ((0 : Int) ≤ a ∧ a ≤ 0) ∧ (0 : Int) ≤ b ∧ b ≤ 0 ↔ stOk 15 a b := by
      unfold stOk
      rw [show sar9 1 (Int.toNat 15) = 0 by decide, show sar9 2 (Int.toNat 15) = 0 by decide, show sar9 3 (Int.toNat 15) = 0 by decide, show sar9 4 (Int.toNat 15) = 0 by decide]
    by_cases ha : a = 0
    · by_cases hb : b = 0
      · rw [if_t ha, if_t hb, boolG_e (Or.inr rfl), if_t (e.1 (by omega))]
      · rw [if_t ha, if_f hb, boolG_e (Or.inl rfl), if_f (fun hh => by have := e.2 hh; omega)]
    · rw [if_f ha, boolG_e (Or.inl rfl), if_f (fun hh => by have := e.2 hh; omega)]
  · rw [if_f (show ¬ k = 0 by omega), if_f (show ¬ k = 1 by omega), if_f (show ¬ k = 2 by omega), if_f (show ¬ k = 3 by omega), if_f (show ¬ k = 4 by omega), if_f (show ¬ k = 5 by omega), if_f (show ¬ k = 6 by omega), if_f (show ¬ k = 7 by omega), if_f (show ¬ k = 8 by omega), if_f (show ¬ k = 9 by omega), if_f (show ¬ k = 10 by omega), if_f (show ¬ k = 11 by omega), if_f (show ¬ k = 12 by omega), if_f (show ¬ k = 13 by omega), g_isIn, cag_e, if_f (show ¬ (14 ≤ k ∧ k ≤ 15) by omega), if_t rfl, boolG_e (Or.inl rfl), if_f (show ¬ stOk k a b from fun hh => by have := hh.1; omega)]
theorem g_rowOf {v : Int} (t0 : 0 ≤ t) (t1 : t < 3) (v0 : 0 ≤ v) (v1 : v ≤ 5) : G_rowOf t v r = some (5 * t + v - 1, r) := by
  unfold G_rowOf G_rowOf_0
  rw [chk_t (by omega), chk_t (by omega), chk_t (by omega)]
/-- one family alone changes -/
theorem rel_fm (h : RelM r m) (g : Rg r) (b12 : ∀ s k, 0 ≤ s → s < 3 → 0 ≤ k → k ≤ r 6 s → r 5 (rowk r s k) ≤ 12) (t0 : 0 ≤ t) (t1 : t < 3) (em : ∀ i, i ≠ -1 → i ≠ -2 → ¬ (1000 * (t + 1) ≤ i ∧ i < 1000 * (t + 1) + 100) → m' i = m i) (e1 : ∀ i, ¬ (1000 * (t + 1) ≤ i ∧ i < 1000 * (t + 1) + 100) → m' (-1) i = m (-1) i) (er : ∀ (j : Nat) i, ¬ (j = 0 ∨ (2 ≤ j ∧ j ≤ 4 ∧ 60 * t ≤ i ∧ i < 60 * t + 60) ∨ (j = 5 ∧ 5 * t ≤ i ∧ i < 5 * t + 5) ∨ (j = 6 ∧ i = t)) → r' j i = r j i) (fm : Fm r' m' t) (fz : ∀ i, 1000 * (t + 1) + 10 * (r' 6 t + 2) ≤ i → i < 1000 * (t + 1) + 100 → m' (-1) i = 0) : RelM r' m' := by
  obtain ⟨h1, h2, h3, h4, h5, h6, h7, h8⟩ := h
  have ef : ∀ j : Nat, j = 1 ∨ 7 ≤ j → r' j = r j := fun j hj => by
    funext i
    exact er j i (by omega)
  have b10 := g.1
  refine ⟨h1.fr ⟨em 1 (by omega) (by omega) (by omega), em 3 (by omega) (by omega) (by omega)⟩ (by rw [ef 1 (by omega)]) (by rw [ef 16 (by omega)]) (by rw [ef 29 (by omega)]), h2.rows (fun i a b => em i (by omega) (by omega) (by omega)), fun s a b => ?_, fun q a b => (h4 q a b).fr a b (fun i c => em i (by omega) (by omega) (by omega)) (fun j c d => ef j (by omega)), fun q a b => (h5 q a b).fr a b (fun i c => em i (by omega) (by omega) (by omega)) (ef 38 (by omega)) (ef 39 (by omega)) (by rw [ef 16 (by omega)]; omega) (fun w _ _ => by rw [ef 12 (by omega)]) (fun w _ _ => by rw [ef 22 (by omega)]; exact Int.le_refl _), fun w a b => ?_, h7.fr (fun w a b => by rw [em _ (by omega) (by omega) (by omega)]) (by rw [ef 16 (by omega)]) (fun j c => ef j (by omega)), ⟨fun w a b i c d => ?_, fun w a b i c d => ?_, fun s a b i c d => ?_⟩⟩
  · by_cases c : s = t
    · rw [c]; exact fm
    · have f := h3 s a b
      have g6 := g.2.1 s a b
      unfold Fm at *
      rw [er 6 s (by omega), em 2 (by omega) (by omega) (by omega), em (1000 * (s + 1)) (by omega) (by omega) (by omega), em (1000 * (s + 1) + 1) (by omega) (by omega) (by omega)]
      refine ⟨f.1, f.2.1, fun k k0 k1 => ?_⟩
      have p := f.2.2 k k0 k1
      have rk : rowk r' s k = rowk r s k := by unfold rowk; rw [er 6 s (by omega)]
      have rb : 5 * s ≤ rowk r s k ∧ rowk r s k < 5 * s + 5 := by unfold rowk; split <;> omega
      rw [rk]
      unfold Pm at *
      rw [er 5 _ (by omega), em (1000 * (s + 1) + 10 * (k + 1)) (by omega) (by omega) (by omega), em (1000 * (s + 1) + 10 * (k + 1) + 1) (by omega) (by omega) (by omega), em (1000 * (s + 1) + 10 * (k + 1) + 2) (by omega) (by omega) (by omega), em (1000 * (s + 1) + 10 * (k + 1) + 3) (by omega) (by omega) (by omega)]
      refine ⟨p.1, fun x x0 x1 => ?_⟩
      have p2 := p.2 x x0 x1
      have l := b12 s k a b k0 k1
      rw [er 2 _ (by omega), er 3 _ (by omega), er 4 _ (by omega)]
      exact p2
  · rw [ef 16 (by omega)] at b
    exact (h6 w a b).fr (g.2.2 w a b) (fun i c d => em i (by omega) (by omega) (by omega)) fun j i c => by
      have := c.j
      rw [ef j (by omega)]
  · rw [ef 16 (by omega)] at a
    rw [e1 i (by omega)]
    exact h8.1 w a b i c d
  · unfold Rl at *
    rw [ef 16 (by omega)] at b
    rw [ef 12 (by omega), ef 22 (by omega)] at c
    have s := g.2.2 w a b
    have s1 := s.1
    have s3 := s.2.2.1
    rw [e1 i (by omega)]
    exact h8.2.1 w a b i c d
  · by_cases l : s = t
    · rw [l] at c d
      exact fz i c d
    · have g6 := g.2.1 s a b
      rw [er 6 s (by omega)] at c
      rw [e1 i (by omega)]
      exact h8.2.2 s a b i c d
end PG
