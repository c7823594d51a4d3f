/-! children that found no room are told to be over -/
section EV2
variable {N N' : Int} {uf : Int → Int} {r r' z r0 r1 r2 : Rst} {m m' m0 m1 : Mem} {w n k x y q s b c a v row I o t l u f W E M p nu pa L R F : Int}
theorem RelK.happen {k x y : Int} (h : RelK N uf r m) (w0 : 0 ≤ w) (w1 : w < r 16 0) (k1 : 1 ≤ k) (k5 : k ≤ 5) (bx : -100000 ≤ x ∧ x ≤ 100000) (bY : -100000 ≤ y ∧ y ≤ 100000) (hx : 0 ≤ x) (h12 : r 17 (rw9 r w) = 20 → k = 1 ∨ k = 2 → x < r 22 w ∧ r 23 (80 * w + x) = 0 ∧ ∀ i, 0 ≤ i → i < r 18 (rw9 r w) → hk r w i = 1 ∨ hk r w i = 2 → r 20 (80 * rw9 r w + i) ≠ x) (h5 : r 17 (rw9 r w) = 20 → k = 5 → x < r 32 w ∧ (r 33 (80 * w + x) = -1 ∨ r 17 (rw9 r (r 33 (80 * w + x))) ≠ 20) ∧ ∀ i, 0 ≤ i → i < r 18 (rw9 r w) → hk r w i = 5 → r 20 (80 * rw9 r w + i) ≠ x) : ∃ v m' r', X7_happen (Rl r w) k x y m = some (v, m') ∧ G_happens w k x y r = some (v, r') ∧ (v = 0 ∨ v = 1) ∧ RelK N uf r' m' ∧ (∀ i, ¬ (Rl r w + 1 ≤ i ∧ i ≤ Rl r w + 4) → m' i = m i) ∧ (∀ j : Nat, j < 18 ∨ 21 < j → r' j = r j) ∧ (r' = r ∨ r 18 (rw9 r w) < 80 ∧ r' = wr w k x y r) := by
  have g := h.2.2.rg
  obtain ⟨v, m', r', a1, a2, a3, ⟨rfl, a4, a5, rfl, rfl⟩ | ⟨rfl, a4, rfl, rfl⟩⟩ := rel_happen (k := k) (x := x) (y := y) h.1 g w0 w1
  · refine ⟨1, _, _, a1, a2, Or.inr rfl, ⟨a3, fun w2 c d => ?_, h.2.2.ev w0 w1 a4 a5 k1 (by omega) bx bY (fun _ => hx) (h12 a4) (h5 a4)⟩, fun i hi => ?_, fun j hj => wr_n hj, Or.inr ⟨by omega, rfl⟩⟩
    · rw [wr_n (by omega)] at d
      exact caw_put g h.2.1 (by omega) w0 w1 (by omega) w2 c d
    · unfold put9
      rw [upd9_row (by omega), upd9_row (by omega), upd9_row (by omega), upd9_row (by omega)]
  · exact ⟨0, m', r', a1, a2, Or.inl rfl, h, fun _ _ => rfl, fun _ _ => rfl, Or.inl rfl⟩
/-- the number of unmade children is no matter to the rest -/
theorem RelM.r6 (h : RelM r m) (g : Rg r) (w0 : 0 ≤ w) (w1 : w < r 16 0) (k0 : 1 ≤ k) (k1 : k ≤ r 12 w) : RelM r (upd9 m (100000 * (w + 1) + 10000 * k) 6 v) := by
  have s := g.2.2 w w0 w1
  obtain ⟨s1, s2, s3, s4, s5, s6⟩ := s
  have b10 := g.1
  have eR9 : Rl r w = 100000 * (w + 1) + 10000 * r 12 w := rfl
  obtain ⟨f1, f2, f3, f4, f5⟩ := h.2.2.2.2.2.1 w w0 w1
  obtain ⟨R, hR⟩ : ∃ R, R = 100000 * (w + 1) + 10000 * k := ⟨_, rfl⟩
  rw [← hR]
  have em : ∀ i, i ≠ R → upd9 m R 6 v i = m i := fun i hi => upd9_row hi
  have eR : ∀ i j, j ≠ 6 → upd9 m R 6 v i j = m i j := fun i j hj => upd9_n (Or.inr hj)
  refine h.flow g w0 w1 (h.1.fr ⟨em 1 (by omega), em 3 (by omega)⟩ rfl rfl rfl) (fun i hi => em i (by omega)) (fun j a b => rfl) rfl (fun j i a b c d e => rfl) (fun q a b => (h.2.2.2.1 q a b).fr a b (fun i c => em i (by omega)) fun j c d => rfl) (fun q a b => (h.2.2.2.2.1 q a b).fr a b (fun i c => em i (by omega)) rfl rfl (Int.le_refl _) (fun w c d => rfl) (fun w c d => Int.le_refl _)) ⟨f1.fr (fun i a b => em i (by omega)) (fun j i a b => rfl), fun k2 a b => ?_, ?_, f4.fr s3.2 (fun i a => em i (by omega)) (fun j i a b => rfl), f5.fr s4.2 (em _ (by omega)) fun j i a b => rfl⟩ (h.2.2.2.2.2.2.1.fr (fun w a b => by rw [em _ (by omega)]) rfl (fun j c => rfl)) (h.2.2.2.2.2.2.2.fr (em _ (by omega)) rfl (fun t a b => rfl) (fun w a b => rfl) (fun w a b => rfl))
  · have u := f2 k2 a b
    unfold Ru at *
    rw [eR _ 0 (by decide), eR _ 1 (by decide), eR _ 2 (by decide), eR _ 7 (by decide), em (100000 * (w + 1) + 10000 * k2 + 1) (by omega), em (100000 * (w + 1) + 10000 * k2 + 2) (by omega), em (100000 * (w + 1) + 10000 * k2 + 3) (by omega), em (100000 * (w + 1) + 10000 * k2 + 4) (by omega)]
    exact u
  · unfold Lt at *
    rw [eR _ 3 (by decide), eR _ 4 (by decide), eR _ 5 (by decide), eR _ 8 (by decide), eR _ 9 (by decide)]
    exact f3
/-- all are told -/
theorem RelK.told0 (h : RelK N (fun w2 => if w2 = w then u else 0) r m) (w0 : 0 ≤ w) (w1 : w < r 16 0) : RelC N r (upd9 m (Rl r w) 6 0) := by
  have g := h.2.2.rg
  have s := g.2.2 w w0 w1
  refine ⟨h.1.r6 g w0 w1 s.1 (Int.le_refl _), fun w2 a b => ?_, h.2.2⟩
  have k := h.2.1 w2 a b
  have t := g.2.2 w2 a b
  have t1 := t.1
  have t2 := t.2.1
  have s1 := s.1
  have s2 := s.2.1
  unfold CaW at *
  rw [upd9_n (Or.inr (by decide))]
  refine ⟨k.1, ?_⟩
  by_cases e : w2 = w
  · rw [e, upd9_e rfl rfl]
  · have k2 : m (Rl r w2) 6 = (if w2 = w then u else 0) := k.2
    rw [if_f e] at k2
    rw [upd9_n (Or.inl (by unfold Rl; omega))]
    exact k2
theorem RelC.r6 (h : RelC N r m) (w0 : 0 ≤ w) (w1 : w < r 16 0) (k0 : 1 ≤ k) (k1 : k < r 12 w) : RelC N r (upd9 m (100000 * (w + 1) + 10000 * k) 6 v) := by
  have g := h.2.2.rg
  refine ⟨h.1.r6 g w0 w1 k0 (by omega), fun w2 a b => ?_, h.2.2⟩
  have kk := h.2.1 w2 a b
  have t := g.2.2 w2 a b
  have t1 := t.1
  have t2 := t.2.1
  have s := g.2.2 w w0 w1
  have s2 := s.2.1
  unfold CaW at *
  rw [upd9_row (by
    unfold Rl
    by_cases e : w2 = w
    · rw [e]; omega
    · omega)]
  exact kk
theorem unm_loop (w0 : 0 ≤ w) : ∀ (d : Nat) (l : Int) (t t2 : Nat) (r : Rst) (m : Mem), r 32 w - l = d → 0 ≤ l → d < t → d < t2 → w < r 16 0 → RelK N uf r m → (∀ n, l ≤ n → n < r 32 w → r 33 (80 * w + n) = -1) → (∀ i, 0 ≤ i → i < r 18 (rw9 r w) → hk r w i = 5 → r 20 (80 * rw9 r w + i) < l) → ∃ r' m', X7_tellUnmade_10 t (Rl r w) l m = some (0, upd9 m' (Rl r w) 6 0) ∧ G_does_191 t2 w l r = some (0, r') ∧ RelK N uf r' m' ∧ (∀ i, i < 1000 → m' i = m i) ∧ ∀ j : Nat, j < 18 ∨ 21 < j → r' j = r j := by
  intro d
  induction d with
  | zero =>
    intro l t t2 r m hd l0 ht ht2 w1 h hu h5
    obtain ⟨t, rfl⟩ : ∃ k, t = k + 1 := ⟨t - 1, by omega⟩
    obtain ⟨t2, rfl⟩ : ∃ k, t2 = k + 1 := ⟨t2 - 1, by omega⟩
    have g := h.2.2.rg
    have b10 := g.1
    have s1 := (g.2.2 w w0 w1).1
    have l5 := (h.1.2.2.2.2.2.1 w w0 w1).2.2.1.2.2.1
    refine ⟨r, m, ?_, ?_, h, fun _ _ => rfl, fun _ _ => rfl⟩
    · rw [X7_tellUnmade_10, l5, if_t (by omega), st_e, chk_t (by unfold Rl; omega)]
    · rw [G_does_191, if_t (by omega), chk_t (by omega)]
  | succ d ih =>
    intro l t t2 r m hd l0 ht ht2 w1 h hu h5
    obtain ⟨t, rfl⟩ : ∃ k, t = k + 1 := ⟨t - 1, by omega⟩
    obtain ⟨t2, rfl⟩ : ∃ k, t2 = k + 1 := ⟨t2 - 1, by omega⟩
    have g := h.2.2.rg
    have b10 := g.1
    have s := g.2.2 w w0 w1
    have s1 := s.1
    have s2 := s.2.1
    have lt := h.2.2.lt w0 w1
    have l5 := (h.1.2.2.2.2.2.1 w w0 w1).2.2.1.2.2.1
    have h33 := hu l (Int.le_refl _) (by omega)
    obtain ⟨v, m', r', a1, a2, a3, a4, a5, a6, a7⟩ := h.happen (k := 5) (x := l) (y := -1) w0 w1 (by omega) (by omega) (by omega) (by omega) l0 (fun _ e => by omega) (fun _ _ => ⟨by omega, Or.inl h33, fun i i0 i1 e => by have := h5 i i0 i1 e; omega⟩)
    have e12 : r' 12 w = r 12 w := by rw [a6 12 (by omega)]
    have eRl : Rl r' w = Rl r w := by unfold Rl; rw [e12]
    have e9 : rw9 r' w = rw9 r w := by unfold rw9; rw [e12]
    have eR9 : Rl r w = 100000 * (w + 1) + 10000 * r 12 w := rfl
    obtain ⟨r2, m2, k1, k2, k3, k4, k5⟩ := ih (l + 1) t t2 r' m' (by rw [a6 32 (by omega)]; omega) (by omega) (by omega) (by omega) (by rw [a6 16 (by omega)]; exact w1) a4 (fun n n0 n1 => by
      rw [a6 32 (by omega)] at n1
      rw [a6 33 (by omega)]
      exact hu n (by omega) n1) (fun i i0 i1 e => by
      rcases a7 with a7 | ⟨a8, a7⟩
      · rw [a7] at i1 e ⊢
        have := h5 i i0 i1 e
        omega
      · unfold hk at e h5
        rw [e9] at i1 e ⊢
        rw [a7] at i1 e ⊢
        rw [wr_18] at i1
        by_cases c : i = r 18 (rw9 r w)
        · rw [c, wr_v.2.1]; omega
        · rw [wr_o (by omega) (by omega)] at e
          rw [wr_o (by omega) (by omega)]
          have := h5 i i0 (by omega) e
          omega)
    rw [eRl] at k1
    refine ⟨r2, m2, ?_, ?_, k3, fun i hi => by rw [k4 i hi, a5 i (by omega)], fun j hj => by rw [k5 j hj, a6 j hj]⟩
    · rw [X7_tellUnmade_10, l5, if_f (by omega), a1, cal_e, k1]
      repeat rw [chk_t (by omega)]
    · rw [G_does_191, if_f (by omega), h33, if_t rfl, a2, cag_e]
      rcases a3 with a3 | a3
      · rw [if_t a3, k2]
        repeat rw [chk_t (by omega)]
      · rw [if_f (by omega), k2]
        repeat rw [chk_t (by omega)]
/-- ahead of the first of them, none -/
theorem unm_skip (w0 : 0 ≤ w) (w9 : w < 10) (n80 : r 32 w ≤ 80) : ∀ (d : Nat) (l b : Int) (t : Nat), b - l = d → 0 ≤ l → b ≤ r 32 w → (∀ n, l ≤ n → n < b → r 33 (80 * w + n) ≠ -1) → G_does_191 (t + d) w l r = G_does_191 t w b r := by
  intro d
  induction d with
  | zero =>
    intro l b t hd l0 hb hu
    rw [show l = b by omega]
    rfl
  | succ d ih =>
    intro l b t hd l0 hb hu
    rw [show t + (d + 1) = (t + d) + 1 from rfl, G_does_191, if_f (by omega), if_f (hu l (Int.le_refl _) (by omega)), ← ih (l + 1) b t (by omega) (by omega) hb (fun n n0 n1 => hu n (by omega) n1)]
    repeat rw [chk_t (by omega)]
/-- a run that isn't RUNNING is told nothing -/
theorem unm_none (hR : 1000 < R) (h7 : m R 7 ≠ 20) (h5 : m R 5 ≤ 100) : ∀ (d : Nat) (l : Int) (t : Nat), m R 5 - l = d → 0 ≤ l → d < t → X7_tellUnmade_10 t R l m = some (0, upd9 m R 6 0) := by
  intro d
  induction d with
  | zero =>
    intro l t hd l0 ht
    obtain ⟨t, rfl⟩ : ∃ k, t = k + 1 := ⟨t - 1, by omega⟩
    rw [X7_tellUnmade_10, if_t (by omega), st_e, chk_t (by omega)]
  | succ d ih =>
    intro l t hd l0 ht
    obtain ⟨t, rfl⟩ : ∃ k, t = k + 1 := ⟨t - 1, by omega⟩
    have hh : X7_happen R 5 l (-1) m = some (0, m) := by
      unfold X7_happen X7_happen_0
      rw [if_f h7, chk_t (by omega), boolR_e (Or.inl rfl)]
    rw [X7_tellUnmade_10, if_f (by omega), hh, cal_e, ih (l + 1) t (by omega) (by omega) (by omega)]
    repeat rw [chk_t (by omega)]
end EV2
