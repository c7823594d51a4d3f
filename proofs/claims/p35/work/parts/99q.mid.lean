/-! the middle of a decide: an event of a decision is put down, and what it does is done -/
section MK
variable {N N' : Int} {uf : Int → Int} {r r' : Rst} {m m' : Mem} {w n k x y q s b : Int}
/-- as RelC, with the number of the children that are not told to be over yet -/
def RelK (N : Int) (uf : Int → Int) (r : Rst) (m : Mem) : Prop := RelM r m ∧ (∀ w, 0 ≤ w → w < r 16 0 → CaW r m w ∧ m (Rl r w) 6 = uf w) ∧ GI N r
theorem RelC.toK (h : RelC N r m) : RelK N (fun _ => 0) r m := h
theorem RelK.toC (h : RelK N (fun _ => 0) r m) : RelC N r m := h
theorem RelK.mk (h : RelK N uf r m) (h1 : RelM r' m') (g' : GI N' r') (em : ∀ w, 0 ≤ w → w < r 16 0 → m' (Rl r w) 10 = m (Rl r w) 10 ∧ m' (Rl r w) 6 = m (Rl r w) 6) (er : ∀ j : Nat, j = 12 ∨ j = 16 ∨ j = 18 ∨ j = 19 → r' j = r j) : RelK N' uf r' m' := by
  refine ⟨h1, fun w a b => ?_, g'⟩
  rw [er 16 (by omega)] at b
  have k := h.2.1 w a b
  unfold CaW hk rw9 Rl at *
  rw [er 12 (by omega), er 18 (by omega), er 19 (by omega), (em w a b).1, (em w a b).2]
  exact k
/-- the history of a run, one event of a decision later -/
theorem HI.app (h : HI r w) (eb : r 18 (rw9 r w) = b) (b80 : b < 80) (hr : r 17 (rw9 r w) = 20) (k7 : 7 ≤ k) (k16 : k ≤ 16) (h16 : k = 16 → r' 17 (rw9 r w) ≠ 20) (hl : 7 < k → 7 ≤ hk r w (b - 1)) (e12 : r' 12 w = r 12 w) (e18 : r' 18 (rw9 r w) = b + 1) (e19k : r' 19 (80 * rw9 r w + b) = k) (e19 : ∀ (j : Nat) i, 19 ≤ j → j ≤ 21 → 0 ≤ i → i < b → r' j (80 * rw9 r w + i) = r j (80 * rw9 r w + i)) (e22 : r' 22 w = r 22 w + if pA k = true then 1 else 0) (e30 : r' 30 w = r 30 w + if pT k = true then 1 else 0) (e32 : r' 32 w = r 32 w + if pM k = true then 1 else 0) (e23 : ∀ n, 0 ≤ n → n < r 22 w → r 23 (80 * w + n) = 0 → r' 23 (80 * w + n) = 0) (e33 : ∀ n, 0 ≤ n → n < r 32 w → r' 33 (80 * w + n) = r 33 (80 * w + n)) (e17c : ∀ n, 0 ≤ n → n < r 32 w → r 33 (80 * w + n) ≠ -1 → r 17 (rw9 r (r 33 (80 * w + n))) ≠ 20 → r' 17 (rw9 r' (r 33 (80 * w + n))) ≠ 20) : HI r' w := by
  have er : rw9 r' w = rw9 r w := by unfold rw9; rw [e12]
  unfold HI at h
  rw [eb] at h
  obtain ⟨a1, a2, a3, a4, a5, a6, a7, a8, a9, b1, b2, b3, b4⟩ := h
  have ek : ∀ i, 0 ≤ i → i < b → hk r' w i = hk r w i := fun i c d => by
    unfold hk
    rw [er]
    exact e19 19 i (by omega) (by omega) c d
  have kb : hk r' w b = k := by unfold hk; rw [er]; exact e19k
  have cn : ∀ p : Int → Bool, cntP p (hk r' w) (b + 1).toNat = cntP p (hk r w) b.toNat + if p k = true then 1 else 0 := fun p => by
    rw [show (b + 1).toNat = b.toNat + 1 by omega, cntP, cntP_congr (f := hk r' w) (g := hk r w) (fun i c d => ek i c (by omega)), show ((b.toNat : Nat) : Int) = b by omega, kb]
  have p22 : r 22 w ≤ r' 22 w := by rw [e22]; split <;> omega
  have p32 : r 32 w ≤ r' 32 w := by rw [e32]; split <;> omega
  unfold HI
  rw [er, e18]
  refine ⟨by omega, ?_, fun i c d => ?_, fun i c d => ?_, fun i c d => ?_, fun i c d => ?_, fun i c d => ?_, fun i j c d e => ?_, fun i c d => ?_, fun i j c d e => ?_, fun i c d => ?_, fun i c d => ?_, ?_⟩
  · rw [ek 0 (by omega) (by omega)]; exact a2
  · by_cases e : i = b
    · rw [e, kb]; omega
    · rw [ek i (by omega) (by omega)]; exact a3 i c (by omega)
  · by_cases e : i = b
    · rw [e, kb]; omega
    · rw [ek i (by omega) (by omega)]; exact a4 i c (by omega)
  · by_cases e : i = b
    · rw [e, kb]; omega
    · rw [ek i (by omega) (by omega), e19 20 i (by omega) (by omega) c (by omega), e19 21 i (by omega) (by omega) c (by omega)]; exact a5 i c (by omega)
  · by_cases e : i = b
    · rw [e, kb]; omega
    · rw [ek i (by omega) (by omega), e19 20 i (by omega) (by omega) c (by omega)]; exact a6 i c (by omega)
  · by_cases e : i = b
    · rw [e, kb]; omega
    · rw [ek i (by omega) (by omega), e19 20 i (by omega) (by omega) c (by omega)]
      intro f
      have f1 := a7 i c (by omega) f
      have f2 := a6 i c (by omega) (by omega) (by omega)
      exact ⟨by omega, e23 _ f2 f1.1 f1.2⟩
  · by_cases f : j = b
    · rw [f, kb]; omega
    · rw [ek i c (by omega), ek j (by omega) (by omega), e19 20 i (by omega) (by omega) c (by omega), e19 20 j (by omega) (by omega) (by omega) (by omega)]; exact a8 i j c d (by omega)
  · by_cases e : i = b
    · rw [e, kb]; omega
    · rw [ek i (by omega) (by omega), e19 20 i (by omega) (by omega) c (by omega)]
      intro f
      have f1 := a9 i c (by omega) f
      have f2 := a6 i c (by omega) (by omega) (by omega)
      rw [e33 _ f2 f1.1]
      refine ⟨by omega, ?_⟩
      by_cases g : r 33 (80 * w + r 20 (80 * rw9 r w + i)) = -1
      · exact Or.inl g
      · exact Or.inr (e17c _ f2 f1.1 g (f1.2.resolve_left g))
  · by_cases f : j = b
    · rw [f, kb]; omega
    · rw [ek i c (by omega), ek j (by omega) (by omega), e19 20 i (by omega) (by omega) c (by omega), e19 20 j (by omega) (by omega) (by omega) (by omega)]; exact b1 i j c d (by omega)
  · by_cases e : i = b
    · rw [e, kb]
      exact fun f => ⟨by omega, h16 f⟩
    · rw [ek i (by omega) (by omega)]
      exact fun f => absurd hr (b2 i c (by omega) f).2
  · by_cases e : i = b
    · rw [e, kb, ek (b - 1) (by omega) (by omega)]; exact hl
    · rw [ek i (by omega) (by omega), ek (i - 1) (by omega) (by omega)]; exact b3 i c (by omega)
  · rw [cn, cn, cn, e22, e30, e32]
    obtain ⟨c1, c2, c3⟩ := b4
    rw [c1, c2, c3]
    exact ⟨rfl, rfl, rfl⟩
/-- what always holds, where a workflow's own things change -/
theorem GI.own (h : GI N r) (w0 : 0 ≤ w) (w1 : w < r 16 0) (eo : ∀ j : Nat, 1 ≤ j → j < 40 → ¬ (13 ≤ j ∧ j ≤ 15) → ¬ (17 ≤ j ∧ j ≤ 35) → j ≠ 39 → r' j = r j) (fp : Fb r' ∧ Pt r') (e13 : ∀ i, r 16 0 ≤ i / 2 → r' 13 i = r 13 i) (e17 : ∀ i, i ≠ rw9 r w → r' 17 i = r 17 i) (e17w : r' 17 (rw9 r w) = r 17 (rw9 r w) ∨ r' 17 (rw9 r w) ≠ 20) (e18 : ∀ i, i ≠ rw9 r w → r' 18 i = r 18 i) (e19 : ∀ (j : Nat) i, 19 ≤ j → j ≤ 21 → ¬ (80 * rw9 r w ≤ i ∧ i < 80 * rw9 r w + 80) → r' j i = r j i) (e22 : ∀ (j : Nat) i, j = 22 ∨ j = 30 ∨ j = 32 → i ≠ w → r' j i = r j i) (e23 : ∀ (j : Nat) i, (23 ≤ j ∧ j ≤ 27 ∨ j = 33) → ¬ (80 * w ≤ i ∧ i < 80 * w + 80) → r' j i = r j i) (hi : HI r' w) (g32 : r 32 w ≤ r' 32 w) (g33 : ∀ n, 0 ≤ n → n < r 32 w → r' 33 (80 * w + n) = r 33 (80 * w + n)) (g33n : ∀ n, r 32 w ≤ n → n < r' 32 w → r' 33 (80 * w + n) = -1) (gk : ∀ n, 0 ≤ n → n < r' 22 w → (r' 23 (80 * w + n) = 1 → 0 ≤ r' 25 (80 * w + n) ∧ r' 25 (80 * w + n) ≤ 2) ∧ (r' 23 (80 * w + n) = 2 → (1 ≤ r' 25 (80 * w + n) ∧ r' 25 (80 * w + n) ≤ 3) ∧ r 1 0 ≤ r' 27 (80 * w + n)) ∧ (r' 23 (80 * w + n) = 3 → (1 ≤ r' 25 (80 * w + n) ∧ r' 25 (80 * w + n) ≤ 2) ∧ r 1 0 ≤ r' 26 (80 * w + n))) (h39 : ∀ q, 0 ≤ q → q < 4 → r' 39 q = -1 ∨ r' 23 (r' 39 q) = 2) (h29 : 0 ≤ r' 29 0 ∧ r' 29 0 ≤ 100 * N) : GI N r' := by
  have rg := h.rg
  have lt := fun w2 (a : 0 ≤ w2) (b : w2 < r 16 0) => h.lt a b
  obtain ⟨c1, c2, c3, c4, c5, c6, c7, c8, c9⟩ := h
  have b10 := c1.2
  have e1 : r' 1 = r 1 := eo 1 (by omega) (by omega) (by omega) (by omega) (by omega)
  have e12 : r' 12 = r 12 := eo 12 (by omega) (by omega) (by omega) (by omega) (by omega)
  have e16 : r' 16 = r 16 := eo 16 (by omega) (by omega) (by omega) (by omega) (by omega)
  have e9 : r' 9 = r 9 := eo 9 (by omega) (by omega) (by omega) (by omega) (by omega)
  have e10 : r' 10 = r 10 := eo 10 (by omega) (by omega) (by omega) (by omega) (by omega)
  have e11 : r' 11 = r 11 := eo 11 (by omega) (by omega) (by omega) (by omega) (by omega)
  have er9 : ∀ w2, rw9 r' w2 = rw9 r w2 := fun w2 => by unfold rw9; rw [e12]
  have s := rg.2.2 w w0 w1
  have s1 := s.1
  have s2 := s.2.1
  have ew : rw9 r w = 9 * w + r 12 w - 1 := rfl
  refine ⟨by rw [e16]; exact c1, ?_, fp, ?_, ⟨fun w2 a b => ?_, fun w2 k a b c d => ?_, fun w2 k a b c d => ?_⟩, fun w2 a b => ?_, ⟨fun w2 n a b c d => ?_, fun c a b => ?_⟩, ⟨fun q a b => ⟨by rw [eo 38 (by omega) (by omega) (by omega) (by omega) (by omega)]; exact (c8.1 q a b).1, h39 q a b⟩, fun w2 n a b c d => ?_⟩, by rw [e1]; exact c9.1, h29, fun q a b => by rw [eo 36 (by omega) (by omega) (by omega) (by omega) (by omega)]; exact c9.2.2.1 q a b, fun i a b => by rw [eo 37 (by omega) (by omega) (by omega) (by omega) (by omega)]; exact c9.2.2.2 i a b⟩
  · unfold GP StC PgR at *
    simp (disch := omega) only [ur_ne, ur_e] at c2 ⊢
    rw [eo 2 (by omega) (by omega) (by omega) (by omega) (by omega), eo 3 (by omega) (by omega) (by omega) (by omega) (by omega), eo 4 (by omega) (by omega) (by omega) (by omega) (by omega), eo 5 (by omega) (by omega) (by omega) (by omega) (by omega), eo 6 (by omega) (by omega) (by omega) (by omega) (by omega)]
    exact c2
  · unfold GW at *
    rw [e16, eo 7 (by omega) (by omega) (by omega) (by omega) (by omega), eo 8 (by omega) (by omega) (by omega) (by omega) (by omega), e12]
    exact c4
  · rw [e16] at a
    rw [e12, e13 _ (by omega), e13 _ (by omega)]
    exact c5.1 w2 a b
  · rw [e12] at c
    by_cases e : w2 = w
    · rw [e] at c ⊢
      rw [e18 _ (by omega)]
      exact c5.2.1 w k w0 (by omega) c d
    · have p2 : 0 ≤ r 12 w2 := by
        by_cases f : w2 < r 16 0
        · have := (rg.2.2 w2 a f).1
          omega
        · rw [(c5.1 w2 (by omega) b).1]; omega
      rw [e18 _ (by omega)]
      exact c5.2.1 w2 k a b c d
  · rw [e16] at b
    rw [e12] at d
    by_cases e : 9 * w2 + k - 1 = rw9 r w
    · have := hi.1
      rw [er9] at this
      rw [e]; exact this
    · rw [e18 _ e]
      exact c5.2.2 w2 k a b c d
  · rw [e16] at b
    by_cases e : w2 = w
    · rw [e]; exact hi
    · have s' := rg.2.2 w2 a b
      have s1' := s'.1
      have s2' := s'.2.1
      have ew2 : rw9 r w2 = 9 * w2 + r 12 w2 - 1 := rfl
      have l2 := lt w2 a b
      refine (c6 w2 a b).fr (by rw [e12]) (e18 _ (by omega)) (fun j i f g u v => e19 j _ f g (by omega)) (e22 22 _ (by omega) e) (e22 30 _ (by omega) e) (e22 32 _ (by omega) e) (Or.inl (e17 _ (by omega))) (fun n f g u => by rw [e23 23 _ (by omega) (by omega)]; exact u) (fun n f g => e23 33 _ (by omega) (by omega)) (fun n f g u v => ?_)
      rw [er9]
      by_cases z : rw9 r (r 33 (80 * w2 + n)) = rw9 r w
      · rw [z] at v ⊢
        rcases e17w with t | t
        · rw [t]; exact v
        · exact t
      · rw [e17 _ z]; exact v
  · rw [e16] at b
    rw [e16, e9, e10, e11, e12]
    by_cases e : w2 = w
    · rw [e] at d ⊢
      by_cases f : n < r 32 w
      · rw [g33 n c f]; exact c7.1 w n w0 w1 c f
      · exact Or.inl (g33n n (by omega) d)
    · rw [e22 32 _ (by omega) e] at d
      have l2 := lt w2 a b
      rw [e23 33 _ (by omega) (by omega)]
      exact c7.1 w2 n a b c d
  · rw [e16] at b
    rw [e9, e10, e11, e12]
    rcases c7.2 c a b with f | ⟨f1, f2, f3, f4⟩
    · exact Or.inl f
    · refine Or.inr ⟨f1, f2, f3, fun g => ?_⟩
      obtain ⟨g1, g2, g3⟩ := f4 g
      by_cases e : r 9 c = w
      · rw [e] at g2 g3 ⊢
        rw [g33 _ g1 g2]
        exact ⟨g1, by omega, g3⟩
      · have l2 := lt (r 9 c) f1 (by omega)
        rw [e22 32 _ (by omega) e, e23 33 _ (by omega) (by omega)]
        exact ⟨g1, g2, g3⟩
  · rw [e16] at b
    rw [e1]
    by_cases e : w2 = w
    · rw [e] at d ⊢
      exact gk n c d
    · rw [e22 22 _ (by omega) e] at d
      have l2 := lt w2 a b
      rw [e23 23 _ (by omega) (by omega), e23 25 _ (by omega) (by omega), e23 26 _ (by omega) (by omega), e23 27 _ (by omega) (by omega)]
      exact c8.2 w2 n a b c d
end MK
