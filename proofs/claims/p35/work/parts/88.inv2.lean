/-! what always holds, behind an event -/
section IV
variable {N : Int} {r r' : Rst} {w : Int}
theorem HI.fr (h : HI r w) (e12 : r' 12 w = r 12 w) (e18 : r' 18 (rw9 r w) = r 18 (rw9 r w)) (e19 : ∀ (j : Nat) i, 19 ≤ j → j ≤ 21 → 0 ≤ i → i < r 18 (rw9 r w) → r' j (80 * rw9 r w + i) = r j (80 * rw9 r w + i)) (e22 : r' 22 w = r 22 w) (e30 : r' 30 w = r 30 w) (e32 : r' 32 w = r 32 w) (e17 : r' 17 (rw9 r w) = r 17 (rw9 r w) ∨ r' 17 (rw9 r w) ≠ 20) (e23 : ∀ n, 0 ≤ n → n < r 22 w → r 23 (80 * w + n) = 0 → r' 23 (80 * w + n) = 0) (e33 : ∀ n, 0 ≤ n → n < r 32 w → r' 33 (80 * w + n) = r 33 (80 * w + n)) (e17c : ∀ n, 0 ≤ n → n < r 32 w → r 33 (80 * w + n) ≠ -1 → r 17 (rw9 r (r 33 (80 * w + n))) ≠ 20 → r' 17 (rw9 r' (r 33 (80 * w + n))) ≠ 20) : HI r' w := by
  obtain ⟨a1, a2, a3, a4, a5, a6, a7, a8, a9, b1, b2, b3, b4⟩ := h
  have er : rw9 r' w = rw9 r w := by unfold rw9; rw [e12]
  have ek : ∀ i, 0 ≤ i → i < r 18 (rw9 r w) → hk r' w i = hk r w i := fun i c d => by
    unfold hk
    rw [er]
    exact e19 19 i (by omega) (by omega) c d
  unfold HI
  rw [er, e18, e22, e30, e32]
  have cn : ∀ p : Int → Bool, cntP p (hk r' w) (r 18 (rw9 r w)).toNat = cntP p (hk r w) (r 18 (rw9 r w)).toNat := fun p => cntP_congr fun i c d => ek i c (by omega)
  refine ⟨a1, by rw [ek 0 (by omega) (by omega)]; exact a2, fun i c d => by rw [ek i (by omega) d]; exact a3 i c d, fun i c d => by rw [ek i c d]; exact a4 i c d, fun i c d => ?_, fun i c d => ?_, fun i c d => ?_, fun i j c d e => ?_, fun i c d => ?_, fun i j c d e => ?_, fun i c d => ?_, fun i c d => ?_, ?_⟩
  · rw [ek i c d, e19 20 i (by omega) (by omega) c d, e19 21 i (by omega) (by omega) c d]; exact a5 i c d
  · rw [ek i c d, e19 20 i (by omega) (by omega) c d]; exact a6 i c d
  · rw [ek i c d, e19 20 i (by omega) (by omega) c d]
    intro k
    have k1 := a7 i c d k
    have k2 := a6 i c d (by omega) (by omega)
    exact ⟨k1.1, e23 _ k2 k1.1 k1.2⟩
  · rw [ek i c (by omega), ek j (by omega) e, e19 20 i (by omega) (by omega) c (by omega), e19 20 j (by omega) (by omega) (by omega) e]; exact a8 i j c d e
  · rw [ek i c d, e19 20 i (by omega) (by omega) c d]
    intro k
    have k1 := a9 i c d k
    have k2 := a6 i c d (by omega) (by omega)
    rw [e33 _ k2 k1.1]
    refine ⟨k1.1, ?_⟩
    by_cases f : r 33 (80 * w + r 20 (80 * rw9 r w + i)) = -1
    · exact Or.inl f
    · rcases k1.2 with g | g
      · exact absurd g f
      · exact Or.inr (e17c _ k2 k1.1 f g)
  · rw [ek i c (by omega), ek j (by omega) e, e19 20 i (by omega) (by omega) c (by omega), e19 20 j (by omega) (by omega) (by omega) e]; exact b1 i j c d e
  · rw [ek i c d]
    intro k
    have k1 := b2 i c d k
    refine ⟨k1.1, ?_⟩
    rcases e17 with f | f
    · rw [f]; exact k1.2
    · exact f
  · rw [ek i (by omega) d, ek (i - 1) (by omega) (by omega)]; exact b3 i c d
  · rw [cn, cn, cn]; exact b4
/-- an event that happens to a run -/
theorem GI.ev {k x y : Int} (h : GI N r) (w0 : 0 ≤ w) (w1 : w < r 16 0) (hs : r 17 (rw9 r w) = 20) (hE : r 18 (rw9 r w) < 78) (k1 : 1 ≤ k) (k6 : k ≤ 6) (bx : -100000 ≤ x ∧ x ≤ 100000) (bY : -100000 ≤ y ∧ y ≤ 100000) (hx : k ≤ 5 → 0 ≤ x) (h12 : k = 1 ∨ k = 2 → x < r 22 w ∧ r 23 (80 * w + x) = 0 ∧ ∀ i, 0 ≤ i → i < r 18 (rw9 r w) → hk r w i = 1 ∨ hk r w i = 2 → r 20 (80 * rw9 r w + i) ≠ x) (h5 : k = 5 → x < r 32 w ∧ (r 33 (80 * w + x) = -1 ∨ r 17 (rw9 r (r 33 (80 * w + x))) ≠ 20) ∧ ∀ i, 0 ≤ i → i < r 18 (rw9 r w) → hk r w i = 5 → r 20 (80 * rw9 r w + i) ≠ x) : GI N (wr w k x y r) := by
  have rg := h.rg
  obtain ⟨c1, c2, c3, c4, c5, c6, c7, c8, c9⟩ := h
  have b10 := c1.2
  have er : rw9 r w = 9 * w + r 12 w - 1 := rfl
  have q4 := c4 w w0 w1
  have hi := c6 w w0 w1
  have e12 : wr w k x y r 12 = r 12 := wr_n (by omega)
  refine ⟨by rw [wr_n (by omega)]; exact c1, ?_, ?_, ?_, ?_, fun w2 a b => ?_, ?_, ?_, ?_⟩
  · unfold GP StC PgR at *
    simp (disch := omega) only [ur_ne, ur_e, wr_n] at c2 ⊢
    exact c2
  · unfold Fb Pt at *
    simp (disch := omega) only [wr_n]
    exact c3
  · unfold GW at *
    simp (disch := omega) only [wr_n]
    exact c4
  · obtain ⟨d1, d2, d3⟩ := c5
    unfold GU
    simp (disch := omega) only [wr_n]
    refine ⟨d1, fun w2 k2 a b c d => ?_, fun w2 k2 a b c d => ?_⟩
    · have q2 : 0 ≤ r 12 w2 := by
        by_cases e : w2 < r 16 0
        · have := (c4 w2 a e).2.2; omega
        · have := (d1 w2 (by omega) b).1; omega
      by_cases e : 9 * w2 + k2 - 1 = rw9 r w
      · have : w2 = w := by omega
        subst this
        omega
      · rw [wr_o (by omega) (by omega)]
        exact d2 w2 k2 a b c d
    · by_cases e : 9 * w2 + k2 - 1 = rw9 r w
      · have := hi.1
        rw [e, wr_18]; omega
      · rw [wr_o (by omega) (by omega)]
        exact d3 w2 k2 a b c d
  · rw [wr_n (by omega)] at b
    by_cases e : w2 = w
    · subst e
      obtain ⟨a1, a2, a3, a4, a5, a6, a7, a8, a9, b1, b2, b3, b4⟩ := hi
      have e20 : ∀ i, 0 ≤ i → i < r 18 (rw9 r w2) + 1 → wr w2 k x y r 20 (80 * rw9 r w2 + i) = if i = r 18 (rw9 r w2) then x else r 20 (80 * rw9 r w2 + i) := fun i c d => by
        by_cases f : i = r 18 (rw9 r w2)
        · rw [if_t f, f, wr_v.2.1]
        · rw [if_f f, wr_o (by omega) (by omega)]
      have e21 : ∀ i, 0 ≤ i → i < r 18 (rw9 r w2) + 1 → wr w2 k x y r 21 (80 * rw9 r w2 + i) = if i = r 18 (rw9 r w2) then y else r 21 (80 * rw9 r w2 + i) := fun i c d => by
        by_cases f : i = r 18 (rw9 r w2)
        · rw [if_t f, f, wr_v.2.2]
        · rw [if_f f, wr_o (by omega) (by omega)]
      have cn : ∀ p : Int → Bool, p k = false → cntP p (hk (wr w2 k x y r) w2) (r 18 (rw9 r w2) + 1).toNat = cntP p (hk r w2) (r 18 (rw9 r w2)).toNat := fun p hp => by
        rw [show (r 18 (rw9 r w2) + 1).toNat = (r 18 (rw9 r w2)).toNat + 1 by omega, cntP, hk_wr, if_t (show (((r 18 (rw9 r w2)).toNat : Nat) : Int) = r 18 (rw9 r w2) by omega), hp, if_f (by decide), Int.add_zero]
        exact cntP_congr fun i c d => by rw [hk_wr, if_f (show ¬ i = r 18 (rw9 r w2) by omega)]
      unfold HI
      rw [rw9_wr, wr_18]
      rw [wr_n (j := 22) (by omega), wr_n (j := 23) (by omega), wr_n (j := 32) (by omega), wr_n (j := 33) (by omega), wr_n (j := 17) (by omega), wr_n (j := 30) (by omega)]
      refine ⟨by omega, by rw [hk_wr, if_f (by omega)]; exact a2, fun i c d => ?_, fun i c d => ?_, fun i c d => ?_, fun i c d => ?_, fun i c d => ?_, fun i j c d f => ?_, fun i c d => ?_, fun i j c d f => ?_, fun i c d => ?_, fun i c d => ?_, ?_⟩
      · rw [hk_wr]
        split
        · omega
        · exact a3 i c (by omega)
      · rw [hk_wr]
        split
        · omega
        · exact a4 i c (by omega)
      · rw [hk_wr, e20 i c d, e21 i c d]
        by_cases f : i = r 18 (rw9 r w2)
        · rw [if_t f, if_t f, if_t f]
          exact fun _ => ⟨by omega, bx, bY⟩
        · rw [if_f f, if_f f, if_f f]
          exact a5 i c (by omega)
      · rw [hk_wr, e20 i c d]
        by_cases f : i = r 18 (rw9 r w2)
        · rw [if_t f, if_t f]
          exact fun _ g => hx g
        · rw [if_f f, if_f f]
          exact a6 i c (by omega)
      · rw [hk_wr, e20 i c d]
        by_cases f : i = r 18 (rw9 r w2)
        · rw [if_t f, if_t f]
          exact fun g => ⟨(h12 g).1, (h12 g).2.1⟩
        · rw [if_f f, if_f f]
          exact a7 i c (by omega)
      · rw [hk_wr, hk_wr, e20 i c (by omega), e20 j (by omega) f, if_f (show ¬ i = r 18 (rw9 r w2) by omega), if_f (show ¬ i = r 18 (rw9 r w2) by omega)]
        by_cases g : j = r 18 (rw9 r w2)
        · rw [if_t g, if_t g]
          exact fun u v => (h12 v).2.2 i c (by omega) u
        · rw [if_f g, if_f g]
          exact a8 i j c d (by omega)
      · rw [hk_wr, e20 i c d]
        by_cases f : i = r 18 (rw9 r w2)
        · rw [if_t f, if_t f]
          intro g
          refine ⟨(h5 g).1, ?_⟩
          rw [rw9_wr]
          exact (h5 g).2.1
        · rw [if_f f, if_f f, rw9_wr]
          exact a9 i c (by omega)
      · rw [hk_wr, hk_wr, e20 i c (by omega), e20 j (by omega) f, if_f (show ¬ i = r 18 (rw9 r w2) by omega), if_f (show ¬ i = r 18 (rw9 r w2) by omega)]
        by_cases g : j = r 18 (rw9 r w2)
        · rw [if_t g, if_t g]
          exact fun u v => (h5 v).2.2 i c (by omega) u
        · rw [if_f g, if_f g]
          exact b1 i j c d (by omega)
      · rw [hk_wr]
        by_cases f : i = r 18 (rw9 r w2)
        · rw [if_t f]
          exact fun g => by omega
        · rw [if_f f]
          intro g
          exact absurd hs (b2 i c (by omega) g).2
      · rw [hk_wr, hk_wr, if_f (show ¬ i - 1 = r 18 (rw9 r w2) by omega)]
        by_cases f : i = r 18 (rw9 r w2)
        · rw [if_t f]
          exact fun g => by omega
        · rw [if_f f]
          exact b3 i c (by omega)
      · rw [cn pA (decide_eq_false (by omega)), cn pT (decide_eq_false (by omega)), cn pM (decide_eq_false (by omega))]
        exact b4
    · have q2 := c4 w2 a b
      have hi2 := c6 w2 a b
      have er2 : rw9 r w2 = 9 * w2 + r 12 w2 - 1 := rfl
      have u1 := hi.1
      have u2 := hi2.1
      refine hi2.fr (by rw [e12]) (wr_o (by omega) (by omega)) (fun j i c d f g => wr_o (by omega) (by omega)) (by rw [wr_n (by omega)]) (by rw [wr_n (by omega)]) (by rw [wr_n (by omega)]) (Or.inl (by rw [wr_n (by omega)])) (fun n c d f => by rw [wr_n (by omega)]; exact f) (fun n c d => by rw [wr_n (by omega)]) (fun n c d f g => by rw [rw9_wr, wr_n (by omega)]; exact g)
  · unfold GC at *
    simp (disch := omega) only [wr_n]
    exact c7
  · unfold GK at *
    simp (disch := omega) only [wr_n]
    exact c8
  · unfold GN at *
    simp (disch := omega) only [wr_n]
    exact c9
/-- what a run's own rows tell, behind an event -/
theorem CaW.ev {m : Mem} {k x y w2 : Int} (g : Rg r) (h : CaW r m w2) (hk6 : k ≠ 6) (w0 : 0 ≤ w) (w1 : w < r 16 0) (a : 0 ≤ w2) (b : w2 < r 16 0) (h3 : r 18 (rw9 r w) < 80) : CaW (wr w k x y r) (put9 (Rl r w + 1) k x y m) w2 := by
  have s := g.2.2 w w0 w1
  have s2 := g.2.2 w2 a b
  have t1 := s.1
  have t2 := s.2.1
  have t3 := s2.1
  have t4 := s2.2.1
  have er : rw9 r w = 9 * w + r 12 w - 1 := rfl
  have er2 : rw9 r w2 = 9 * w2 + r 12 w2 - 1 := rfl
  have eR : Rl r w = 100000 * (w + 1) + 10000 * r 12 w := rfl
  have eR2 : Rl r w2 = 100000 * (w2 + 1) + 10000 * r 12 w2 := rfl
  have s6 := s.2.2.2.2.2 (rw9 r w) (by omega) (by omega)
  have s62 := s2.2.2.2.2.2 (rw9 r w2) (by omega) (by omega)
  have em : put9 (Rl r w + 1) k x y m (Rl r w2) = m (Rl r w2) := by
    by_cases e : w2 = w
    · subst e
      unfold put9
      rw [upd9_row (by omega), upd9_row (by omega), upd9_row (by omega), upd9_row (by omega)]
    · unfold put9
      rw [upd9_row (by omega), upd9_row (by omega), upd9_row (by omega), upd9_row (by omega)]
  unfold CaW at *
  rw [Rl_wr, em]
  by_cases e : w2 = w
  · subst e
    rw [can_wr s6.1, if_f hk6]
    exact h
  · rw [h, rw9_wr, wr_o (by omega) (by omega)]
    refine can_congr fun i c d => ?_
    unfold hk
    rw [rw9_wr, wr_o (by omega) (by omega)]
end IV
