/-! a new workflow: the relation -/
section NH
variable {cd : Int → Int} {N N' : Int} {r r' : Rst} {m m' : Mem} {w n q k t a b x P s C R l A W v p nu pa : Int}
theorem NFlow.o (nf : NFlow r W a b pa nu p v r') : ∀ j : Nat, j < 7 ∨ j = 13 ∨ (23 ≤ j ∧ j ≤ 29) ∨ j = 31 ∨ 33 ≤ j → r' j = r j := fun j hj => by
  funext i
  exact nf.2.2.2.2.2.2.2 j i (by omega)
theorem NFlow.own (nf : NFlow r W a b pa nu p v r') (w0 : 0 ≤ w) (w1 : w < 10) (hw : w ≠ W) : ∀ (j : Nat) i, Own w j i → r' j i = r j i := fun j i hj => nf.2.2.2.2.2.2.2 j i (by unfold Own at hj; omega)
/-- what is beside the new workflow -/
theorem gi_newflow (h : GI N r) (hW : W = r 16 0) (w1 : W < 10) (nf : NFlow r W a b pa nu p v r') (ha : 0 ≤ a ∧ a < 3) (hb : 0 ≤ b ∧ b < 3) (bv : -100000 ≤ v ∧ v ≤ 100000) (gc : GC r') : GI N r' := by
  have g := h.rg
  have hh := h
  obtain ⟨c1, c2, c3, c4, c5, c6, c7, c8, c9⟩ := h
  have w0 : 0 ≤ W := by omega
  have f := nf.o
  have n16 := nf.1
  have nw := nf.2.2.2.2.2.2.2
  refine ⟨by omega, ?_, ?_, fun w a0 b0 => ?_, ⟨fun w a0 b0 => ?_, fun w k a0 b0 d0 e0 => ?_, fun w k a0 b0 d0 e0 => ?_⟩, fun w a0 b0 => ?_, gc, ⟨fun q a0 b0 => ?_, fun w n a0 b0 d0 e0 => ?_⟩, ?_⟩
  · unfold GP StC PgR at *
    simp (disch := omega) only [ur_ne, ur_e] at c2 ⊢
    rw [f 2 (by omega), f 3 (by omega), f 4 (by omega), f 5 (by omega), f 6 (by omega)]
    exact c2
  · unfold Fb Pt at *
    rw [f 60 (by omega), f 61 (by omega), f 62 (by omega), f 66 (by omega), f 78 (by omega), f 79 (by omega)]
    exact c3
  · by_cases e : w = W
    · rw [e, nf.2.1.1, nf.2.1.2.1, nf.2.2.1]
      omega
    · rw [nw 7 w (by omega), nw 8 w (by omega), nw 12 w (by omega)]
      exact c4 w a0 (by omega)
  · rw [nw 12 w (by omega), nw 13 _ (by omega), nw 13 _ (by omega)]
    exact c5.1 w (by omega) b0
  · by_cases e : w = W
    · rw [e, nf.2.2.1] at d0
      have z0 := (c5.1 w (by omega) b0).1
      have z := c5.2.1 w k a0 b0 (by omega) e0
      rw [nw 18 _ (by omega)]
      exact z
    · rw [nw 12 w (by omega)] at d0
      by_cases e2 : w < W
      · have s := g.2.2 w a0 (by omega)
        have s1 := s.1
        rw [nw 18 _ (by omega)]
        exact c5.2.1 w k a0 b0 d0 e0
      · have z := (c5.1 w (by omega) b0).1
        rw [nw 18 _ (by omega)]
        exact c5.2.1 w k a0 b0 d0 e0
  · by_cases e : w = W
    · rw [e, nf.2.2.1] at e0
      rw [e, show 9 * W + k - 1 = 9 * W by omega, nf.2.2.2.2.1]
      omega
    · rw [nw 12 w (by omega)] at e0
      have s := g.2.2 w a0 (by omega)
      have s2 := s.2.1
      rw [nw 18 _ (by omega)]
      exact c5.2.2 w k a0 (by omega) d0 e0
  · by_cases e : w = W
    · rw [e]
      exact hi_new nf w0 bv
    · have wl : w < r 16 0 := by omega
      have s := g.2.2 w a0 wl
      have s1 := s.1
      have s2 := s.2.1
      have e9 : rw9 r w = 9 * w + r 12 w - 1 := rfl
      refine (c6 w a0 wl).fr (nw 12 w (by omega)) (nw 18 _ (by omega)) (fun j i c d e3 e4 => nw j _ ?_) (nw 22 w (by omega)) (nw 30 w (by omega)) (nw 32 w (by omega)) (Or.inl (nw 17 _ (by omega))) (fun n c d e3 => by rw [f 23 (by omega)]; exact e3) (fun n c d => by rw [f 33 (by omega)]) fun n c d e3 e4 => ?_
      · have := (hh.hi a0 wl).1.2
        omega
      · have ch := (c7.1 w n a0 wl c d).resolve_left e3
        have sc := g.2.2 _ (show 0 ≤ r 33 (80 * w + n) by omega) ch.2.1
        have sc1 := sc.1
        have sc2 := sc.2.1
        have e10 : rw9 r' (r 33 (80 * w + n)) = rw9 r (r 33 (80 * w + n)) := by unfold rw9; rw [nw 12 _ (by omega)]
        have e11 : rw9 r (r 33 (80 * w + n)) = 9 * r 33 (80 * w + n) + r 12 (r 33 (80 * w + n)) - 1 := rfl
        rw [e10, nw 17 _ (by omega)]
        exact e4
  · rw [f 38 (by omega), f 39 (by omega), f 23 (by omega)]
    exact c8.1 q a0 b0
  · by_cases e : w = W
    · rw [e, nf.2.2.2.2.2.1.2.2.1] at e0
      omega
    · rw [nw 22 w (by omega)] at e0
      rw [f 23 (by omega), f 25 (by omega), f 26 (by omega), f 27 (by omega), f 1 (by omega)]
      exact c8.2 w n a0 (by omega) d0 e0
  · unfold GN at *
    rw [f 1 (by omega), f 29 (by omega), f 36 (by omega), f 37 (by omega)]
    exact c9
/-- a new workflow in the class's memory -/
theorem rel_newflow (h : RelC N r m) (hW : W = r 16 0) (w1 : W < 10) (nf : NFlow r W a b pa nu p v r') (ha : 0 ≤ a ∧ a < 3) (hb : 0 ≤ b ∧ b < 3) (bv : -100000 ≤ v ∧ v ≤ 100000) (gc : GC r') (hA : A = 100000 * (W + 1))
    (em : ∀ i, ¬ (A ≤ i ∧ i ≤ A + 10006) → i ≠ -1 → i ≠ -2 → i ≠ 1 → i ≠ 3 → m' i = m i) (e1 : ∀ i, ¬ (A ≤ i ∧ i ≤ A + 10006) → m' (-1) i = m (-1) i) (m1 : ∀ j, m' 1 j = if j = 5 then W + 1 else m 1 j) (m3 : ∀ j, m' 3 j = if j = W then A else m 3 j)
    (fl : Fl r' m' W) (ru : m' (A + 10000) 0 = A + 10000 + 1 ∧ m' (A + 10000) 1 = A + 10000 + 5 ∧ m' (A + 10000) 2 = A + 10000 + 6 ∧ m' (A + 10000) 3 = 0 ∧ m' (A + 10000) 4 = 0 ∧ m' (A + 10000) 5 = 0 ∧ m' (A + 10000) 6 = 0 ∧ m' (A + 10000) 7 = 20 ∧ m' (A + 10000) 8 = 0 ∧ m' (A + 10000) 9 = -1 ∧ m' (A + 10000) 10 = 0) (rh : m' (A + 10000 + 1) 0 = A + 10000 + 2 ∧ m' (A + 10000 + 1) 1 = A + 10000 + 3 ∧ m' (A + 10000 + 1) 2 = A + 10000 + 4 ∧ m' (A + 10000 + 1) 3 = 1) (rv : m' (A + 10000 + 2) 0 = 0 ∧ m' (A + 10000 + 3) 0 = v ∧ m' (A + 10000 + 4) 0 = 0)
    (fa : r' 9 W ≠ -1 → r' 10 W = r' 12 (r' 9 W) → m' A 10 = r' 34 (80 * r' 9 W + r' 11 W)) : RelC N r' m' := by
  have g := h.2.2.rg
  have b10 := g.1
  have w0 : 0 ≤ W := by omega
  have f := nf.o
  have n16 := nf.1
  have n12 := nf.2.2.1
  have nw := nf.2.2.2.2.2.2.2
  have gi := gi_newflow h.2.2 hW w1 nf ha hb bv gc
  have eRW : Rl r' W = A + 10000 := by unfold Rl; rw [n12]; omega
  have eR9 : rw9 r' W = 9 * W := by unfold rw9; rw [n12]; omega
  have eRl : ∀ w, 0 ≤ w → w < W → Rl r' w = Rl r w := fun w c d => by unfold Rl; rw [nw 12 w (by omega)]
  obtain ⟨h1, h2, h3, h4, h5, h6, h7, h8⟩ := h.1
  have flw : ∀ w, 0 ≤ w → w < W → FlA r' m' w := fun w c d => (h6 w c (by omega)).fr (g.2.2 w c (by omega)) (fun i x y => em i (by omega) (by omega) (by omega) (by omega) (by omega)) fun j i x => nf.own c (by omega) (by omega) j i x
  refine ⟨⟨?_, h2.rows (fun i x y => em i (by omega) (by omega) (by omega) (by omega) (by omega)), fun t x y => (h3 t x y).fr x y (g.2.1 t x y) (fun i z => em i (by omega) (by omega) (by omega) (by omega) (by omega)) (fun j z y => f j (by omega)), fun q x y => (h4 q x y).fr x y (fun i z => em i (by omega) (by omega) (by omega) (by omega) (by omega)) (fun j z y => f j (by omega)), fun q x y => (h5 q x y).fr x y (fun i z => em i (by omega) (by omega) (by omega) (by omega) (by omega)) (f 38 (by omega)) (f 39 (by omega)) (by omega) (fun w z u => nw 12 w (by omega)) (fun w z u => by rw [nw 22 w (by omega)]; exact Int.le_refl _), fun w x y => ?_, fun c x y z u => ?_, ⟨fun w x y i z u => ?_, fun w x y i z u => ?_, fun t x y i z u => ?_⟩⟩, fun w x y => ?_, gi⟩
  · obtain ⟨⟨q0, q1, q2, q3, q4, q5, q6, q7⟩, q8⟩ := h1
    refine ⟨⟨?_, ?_, ?_, ?_, ?_, ?_, ?_, ?_⟩, fun w x y => ?_⟩
    · rw [m1, if_f (by decide)]; exact q0
    · rw [m1, if_f (by decide)]; exact q1
    · rw [m1, if_f (by decide)]; exact q2
    · rw [m1, if_f (by decide)]; exact q3
    · rw [m1, if_f (by decide)]; exact q4
    · rw [m1, if_t rfl, n16]
    · rw [m1, if_f (by decide), f 29 (by omega)]; exact q6
    · rw [m1, if_f (by decide), f 1 (by omega)]; exact q7
    · rw [m3]
      by_cases e : w = W
      · rw [if_t e, e, hA]
      · rw [if_f e]; exact q8 w x (by omega)
  · by_cases e : w = W
    · rw [e]
      refine ⟨fl, fun k k0 k1 => ?_, ?_, fun n n0 n1 => ?_, fun n n0 n1 => ?_⟩
      · rw [n12] at k1
        rw [show k = 1 by omega, ← hA, show A + 10000 * 1 = A + 10000 by omega, show 9 * W + 1 - 1 = 9 * W by omega]
        refine ⟨⟨ru.1, ru.2.1, ru.2.2.1, by rw [ru.2.2.2.2.2.2.2.1, nf.2.2.2.1], rh.1, rh.2.1, rh.2.2.1, by rw [rh.2.2.2, nf.2.2.2.2.1]⟩, fun e e0 e1 => ?_⟩
        rw [nf.2.2.2.2.1] at e1
        rw [show e = 0 by omega, show 80 * (9 * W) + 0 = 720 * W by omega, nf.2.2.2.2.2.2.1.1, nf.2.2.2.2.2.2.1.2.1, nf.2.2.2.2.2.2.1.2.2]
        exact rv
      · unfold Lt
        rw [eRW, nf.2.2.2.2.2.1.1, nf.2.2.2.2.2.1.2.1, nf.2.2.2.2.2.1.2.2.1, nf.2.2.2.2.2.1.2.2.2.1, nf.2.2.2.2.2.1.2.2.2.2]
        exact ⟨ru.2.2.2.1, ru.2.2.2.2.1, ru.2.2.2.2.2.1, ru.2.2.2.2.2.2.2.2.1, ru.2.2.2.2.2.2.2.2.2.1⟩
      · rw [nf.2.2.2.2.2.1.2.2.1] at n1; omega
      · rw [nf.2.2.2.2.2.1.2.2.2.1] at n1; omega
    · exact flw w x (by omega)
  · by_cases e : c = W
    · rw [e] at z u ⊢
      rw [← hA]
      exact fa z u
    · have cl : c < r 16 0 := by omega
      rw [nw 9 c (by omega)] at z u ⊢
      rw [nw 10 c (by omega)] at u
      have gcc := (h.2.2.gc.2 c x cl).resolve_left z
      rw [nw 12 _ (by omega)] at u
      rw [nw 11 c (by omega), f 34 (by omega), em _ (by omega) (by omega) (by omega) (by omega) (by omega)]
      exact h7 c x cl z u
  · rw [e1 i (by omega)]
    exact h8.1 w (by omega) y i z u
  · by_cases e : w = W
    · rw [e, eRW, nf.2.2.2.2.2.1.2.2.1] at z
      rw [e] at u
      rw [e1 i (by omega)]
      exact h8.1 W (by omega) w1 i (by omega) u
    · have wl : w < r 16 0 := by omega
      rw [eRl w x (by omega), nw 22 w (by omega)] at z
      have s := g.2.2 w x wl
      have s1 := s.1
      have s3 := s.2.2.1
      have eR : Rl r w = 100000 * (w + 1) + 10000 * r 12 w := rfl
      rw [e1 i (by omega)]
      exact h8.2.1 w x wl i z u
  · rw [f 6 (by omega)] at z
    have g6 := g.2.1 t x y
    rw [e1 i (by omega)]
    exact h8.2.2 t x y i z u
  · by_cases e : w = W
    · rw [e]
      unfold CaW
      rw [eRW, eR9, nf.2.2.2.2.1, ru.2.2.2.2.2.2.2.2.2.2, show (1 : Int).toNat = 0 + 1 from rfl, can, can]
      have e0 : hk r' W ((0 : Nat) : Int) = 0 := by
        unfold hk
        rw [eR9, show 80 * (9 * W) + ((0 : Nat) : Int) = 720 * W by omega]
        exact nf.2.2.2.2.2.2.1.1
      rw [e0]
      exact ⟨rfl, ru.2.2.2.2.2.2.1⟩
    · have wl : w < r 16 0 := by omega
      have s := g.2.2 w x wl
      have s1 := s.1
      have s2 := s.2.1
      have eR : Rl r w = 100000 * (w + 1) + 10000 * r 12 w := rfl
      have e9 : rw9 r w = 9 * w + r 12 w - 1 := rfl
      have e9' : rw9 r' w = rw9 r w := by unfold rw9; rw [nw 12 w (by omega)]
      have ca := h.2.1 w x wl
      have hl := (h.2.2.hi x wl).1
      have hk' : ∀ i : Int, 0 ≤ i → i < r 18 (rw9 r w) → hk r' w i = hk r w i := fun i c d => by
        unfold hk
        rw [e9', nw 19 _ (by omega)]
      unfold CaW at *
      rw [eRl w x (by omega), em _ (by omega) (by omega) (by omega) (by omega) (by omega), e9', nw 18 _ (by omega)]
      refine ⟨?_, ca.2⟩
      rw [ca.1]
      exact can_congr fun i c d => (hk' i c (by omega)).symm
end NH
