/-! one call on both sides: workers and queues -/
section WQ
variable {cd : Int → Int} {N N' : Int} {r r' : Rst} {m m' : Mem} {w n : Int}
theorem RelC.mk (h : RelC N r m) (h1 : RelM r' m') (g' : GI N' r') (em : ∀ w, 0 ≤ w → w < r 16 0 → m' (Rl r w) = m (Rl r w)) (er : ∀ j : Nat, j = 12 ∨ j = 16 ∨ j = 18 ∨ j = 19 → r' j = r j) : RelC N' r' m' := by
  refine ⟨h1, fun w a b => ?_, g'⟩
  rw [er 16 (by omega)] at b
  unfold CaW hk rw9 at *
  have e : Rl r' w = Rl r w := by unfold Rl; rw [er 12 (by omega)]
  rw [e, em w a b, er 12 (by omega), er 18 (by omega), er 19 (by omega)]
  exact h.2.1 w a b
theorem GI.act (h : GI N r) (er : ∀ j : Nat, j ≠ 0 → j ≠ 23 → j ≠ 25 → j ≠ 26 → j ≠ 27 → j ≠ 38 → j ≠ 39 → r' j = r j) (e23 : ∀ w n, 0 ≤ w → w < r 16 0 → 0 ≤ n → n < r 22 w → r 23 (80 * w + n) = 0 → r' 23 (80 * w + n) = 0) (gk : GK r') : GI N r' := by
  obtain ⟨c1, c2, c3, c4, c5, c6, c7, c8, c9⟩ := h
  have e : ∀ j : Nat, j ≠ 0 → j ≠ 23 → j ≠ 25 → j ≠ 26 → j ≠ 27 → j ≠ 38 → j ≠ 39 → r' j = r j := er
  have f : ∀ j : Nat, (1 ≤ j ∧ j < 23) ∨ j = 24 ∨ (28 ≤ j ∧ j < 38) ∨ 40 ≤ j → r' j = r j := fun j hj => er j (by omega) (by omega) (by omega) (by omega) (by omega) (by omega) (by omega)
  refine ⟨by rw [f 16 (by omega)]; exact c1, ?_, ?_, ?_, ?_, fun w a b => ?_, ?_, gk, ?_⟩
  · unfold GP StC PgR at *
    simp (disch := omega) only [ur_ne, ur_e] at c2 ⊢
    rw [f 2 (by omega), f 3 (by omega), f 4 (by omega), f 5 (by omega), f 6 (by omega)]
    exact c2
  · unfold Fb Pt at *
    rw [f 60 (by omega), f 61 (by omega), f 62 (by omega), f 66 (by omega), f 78 (by omega), f 79 (by omega)]
    exact c3
  · unfold GW at *
    rw [f 16 (by omega), f 7 (by omega), f 8 (by omega), f 12 (by omega)]
    exact c4
  · unfold GU at *
    rw [f 16 (by omega), f 12 (by omega), f 13 (by omega), f 18 (by omega)]
    exact c5
  · rw [f 16 (by omega)] at b
    have e9 : ∀ w, rw9 r' w = rw9 r w := fun w => by unfold rw9; rw [f 12 (by omega)]
    exact (c6 w a b).fr (by rw [f 12 (by omega)]) (by rw [f 18 (by omega)]) (fun j i c d _ _ => by rw [f j (by omega)]) (by rw [f 22 (by omega)]) (by rw [f 30 (by omega)]) (by rw [f 32 (by omega)]) (Or.inl (by rw [f 17 (by omega)])) (fun n c d g => e23 w n a b c d g) (fun n c d => by rw [f 33 (by omega)]) (fun n c d g k => by rw [e9, f 17 (by omega)]; exact k)
  · unfold GC at *
    rw [f 16 (by omega), f 32 (by omega), f 33 (by omega), f 9 (by omega), f 10 (by omega), f 11 (by omega), f 12 (by omega)]
    exact c7
  · unfold GN at *
    rw [f 1 (by omega), f 29 (by omega), f 36 (by omega), f 37 (by omega)]
    exact c9
theorem x_lineOf {q : Int} (h : RelM r m) : X11_lineOf 1 q m = some (if 0 ≤ q ∧ q ≤ 1 then (0, 5000 + 10 * q, m) else (1, 0, thr9 m)) := by
  unfold X11_lineOf X11_lineOf_0 X11_checkQueue X11_checkQueue_0
  rw [x_isWithin, cal_e]
  by_cases c : 0 ≤ q ∧ q ≤ 1
  · have e2 : m 1 2 = 4 := h.1.1.2.2.1
    rw [if_t c, if_f (by decide), calX_0, chk_t (by omega), e2, chk_t (by omega), (h.2.2.2.1 q c.1 (by omega)).1.1, if_t c]
  · rw [if_f c, if_t rfl, calX_e (by decide), if_f c]
theorem x_handOf {k : Int} (h : RelM r m) : X11_handOf 1 k m = some (if 0 ≤ k ∧ k ≤ 3 then (0, 5100 + k, m) else (1, 0, thr9 m)) := by
  unfold X11_handOf X11_handOf_0
  rw [x_isWithin, cal_e]
  by_cases c : 0 ≤ k ∧ k ≤ 3
  · have e3 : m 1 3 = 5 := h.1.1.2.2.2.1
    rw [if_t c, if_f (by decide), chk_t (by omega), e3, chk_t (by omega), (h.2.2.2.2.1 k c.1 (by omega)).1, if_t c]
  · rw [if_f c, if_t rfl, if_f c]
end WQ
