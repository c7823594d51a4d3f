/-! one call on both sides: take -/
section TA
variable {cd : Int → Int} {N N' : Int} {r r' : Rst} {m m' : Mem} {w n q k : Int}
theorem GI.num (h : GI N r) (e : ∀ j : Nat, j ≠ 0 → j ≠ 1 → j ≠ 29 → j ≠ 36 → j ≠ 37 → r' j = r j) (gk : GK r') (gn : GN N' r') : GI N' r' := by
  obtain ⟨c1, c2, c3, c4, c5, c6, c7, c8, c9⟩ := h
  have f : ∀ j : Nat, (2 ≤ j ∧ j < 29) ∨ (30 ≤ j ∧ j < 36) ∨ 38 ≤ j → r' j = r j := fun j hj => e j (by omega) (by omega) (by omega) (by omega) (by omega)
  refine ⟨by rw [f 16 (by omega)]; exact c1, ?_, ?_, ?_, ?_, fun w a b => ?_, ?_, gk, gn⟩
  · unfold GP StC PgR at *
    simp (disch := omega) only [ur_ne, ur_e] at c2 ⊢
    rw [f 2 (by omega), f 3 (by omega), f 4 (by omega), f 5 (by omega), f 6 (by omega)]
    exact c2
  · unfold Fb Pt at *
    rw [f 60 (by omega), f 61 (by omega), f 62 (by omega), f 66 (by omega), f 78 (by omega), f 79 (by omega)]
    exact c3
  · unfold GW at *
    rw [f 16 (by omega), f 7 (by omega), f 8 (by omega), f 12 (by omega)]
    exact c4
  · unfold GU at *
    rw [f 16 (by omega), f 12 (by omega), f 13 (by omega), f 18 (by omega)]
    exact c5
  · rw [f 16 (by omega)] at b
    have e9 : ∀ w, rw9 r' w = rw9 r w := fun w => by unfold rw9; rw [f 12 (by omega)]
    exact (c6 w a b).fr (by rw [f 12 (by omega)]) (by rw [f 18 (by omega)]) (fun j i c d _ _ => by rw [f j (by omega)]) (by rw [f 22 (by omega)]) (by rw [f 30 (by omega)]) (by rw [f 32 (by omega)]) (Or.inl (by rw [f 17 (by omega)])) (fun n c d g => by rw [f 23 (by omega)]; exact g) (fun n c d => by rw [f 33 (by omega)]) (fun n c d g k => by rw [e9, f 17 (by omega)]; exact k)
  · unfold GC at *
    rw [f 16 (by omega), f 32 (by omega), f 33 (by omega), f 9 (by omega), f 10 (by omega), f 11 (by omega), f 12 (by omega)]
    exact c7
/-- a worker has it -/
theorem rel_hand {A : Int} (h : RelM r m) (g : Rg r) (c : 0 ≤ k ∧ k ≤ 3) (w0 : 0 ≤ w) (w1 : w < r 16 0) (n0 : 0 ≤ n) (n1 : n < r 22 w) (hA : A = Rl r w + 100 + n) : RelM (ur r 39 k (80 * w + n)) (upd9 m (5100 + k) 1 A) := by
  refine rel_wk h g (fun i hi => upd9_row (by omega)) (fun j a b => ur_ne b) fun q a b => ?_
  have wq := h.2.2.2.2.1 q a b
  have eR : ∀ w, Rl (ur r 39 k (80 * w + n)) w = Rl r w := fun w => by unfold Rl; rw [ur_n (by omega)]
  unfold Wk at *
  rw [upd9_n (by omega), ur_ne (j := 39) (a := 38) (by omega), ur_ne (j := 39) (a := 16) (by omega), ur_ne (j := 39) (a := 22) (by omega)]
  by_cases e : q = k
  · subst e
    rw [upd9_n (by omega), upd9_e rfl rfl, ur_e rfl rfl]
    refine ⟨wq.1, wq.2.1, Or.inr ⟨w, n, w0, w1, n0, n1, rfl, ?_⟩⟩
    rw [eR]; exact hA
  · rw [upd9_n (by omega), upd9_n (by omega), ur_n (by omega)]
    unfold Rl at *
    rw [ur_ne (j := 39) (a := 12) (by omega)]
    exact wq
/-- an activity is leased to a worker -/
theorem rel_lease (h : RelC N r m) (tt : GT r) (hN : N ≤ 700) (c : 0 ≤ k ∧ k ≤ 3) (w0 : 0 ≤ w) (w1 : w < r 16 0) (n0 : 0 ≤ n) (n1 : n < r 22 w) (how : r 23 (80 * w + n) = 1) : RelC N (ur (ur (ur (ur r 23 (80 * w + n) 2) 25 (80 * w + n) (r 25 (80 * w + n) + 1)) 27 (80 * w + n) (r 1 0 + 10)) 39 k (80 * w + n)) (upd9 (upd9 (upd9 (upd9 m (Rl r w + 100 + n) 6 1) (Rl r w + 100 + n) 8 (r 1 0 + 10)) (Rl r w + 100 + n) 9 (r 25 (80 * w + n) + 1)) (5100 + k) 1 (Rl r w + 100 + n)) ∧ GT (ur (ur (ur (ur r 23 (80 * w + n) 2) 25 (80 * w + n) (r 25 (80 * w + n) + 1)) 27 (80 * w + n) (r 1 0 + 10)) 39 k (80 * w + n)) := by
  have g := h.2.2.rg
  have b10 := g.1
  have s1 := (g.2.2 w w0 w1).1
  have s2 := (g.2.2 w w0 w1).2.1
  have lt := (h.2.2.lt w0 w1).1
  have eR : Rl r w = 100000 * (w + 1) + 10000 * r 12 w := rfl
  have ac := ((h.1.2.2.2.2.2.1 w w0 w1).2.2.2.1 n n0 n1).2
  have gk := h.2.2.gk
  have g25 := (gk.2 w n w0 w1 n0 n1).1 how
  have v23 : ur (ur (ur r 23 (80 * w + n) 2) 25 (80 * w + n) (r 25 (80 * w + n) + 1)) 27 (80 * w + n) (r 1 0 + 10) 23 (80 * w + n) = 2 := by simp (disch := omega) only [ur_n, ur_e]
  have v25 : ur (ur (ur r 23 (80 * w + n) 2) 25 (80 * w + n) (r 25 (80 * w + n) + 1)) 27 (80 * w + n) (r 1 0 + 10) 25 (80 * w + n) = r 25 (80 * w + n) + 1 := by simp (disch := omega) only [ur_n, ur_e]
  have v27 : ur (ur (ur r 23 (80 * w + n) 2) 25 (80 * w + n) (r 25 (80 * w + n) + 1)) 27 (80 * w + n) (r 1 0 + 10) 27 (80 * w + n) = r 1 0 + 10 := ur_e rfl rfl
  have vo : ∀ (j : Nat) i, i ≠ 80 * w + n → ur (ur (ur r 23 (80 * w + n) 2) 25 (80 * w + n) (r 25 (80 * w + n) + 1)) 27 (80 * w + n) (r 1 0 + 10) j i = r j i := fun j i hi => by rw [ur_n (by omega), ur_n (by omega), ur_n (by omega)]
  have vn : ∀ j : Nat, j ≠ 23 → j ≠ 25 → j ≠ 27 → ur (ur (ur r 23 (80 * w + n) 2) 25 (80 * w + n) (r 25 (80 * w + n) + 1)) 27 (80 * w + n) (r 1 0 + 10) j = r j := fun j a b c => by rw [ur_ne c, ur_ne b, ur_ne a]
  have q1 : RelM (ur (ur (ur r 23 (80 * w + n) 2) 25 (80 * w + n) (r 25 (80 * w + n) + 1)) 27 (80 * w + n) (r 1 0 + 10)) (upd9 (upd9 (upd9 m (Rl r w + 100 + n) 6 1) (Rl r w + 100 + n) 8 (r 1 0 + 10)) (Rl r w + 100 + n) 9 (r 25 (80 * w + n) + 1)) := by
    refine rel_act h.1 g w0 w1 n0 n1 (fun i hi => by rw [upd9_row hi, upd9_row hi, upd9_row hi]) ?_ (fun j i hi => ?_)
    · unfold ActC Rl at *
      rw [v23, v25, v27]
      simp (disch := omega) only [ur_n, upd9_n, upd9_e]
      obtain ⟨⟨a1, a2, a3, a4, a5, a6, a7⟩, _⟩ := ac
      exact ⟨⟨a1, a2, a3, a4, a5, a6, trivial⟩, Or.inr (Or.inl ⟨trivial, trivial, trivial⟩)⟩
    · by_cases e : i = 80 * w + n
      · rw [ur_n (by omega), ur_n (by omega), ur_n (by omega)]
      · exact vo j i e
  have g1 : Rg (ur (ur (ur r 23 (80 * w + n) 2) 25 (80 * w + n) (r 25 (80 * w + n) + 1)) 27 (80 * w + n) (r 1 0 + 10)) := g.fr fun j hj => vn j (by omega) (by omega) (by omega)
  have em : ∀ i, i ≠ Rl r w + 100 + n → i ≠ 5100 + k → upd9 (upd9 (upd9 (upd9 m (Rl r w + 100 + n) 6 1) (Rl r w + 100 + n) 8 (r 1 0 + 10)) (Rl r w + 100 + n) 9 (r 25 (80 * w + n) + 1)) (5100 + k) 1 (Rl r w + 100 + n) i = m i := fun i a b => by rw [upd9_row b, upd9_row a, upd9_row a, upd9_row a]
  have q2 : RelM (ur (ur (ur (ur r 23 (80 * w + n) 2) 25 (80 * w + n) (r 25 (80 * w + n) + 1)) 27 (80 * w + n) (r 1 0 + 10)) 39 k (80 * w + n)) (upd9 (upd9 (upd9 (upd9 m (Rl r w + 100 + n) 6 1) (Rl r w + 100 + n) 8 (r 1 0 + 10)) (Rl r w + 100 + n) 9 (r 25 (80 * w + n) + 1)) (5100 + k) 1 (Rl r w + 100 + n)) := by
    exact rel_hand q1 g1 c w0 (by rw [vn 16 (by omega) (by omega) (by omega)]; exact w1) n0 (by rw [vn 22 (by omega) (by omega) (by omega)]; exact n1) (by unfold Rl; rw [vn 12 (by omega) (by omega) (by omega)])
  have nf : ∀ j : Nat, j ≠ 23 → j ≠ 25 → j ≠ 27 → j ≠ 39 → ur (ur (ur (ur r 23 (80 * w + n) 2) 25 (80 * w + n) (r 25 (80 * w + n) + 1)) 27 (80 * w + n) (r 1 0 + 10)) 39 k (80 * w + n) j = r j := fun j a b c d => by rw [ur_ne d, vn j a b c]
  have k23 : ur (ur (ur (ur r 23 (80 * w + n) 2) 25 (80 * w + n) (r 25 (80 * w + n) + 1)) 27 (80 * w + n) (r 1 0 + 10)) 39 k (80 * w + n) 23 (80 * w + n) = 2 := by rw [ur_n (by omega)]; exact v23
  have k25 : ur (ur (ur (ur r 23 (80 * w + n) 2) 25 (80 * w + n) (r 25 (80 * w + n) + 1)) 27 (80 * w + n) (r 1 0 + 10)) 39 k (80 * w + n) 25 (80 * w + n) = r 25 (80 * w + n) + 1 := by rw [ur_n (by omega)]; exact v25
  have k27 : ur (ur (ur (ur r 23 (80 * w + n) 2) 25 (80 * w + n) (r 25 (80 * w + n) + 1)) 27 (80 * w + n) (r 1 0 + 10)) 39 k (80 * w + n) 27 (80 * w + n) = r 1 0 + 10 := by rw [ur_n (by omega)]; exact v27
  have ko : ∀ (j : Nat) i, j ≠ 39 → i ≠ 80 * w + n → ur (ur (ur (ur r 23 (80 * w + n) 2) 25 (80 * w + n) (r 25 (80 * w + n) + 1)) 27 (80 * w + n) (r 1 0 + 10)) 39 k (80 * w + n) j i = r j i := fun j i a hi => by rw [ur_ne a, vo j i hi]
  refine ⟨h.mk q2 (h.2.2.act (fun j a b c d e f l => nf j b c e l) (fun w2 n2 a b c d e => ?_) ⟨fun q a b => ?_, fun w2 n2 a b c d => ?_⟩) (fun w2 a b => ?_) (fun j hj => nf j (by omega) (by omega) (by omega) (by omega)), fun w2 n2 a b c d => ?_⟩
  · by_cases i : 80 * w2 + n2 = 80 * w + n
    · rw [i] at e; omega
    · rw [ko 23 _ (by omega) i]; exact e
  · rw [nf 38 (by omega) (by omega) (by omega) (by omega)]
    refine ⟨(gk.1 q a b).1, ?_⟩
    by_cases e : q = k
    · subst e
      rw [ur_e (a := 39) rfl rfl, k23]
      exact Or.inr rfl
    · rw [show ur (ur (ur (ur r 23 (80 * w + n) 2) 25 (80 * w + n) (r 25 (80 * w + n) + 1)) 27 (80 * w + n) (r 1 0 + 10)) 39 k (80 * w + n) 39 q = r 39 q by rw [ur_n (by omega), vn 39 (by omega) (by omega) (by omega)]]
      rcases (gk.1 q a b).2 with f | f
      · exact Or.inl f
      · refine Or.inr ?_
        rw [ko 23 _ (by omega) (fun hh => by rw [hh] at f; omega)]
        exact f
  · rw [nf 16 (by omega) (by omega) (by omega) (by omega)] at b
    rw [nf 22 (by omega) (by omega) (by omega) (by omega)] at d
    rw [nf 1 (by omega) (by omega) (by omega) (by omega), nf 26 (by omega) (by omega) (by omega) (by omega)]
    by_cases i : 80 * w2 + n2 = 80 * w + n
    · rw [i, k23, k25, k27]
      exact ⟨fun f => by omega, fun f => by omega, fun f => by omega⟩
    · rw [ko 23 _ (by omega) i, ko 25 _ (by omega) i, ko 27 _ (by omega) i]
      exact gk.2 w2 n2 a b c d
  · have t1 := (g.2.2 w2 a b).1
    have t2 := (g.2.2 w2 a b).2.1
    have eR2 : Rl r w2 = 100000 * (w2 + 1) + 10000 * r 12 w2 := rfl
    refine em _ ?_ (by omega)
    by_cases e : w2 = w
    · rw [e]; omega
    · omega
  · rw [nf 16 (by omega) (by omega) (by omega) (by omega)] at b
    rw [nf 22 (by omega) (by omega) (by omega) (by omega)] at d
    rw [nf 1 (by omega) (by omega) (by omega) (by omega), nf 26 (by omega) (by omega) (by omega) (by omega)]
    by_cases i : 80 * w2 + n2 = 80 * w + n
    · rw [i, k23, k27]
      exact ⟨fun f => by omega, fun f => by omega⟩
    · rw [ko 23 _ (by omega) i, ko 27 _ (by omega) i]
      exact tt w2 n2 a b c d
/-- one is taken, on both sides -/
theorem rel_take (h : RelC N r m) (tt : GT r) (hN : N ≤ 600) (c : 0 ≤ k ∧ k ≤ 3) (d : 0 ≤ q ∧ q ≤ 1) (w0 : 0 ≤ w) (w1 : w < r 16 0) (n0 : 0 ≤ n) (n1 : n < r 22 w) (how : r 23 (80 * w + n) = 1) : RelC (N + 1) (ur (ur (ur (ur (ur (ur r 36 q (r 36 q + 1)) 37 (3 * q + r 8 w) (r 37 (3 * q + r 8 w) + 1)) 23 (80 * w + n) 2) 25 (80 * w + n) (r 25 (80 * w + n) + 1)) 27 (80 * w + n) (r 1 0 + 10)) 39 k (80 * w + n)) (upd9 (upd9 (upd9 (upd9 (upd9 (upd9 m (5000 + 10 * q) 2 (r 36 q + 1)) (5000 + 10 * q + 1) (r 8 w) (r 37 (3 * q + r 8 w) + 1)) (Rl r w + 100 + n) 6 1) (Rl r w + 100 + n) 8 (r 1 0 + 10)) (Rl r w + 100 + n) 9 (r 25 (80 * w + n) + 1)) (5100 + k) 1 (Rl r w + 100 + n)) ∧ GT (ur (ur (ur (ur (ur (ur r 36 q (r 36 q + 1)) 37 (3 * q + r 8 w) (r 37 (3 * q + r 8 w) + 1)) 23 (80 * w + n) 2) 25 (80 * w + n) (r 25 (80 * w + n) + 1)) 27 (80 * w + n) (r 1 0 + 10)) 39 k (80 * w + n)) := by
  have g := h.2.2.rg
  have b10 := g.1
  have s1 := (g.2.2 w w0 w1).1
  have s2 := (g.2.2 w w0 w1).2.1
  have lt := (h.2.2.lt w0 w1).1
  have gw := h.2.2.2.2.2.1 w w0 w1
  have t8 := gw.2.1
  have eR : Rl r w = 100000 * (w + 1) + 10000 * r 12 w := rfl
  have ac := ((h.1.2.2.2.2.2.1 w w0 w1).2.2.2.1 n n0 n1).2
  have gn := h.2.2.gn
  /- the queue -/
  have q1 : RelM (ur (ur r 36 q (r 36 q + 1)) 37 (3 * q + r 8 w) (r 37 (3 * q + r 8 w) + 1)) (upd9 (upd9 m (5000 + 10 * q) 2 (r 36 q + 1)) (5000 + 10 * q + 1) (r 8 w) (r 37 (3 * q + r 8 w) + 1)) := by
    have em : ∀ i, i ≠ 5000 + 10 * q → i ≠ 5000 + 10 * q + 1 → upd9 (upd9 m (5000 + 10 * q) 2 (r 36 q + 1)) (5000 + 10 * q + 1) (r 8 w) (r 37 (3 * q + r 8 w) + 1) i = m i := fun i a b => by rw [upd9_row b, upd9_row a]
    refine rel_qu h.1 g (fun i a b => em i (by omega) (by omega)) (fun j a b => by rw [em 1 (by omega) (by omega)]) (by rw [em 1 (by omega) (by omega), ur_n (by omega), ur_n (by omega)]; exact h.1.1.1.2.2.2.2.2.2.1) (by rw [em 1 (by omega) (by omega), ur_n (by omega), ur_n (by omega)]; exact h.1.1.1.2.2.2.2.2.2.2) (fun j a b c d e => by rw [ur_ne c, ur_ne b]) fun q2 a b => ?_
    have qu2 := h.1.2.2.2.1 q2 a b
    unfold Qu at *
    by_cases e : q2 = q
    · subst e
      simp (disch := omega) only [upd9_n, upd9_e, ur_n, ur_e]
      refine ⟨⟨qu2.1.1, qu2.1.2.1, qu2.1.2.2.1, trivial⟩, fun t t0 t1 => ?_⟩
      by_cases f : t = r 8 w
      · rw [f, upd9_e rfl rfl, ur_e rfl rfl]
      · rw [upd9_n (by omega), upd9_n (by omega), ur_n (by omega), ur_n (by omega)]
        exact qu2.2 t t0 t1
    · rw [em 4 (by omega) (by omega), em (5000 + 10 * q2) (by omega) (by omega), em (5000 + 10 * q2 + 1) (by omega) (by omega)]
      rw [ur_ne (a := 35) (by omega), ur_ne (a := 35) (by omega), ur_n (a := 36) (by omega), ur_n (a := 36) (by omega)]
      refine ⟨qu2.1, fun t t0 t1 => ?_⟩
      rw [ur_n (by omega), ur_n (by omega)]
      exact qu2.2 t t0 t1
  have g1 : Rg (ur (ur r 36 q (r 36 q + 1)) 37 (3 * q + r 8 w) (r 37 (3 * q + r 8 w) + 1)) := g.fr fun j hj => by rw [ur_ne (by omega), ur_ne (by omega)]
  have i1 : GI (N + 1) (ur (ur r 36 q (r 36 q + 1)) 37 (3 * q + r 8 w) (r 37 (3 * q + r 8 w) + 1)) := by
    refine h.2.2.num (fun j a b c d e => by rw [ur_ne e, ur_ne d]) ?_ ?_
    · unfold GK
      simp (disch := omega) only [ur_ne]
      exact h.2.2.gk
    · obtain ⟨x1, x2, x3, x4⟩ := gn
      refine ⟨by rw [ur_n (by omega), ur_n (by omega)]; omega, by rw [ur_n (by omega), ur_n (by omega)]; omega, fun q2 a b => ?_, fun i a b => ?_⟩
      · rw [ur_n (by omega)]
        have := x3 q2 a b
        by_cases e : q2 = q
        · rw [ur_e rfl e, e.symm]; omega
        · rw [ur_n (by omega)]; omega
      · have := x4 i a b
        by_cases e : i = 3 * q + r 8 w
        · rw [ur_e rfl e, ← e]; omega
        · rw [ur_n (by omega), ur_n (by omega)]; omega
  have k1 : ∀ j : Nat, j ≠ 36 → j ≠ 37 → ur (ur r 36 q (r 36 q + 1)) 37 (3 * q + r 8 w) (r 37 (3 * q + r 8 w) + 1) j = r j := fun j a b => by rw [ur_ne b, ur_ne a]
  have mA : upd9 (upd9 m (5000 + 10 * q) 2 (r 36 q + 1)) (5000 + 10 * q + 1) (r 8 w) (r 37 (3 * q + r 8 w) + 1) (Rl r w + 100 + n) = m (Rl r w + 100 + n) := by rw [upd9_row (by omega), upd9_row (by omega)]
  have mI : ∀ i, ¬ (5000 ≤ i ∧ i < 5100) → upd9 (upd9 m (5000 + 10 * q) 2 (r 36 q + 1)) (5000 + 10 * q + 1) (r 8 w) (r 37 (3 * q + r 8 w) + 1) i = m i := fun i a => by rw [upd9_row (by omega), upd9_row (by omega)]
  have c1 : RelC (N + 1) (ur (ur r 36 q (r 36 q + 1)) 37 (3 * q + r 8 w) (r 37 (3 * q + r 8 w) + 1)) (upd9 (upd9 m (5000 + 10 * q) 2 (r 36 q + 1)) (5000 + 10 * q + 1) (r 8 w) (r 37 (3 * q + r 8 w) + 1)) := h.mk q1 i1 (fun w2 a b => mI _ (by have := (g.2.2 w2 a b).1; unfold Rl; omega)) fun j hj => k1 j (by omega) (by omega)
  have t1 : GT (ur (ur r 36 q (r 36 q + 1)) 37 (3 * q + r 8 w) (r 37 (3 * q + r 8 w) + 1)) := tt.fr fun j hj => k1 j (by omega) (by omega)
  have e25 : ur (ur r 36 q (r 36 q + 1)) 37 (3 * q + r 8 w) (r 37 (3 * q + r 8 w) + 1) 25 = r 25 := k1 25 (by omega) (by omega)
  have e1 : ur (ur r 36 q (r 36 q + 1)) 37 (3 * q + r 8 w) (r 37 (3 * q + r 8 w) + 1) 1 = r 1 := k1 1 (by omega) (by omega)
  have e12 : Rl (ur (ur r 36 q (r 36 q + 1)) 37 (3 * q + r 8 w) (r 37 (3 * q + r 8 w) + 1)) w = Rl r w := by unfold Rl; rw [k1 12 (by omega) (by omega)]
  have e16 : ur (ur r 36 q (r 36 q + 1)) 37 (3 * q + r 8 w) (r 37 (3 * q + r 8 w) + 1) 16 = r 16 := k1 16 (by omega) (by omega)
  have e22 : ur (ur r 36 q (r 36 q + 1)) 37 (3 * q + r 8 w) (r 37 (3 * q + r 8 w) + 1) 22 = r 22 := k1 22 (by omega) (by omega)
  have e23 : ur (ur r 36 q (r 36 q + 1)) 37 (3 * q + r 8 w) (r 37 (3 * q + r 8 w) + 1) 23 = r 23 := k1 23 (by omega) (by omega)
  have := rel_lease c1 t1 (by omega) c w0 (by rw [e16]; exact w1) n0 (by rw [e22]; exact n1) (by rw [e23]; exact how)
  rw [e25, e1, e12] at this
  exact this
theorem c_take (h : RelC N r m) (tt : GT r) (hN : N ≤ 600) (h0 : cd 0 = 0) (h1 : cd 1 = 1) (h3 : cd 3 = 2) : CallR cd N r m (X11_take 1 k q m) (G_take k q r) := by
  have f9 := fuel9_ge
  have g := h.2.2.rg
  have b := g.1
  unfold X11_take X11_take_0 G_take G_take_0 G_take_19 G_take_53
  rw [chk_t (by omega), x_handOf h.1, g_isWorker, cag_e]
  by_cases c : 0 ≤ k ∧ k ≤ 3
  · have wk := h.1.2.2.2.2.1 k c.1 (by omega)
    rw [if_t c, if_t c, calX_0, x_lineOf h.1, if_f (show ¬ (1 : Int) = 0 by decide), g_isQueue, cag_e]
    by_cases d : 0 ≤ q ∧ q ≤ 1
    · have qu := h.1.2.2.2.1 q d.1 (by omega)
      rw [if_t d, if_t d, calX_0, chk_t (by omega), wk.2.1, if_f (show ¬ (1 : Int) = 0 by decide), if_f (show ¬ (1 : Int) = 0 by decide), chk_t (by omega)]
      by_cases e : r 38 k = 0
      · rw [if_t e, if_t e, g_fineE (by decide), cag_e, if_t rfl, chk_t (by omega)]
        exact CallR.thr h tt (e := 3) rfl (by rw [h3]) (by omega)
      · rw [if_f e, if_f e, chk_t (by omega)]
        rcases wk.2.2 with ⟨d1, d2⟩ | ⟨w, n, d1, d2, d3, d4, d5, d6⟩
        · have z35 : ur r 0 0 0 35 q = r 35 q := ur_n (by omega)
          have z36 : ur r 0 0 0 36 q = r 36 q := ur_n (by omega)
          rw [if_t d2, if_t d1, chk_t (by omega), qu.1.2.2.1, qu.1.2.2.2, g_fine0, cag_e, if_f (show ¬ (1 : Int) = 0 by decide), z35, z36, chk_t (by omega), chk_t (by omega)]
          by_cases u : r 36 q < r 35 q
          · have nu : ¬ r 35 q ≤ r 36 q := by omega
            have hz := h.z0
            have tz : GT (ur r 0 0 0) := tt.fr fun j hj => ur_ne (by omega)
            have e16 : ur r 0 0 0 16 0 = r 16 0 := ur_n (by omega)
            obtain ⟨b', p', y1, y2, y3⟩ := next_all (q := q) hz.1 hz.2.2.rg hz.2.2.2.2.2.1 d (fun w a b => (hz.2.2.lt a b).1.2) (r 16 0).toNat fuel9 fuel9 0 (-1) 0 (by rw [e16]; omega) (by omega) (by omega) (by omega) (Or.inl ⟨rfl, rfl⟩)
            rw [show 80 * (0 : Int) = 0 from rfl] at y3
            unfold X11_nextOn X11_nextOn_0 G_next G_next_0 G_take_85
            rw [if_t u, if_f nu, y2, cal_e, y3, cag_e]
            rcases y1 with ⟨rfl, rfl⟩ | ⟨w, n, d1, d2, d3, d4, d5, rfl, rfl, d6, d7⟩
            · rw [if_t rfl, if_t rfl]
              exact CallR.ret h tt rfl rfl h0
            · rw [e16] at d2
              have s1 := (g.2.2 w d1 d2).1
              have s2 := (g.2.2 w d1 d2).2.1
              have gw := h.2.2.2.2.2.1 w d1 d2
              have t8 := gw.2.1
              have eRz : Rl (ur r 0 0 0) w = Rl r w := by unfold Rl; rw [ur_n (by omega)]
              have eR : Rl r w = 100000 * (w + 1) + 10000 * r 12 w := rfl
              have z22 : ur r 0 0 0 22 w = r 22 w := ur_n (by omega)
              have z23 : ur r 0 0 0 23 (80 * w + n) = r 23 (80 * w + n) := ur_n (by omega)
              rw [z22] at d4
              rw [z23] at d6
              rw [eRz]
              have ac := ((h.1.2.2.2.2.2.1 w d1 d2).2.2.2.1 n d3 d4).2
              have cl : m 1 7 = r 1 0 := h.1.1.1.2.2.2.2.2.2.2
              have gn := h.2.2.gn
              have g36 := gn.2.2.1 q d.1 (by omega)
              have g37 := gn.2.2.2 (3 * q + r 8 w) (by omega) (by omega)
              have g25 := (h.2.2.gk.2 w n d1 d2 d3 d4).1 d6
              have ed : (80 * w + n) / 80 = w := by omega
              have m3 : m (Rl r w + 100 + n) 3 = r 8 w := ac.1.2.2.2.1
              have m9 : m (Rl r w + 100 + n) 9 = r 25 (80 * w + n) := ac.1.2.2.2.2.2.2
              have m5 : m (Rl r w + 100 + n) 5 = 1000 * w + 100 * r 12 w + n := ac.1.2.2.2.2.2.1
              have l2 : m (5000 + 10 * q) 2 = r 36 q := qu.1.2.2.2
              have l0 : m (5000 + 10 * q) 0 = 5000 + 10 * q + 1 := qu.1.2.1
              have lt : m (5000 + 10 * q + 1) (r 8 w) = r 37 (3 * q + r 8 w) := qu.2 (r 8 w) t8.1 t8.2
              rw [if_f (show ¬ Rl r w + 100 + n = 0 by omega), if_f (show ¬ 80 * w + n = -1 by omega), chk_t (by omega), m3]
              unfold X6_countTaken X6_countTaken_0 X0_lease X0_lease_0
              have gn1 := gn.1
              have xe : (cal (chk9 (0 < 5000 + 10 * q) (chk9 (iR (m (5000 + 10 * q) 2 + 1)) (st9 (upd9 m (5000 + 10 * q) 2 (m (5000 + 10 * q) 2 + 1)) fun m3 => if r 8 w < 0 then some (0, m3) else if 3 ≤ r 8 w then some (0, m3) else chk9 (0 < m3 (5000 + 10 * q) 0 ∧ 0 ≤ r 8 w ∧ r 8 w < 3) (chk9 (iR (m3 (m3 (5000 + 10 * q) 0) (r 8 w) + 1)) (chk9 (0 ≤ r 8 w ∧ r 8 w < 3) (st9 (upd9 m3 (m3 (5000 + 10 * q) 0) (r 8 w) (m3 (m3 (5000 + 10 * q) 0) (r 8 w) + 1)) fun m12 => some (0, m12))))))) fun _ m19 => chk9 (iR (m19 1 7 + 10)) (cal (chk9 (0 < Rl r w + 100 + n) (st9 (upd9 m19 (Rl r w + 100 + n) 6 1) fun m2 => st9 (upd9 m2 (Rl r w + 100 + n) 8 (m19 1 7 + 10)) fun m3 => chk9 (iR (m3 (Rl r w + 100 + n) 9 + 1)) (st9 (upd9 m3 (Rl r w + 100 + n) 9 (m3 (Rl r w + 100 + n) 9 + 1)) fun m5 => some (0, m5)))) fun _ m23 => st9 (upd9 m23 (5100 + k) 1 (Rl r w + 100 + n)) fun m25 => some ((0 : Int), m25 (Rl r w + 100 + n) 5, m25))) = some (0, 1000 * w + 100 * r 12 w + n, upd9 (upd9 (upd9 (upd9 (upd9 (upd9 m (5000 + 10 * q) 2 (r 36 q + 1)) (5000 + 10 * q + 1) (r 8 w) (r 37 (3 * q + r 8 w) + 1)) (Rl r w + 100 + n) 6 1) (Rl r w + 100 + n) 8 (r 1 0 + 10)) (Rl r w + 100 + n) 9 (r 25 (80 * w + n) + 1)) (5100 + k) 1 (Rl r w + 100 + n)) := by
                rw [chk_t (by omega), l2, chk_t (by omega), st_e, if_f (by omega), if_f (by omega)]
                have y0 : upd9 m (5000 + 10 * q) 2 (r 36 q + 1) (5000 + 10 * q) 0 = 5000 + 10 * q + 1 := by rw [upd9_n (by omega)]; exact l0
                have y1 : upd9 m (5000 + 10 * q) 2 (r 36 q + 1) (5000 + 10 * q + 1) (r 8 w) = r 37 (3 * q + r 8 w) := by rw [upd9_n (by omega)]; exact lt
                rw [y0, y1, chk_t (by omega), chk_t (by omega), chk_t (by omega), st_e, cal_e]
                have y2 : upd9 (upd9 m (5000 + 10 * q) 2 (r 36 q + 1)) (5000 + 10 * q + 1) (r 8 w) (r 37 (3 * q + r 8 w) + 1) 1 7 = r 1 0 := by rw [upd9_n (by omega), upd9_n (by omega)]; exact cl
                rw [y2, chk_t (by omega), chk_t (by omega), st_e, st_e]
                have y3 : upd9 (upd9 (upd9 (upd9 m (5000 + 10 * q) 2 (r 36 q + 1)) (5000 + 10 * q + 1) (r 8 w) (r 37 (3 * q + r 8 w) + 1)) (Rl r w + 100 + n) 6 1) (Rl r w + 100 + n) 8 (r 1 0 + 10) (Rl r w + 100 + n) 9 = r 25 (80 * w + n) := by rw [upd9_n (by omega), upd9_n (by omega), upd9_n (by omega), upd9_n (by omega)]; exact m9
                rw [y3, chk_t (by omega), st_e, cal_e, st_e]
                have y4 : upd9 (upd9 (upd9 (upd9 (upd9 (upd9 m (5000 + 10 * q) 2 (r 36 q + 1)) (5000 + 10 * q + 1) (r 8 w) (r 37 (3 * q + r 8 w) + 1)) (Rl r w + 100 + n) 6 1) (Rl r w + 100 + n) 8 (r 1 0 + 10)) (Rl r w + 100 + n) 9 (r 25 (80 * w + n) + 1)) (5100 + k) 1 (Rl r w + 100 + n) (Rl r w + 100 + n) 5 = 1000 * w + 100 * r 12 w + n := by rw [upd9_n (by omega), upd9_n (by omega), upd9_n (by omega), upd9_n (by omega), upd9_n (by omega), upd9_n (by omega)]; exact m5
                rw [y4]
              rw [xe]
              have a36 : ur r 0 0 0 36 q = r 36 q := ur_n (by omega)
              have a8 : ur (ur r 0 0 0) 36 q (r 36 q + 1) 8 w = r 8 w := by rw [ur_n (by omega), ur_n (by omega)]
              have a37 : ur (ur r 0 0 0) 36 q (r 36 q + 1) 37 (3 * q + r 8 w) = r 37 (3 * q + r 8 w) := by rw [ur_n (by omega), ur_n (by omega)]
              rw [chk_t (by omega), a36, chk_t (by omega), chk_t (by omega), stg_e, ed, a8, a37, chk_t (by omega), chk_t (by omega), chk_t (by omega), chk_t (by omega), chk_t (by omega), chk_t (by omega), chk_t (by omega), stg_e, chk_t (by omega), stg_e]
              have a25 : ur (ur (ur (ur r 0 0 0) 36 q (r 36 q + 1)) 37 (3 * q + r 8 w) (r 37 (3 * q + r 8 w) + 1)) 23 (80 * w + n) 2 25 (80 * w + n) = r 25 (80 * w + n) := by rw [ur_n (by omega), ur_n (by omega), ur_n (by omega), ur_n (by omega)]
              rw [a25, chk_t (by omega), chk_t (by omega), chk_t (by omega), stg_e]
              have a1 : ur (ur (ur (ur (ur r 0 0 0) 36 q (r 36 q + 1)) 37 (3 * q + r 8 w) (r 37 (3 * q + r 8 w) + 1)) 23 (80 * w + n) 2) 25 (80 * w + n) (r 25 (80 * w + n) + 1) 1 0 = r 1 0 := by rw [ur_n (by omega), ur_n (by omega), ur_n (by omega), ur_n (by omega), ur_n (by omega)]
              rw [a1, chk_t (by omega), chk_t (by omega), stg_e, chk_t (by omega), stg_e, g_told1 d1 (by omega) d3 d5 (by simp (disch := omega) only [ur_n]; omega) (by simp (disch := omega) only [ur_n]; omega), cag_e]
              have rt := rel_take hz tz hN c d d1 (by rw [e16]; exact d2) d3 (by rw [z22]; exact d4) (by rw [z23]; exact d6)
              have z8 : ur r 0 0 0 8 w = r 8 w := ur_n (by omega)
              have z37 : ur r 0 0 0 37 (3 * q + r 8 w) = r 37 (3 * q + r 8 w) := ur_n (by omega)
              have z25 : ur r 0 0 0 25 (80 * w + n) = r 25 (80 * w + n) := ur_n (by omega)
              have z1 : ur r 0 0 0 1 0 = r 1 0 := ur_n (by omega)
              rw [z8, a36, z37, z25, z1, eRz] at rt
              refine ⟨0, _, _, _, _, rfl, rfl, Or.inl rfl, ?_, fun _ => ?_, rt.1, rt.2, fun i x y => ?_, ?_, ?_, ?_, ?_⟩
              · simp (disch := omega) only [ur_n, ur_e]
                rw [h0]
              · simp (disch := omega) only [ur_n]
              · rw [upd9_row (by omega), upd9_row (by omega), upd9_row (by omega), upd9_row (by omega), upd9_row (by omega), upd9_row (by omega)]
              · rw [upd9_row (by omega), upd9_row (by omega), upd9_row (by omega), upd9_row (by omega), upd9_row (by omega), upd9_row (by omega)]
              · rw [upd9_row (by omega), upd9_row (by omega), upd9_row (by omega), upd9_row (by omega), upd9_row (by omega), upd9_row (by omega)]
              · rw [upd9_row (by omega), upd9_row (by omega), upd9_row (by omega), upd9_row (by omega), upd9_row (by omega), upd9_row (by omega)]
                simp (disch := omega) only [ur_n]
                omega
              · rw [upd9_row (by omega), upd9_row (by omega), upd9_row (by omega), upd9_row (by omega), upd9_row (by omega), upd9_row (by omega)]
                simp (disch := omega) only [ur_n]
                omega
          · have nu : r 35 q ≤ r 36 q := by omega
            unfold G_take_85
            rw [if_f u, if_t nu, if_t rfl]
            exact CallR.ret h tt rfl rfl h0
        · have s1 := (g.2.2 w d1 d2).1
          have eR : Rl r w = 100000 * (w + 1) + 10000 * r 12 w := rfl
          rw [if_f (show ¬ m (5100 + k) 1 = 0 by omega), if_f (show ¬ r 39 k = -1 by omega), g_fineE (by decide), cag_e, if_t rfl, chk_t (by omega)]
          exact CallR.thr h tt (e := 3) rfl (by rw [h3]) (by omega)
    · rw [if_f d, if_f d, calX_e (by decide), if_t rfl, if_t rfl, g_fineE (by decide), cag_e, if_t rfl]
      exact CallR.thr h tt (e := 1) rfl (by rw [h1]) (by omega)
  · rw [if_f c, if_f c, calX_e (by decide), if_t rfl, if_t rfl, g_fineE (by decide), cag_e, if_t rfl]
    exact CallR.thr h tt (e := 1) rfl (by rw [h1]) (by omega)
end TA
