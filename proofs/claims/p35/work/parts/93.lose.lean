/-! one call on both sides: a try is ended, or lost -/
section LS
variable {cd : Int → Int} {N : Int} {r r' : Rst} {m m' : Mem} {w n : Int}
/-- an activity is over with DONE or LOST -/
theorem RelC.over {k y : Int} (h : RelC N r m) (w0 : 0 ≤ w) (w1 : w < r 16 0) (n0 : 0 ≤ n) (n1 : n < r 22 w) (how : r 23 (80 * w + n) ≠ 0) (hk12 : k = 1 ∨ k = 2) (bY : -100000 ≤ y ∧ y ≤ 100000) : ∃ v m1 m' r1 r', X11_takeOff 1 (Rl r w + 100 + n) m = some (0, m1) ∧ G_takesOff w n r = some (0, r1) ∧ m1 (Rl r w + 100 + n) 0 = Rl r w ∧ m1 (Rl r w + 100 + n) 1 = n ∧ m1 (Rl r w + 100 + n) 9 = m (Rl r w + 100 + n) 9 ∧ X7_happen (Rl r w) k n y m1 = some (v, m') ∧ G_happens w k n y r1 = some (v, r') ∧ (v = 0 ∨ v = 1) ∧ RelC N r' m' ∧ (∀ i, (i < 5100 ∨ 5104 ≤ i) → i ≠ Rl r w + 100 + n → ¬ (Rl r w + 1 ≤ i ∧ i ≤ Rl r w + 4) → m' i = m i) ∧ m' (Rl r w + 100 + n) 9 = m (Rl r w + 100 + n) 9 ∧ (∀ j : Nat, j ≠ 39 → j ≠ 23 → j < 18 ∨ 21 < j → r' j = r j) ∧ (∀ i, i ≠ 80 * w + n → r' 23 i = r 23 i) ∧ r' 23 (80 * w + n) = 0 := by
  have g := h.2.2.rg
  have s1 := (g.2.2 w w0 w1).1
  have s2 := (g.2.2 w w0 w1).2.1
  have eR : Rl r w = 100000 * (w + 1) + 10000 * r 12 w := rfl
  obtain ⟨m1, r1, a1, a2, a3, a4, a5, a6, a7, a8, a9⟩ := h.off w0 w1 n0 n1
  have ac := ((h.1.2.2.2.2.2.1 w w0 w1).2.2.2.1 n n0 n1).2
  have hi := h.2.2.hi w0 w1
  have e9 : ∀ w, rw9 r1 w = rw9 r w := fun w => by unfold rw9; rw [a6 12 (by omega) (by omega)]
  have eRl : Rl r1 w = Rl r w := by unfold Rl; rw [a6 12 (by omega) (by omega)]
  have ek : ∀ w, hk r1 w = hk r w := fun w => by unfold hk; rw [e9, a6 19 (by omega) (by omega)]
  obtain ⟨v, m', r', b1, b2, b3, b4, b5, b6⟩ := a3.happen (k := k) (x := n) (y := y) w0 (by rw [a6 16 (by omega) (by omega)]; exact w1) (by omega) (by omega) (by have := (h.2.2.lt w0 w1).1; omega) bY n0 (fun _ _ => ⟨by rw [a6 22 (by omega) (by omega)]; exact n1, a8, fun i i0 i1 i2 e => by
    rw [e9, a6 18 (by omega) (by omega)] at i1
    rw [ek] at i2
    rw [e9, a6 20 (by omega) (by omega)] at e
    have := (hi.2.2.2.2.2.2.1 i i0 i1 i2).2
    rw [e] at this
    exact how this⟩) (fun _ e => by omega)
  rw [eRl] at b1 b5
  refine ⟨v, m1, m', r1, r', a1, a2, by rw [a5 0 (by decide)]; exact ac.1.1, by rw [a5 1 (by decide)]; exact ac.1.2.1, a5 9 (by decide), b1, b2, b3, b4, fun i c d e => by rw [b5 i e, a4 i c d], by rw [b5 _ (by omega), a5 9 (by decide)], fun j c d e => by rw [b6 j e, a6 j c d], fun i c => by rw [b6 23 (by omega), a7 i c], by rw [b6 23 (by omega)]; exact a8⟩
theorem RelC.lose (h : RelC N r m) (hN : N ≤ 600) (w0 : 0 ≤ w) (w1 : w < r 16 0) (n0 : 0 ≤ n) (n1 : n < r 22 w) (how : r 23 (80 * w + n) = 2) : ∃ m' r', X11_loseTry 1 (Rl r w + 100 + n) m = some (0, m') ∧ G_failsTry (80 * w + n) r = some (0, r') ∧ RelC N r' m' ∧ (∀ i, (i < 5100 ∨ 5104 ≤ i) → i ≠ Rl r w + 100 + n → ¬ (Rl r w + 1 ≤ i ∧ i ≤ Rl r w + 4) → m' i = m i) ∧ m' (Rl r w + 100 + n) 9 = r 25 (80 * w + n) ∧ (∀ j : Nat, j ≠ 39 → j ≠ 23 → j ≠ 26 → j < 18 ∨ 21 < j → r' j = r j) ∧ (∀ i, i ≠ 80 * w + n → r' 23 i = r 23 i ∧ r' 26 i = r 26 i) ∧ (r' 23 (80 * w + n) = 0 ∨ r' 23 (80 * w + n) = 3 ∧ r' 26 (80 * w + n) = r 1 0 + 2 * r 25 (80 * w + n) ∧ 1 ≤ r 25 (80 * w + n)) := by
  have f9 := fuel9_ge
  have g := h.2.2.rg
  have b10 := g.1.2
  have s1 := (g.2.2 w w0 w1).1
  have s2 := (g.2.2 w w0 w1).2.1
  have lt := (h.2.2.lt w0 w1).1
  have eR : Rl r w = 100000 * (w + 1) + 10000 * r 12 w := rfl
  have ac := ((h.1.2.2.2.2.2.1 w w0 w1).2.2.2.1 n n0 n1).2
  have gk := h.2.2.gk.2 w n w0 w1 n0 n1
  have gn := h.2.2.gn.1
  have tr := (gk.2.1 how).1
  have ed : (80 * w + n) / 80 = w := by omega
  have emd : (80 * w + n) % 80 = n := by omega
  have a9 := ac.1.2.2.2.2.2.2
  have cl : m 1 7 = r 1 0 := h.1.1.1.2.2.2.2.2.2.2
  unfold X11_loseTry X11_loseTry_0 G_failsTry G_failsTry_0
  rw [chk_t (by omega), a9, ed, emd, chk_t (by omega), chk_t (by omega), chk_t (by omega)]
  by_cases c : r 25 (80 * w + n) < 3
  · obtain ⟨r1, t1, t2, t3, t4, t5, t6⟩ := g_takesOff (r := r) (w := w) (n := n) (by omega) (by omega)
    obtain ⟨m1, k1, k2, k3⟩ := x_free2 (A := Rl r w + 100 + n) (by omega) fuel9 0 m (by omega) (by omega) (by omega) h.1.1.1.2.2.2.1 (fun q a b => (h.1.2.2.2.2.1 q a b).1)
    have ec : r1 1 0 = r 1 0 := by rw [t2 1 (by omega) (by omega)]
    have ec2 : ur r1 23 (80 * w + n) 3 1 0 = r 1 0 := by rw [ur_n (by omega)]; exact ec
    have em7 : upd9 m1 (Rl r w + 100 + n) 6 2 1 7 = r 1 0 := by rw [upd9_n (by omega), k2 1 (by omega)]; exact cl
    have em9 : upd9 m1 (Rl r w + 100 + n) 6 2 (Rl r w + 100 + n) 9 = r 25 (80 * w + n) := by rw [upd9_n (by omega), k2 _ (by omega)]; exact a9
    unfold X11_freeHandsOf X11_freeHandsOf_0
    rw [if_t c, chk_t (by omega), k1, cal_e, st_e, em9, em7, chk_t (by omega), chk_t (by omega), st_e, t1, cag_e, if_f (show ¬ r 25 (80 * w + n) = 3 by omega), chk_t (by omega), stg_e, ec2, chk_t (by omega), chk_t (by omega), chk_t (by omega), stg_e, chk_t (by omega)]
    have em : ∀ i, ¬ (5100 ≤ i ∧ i < 5104) → i ≠ Rl r w + 100 + n → upd9 (upd9 m1 (Rl r w + 100 + n) 6 2) (Rl r w + 100 + n) 8 (r 1 0 + 2 * r 25 (80 * w + n)) i = m i := fun i a b => by rw [upd9_row b, upd9_row b, k2 i a]
    have nf : ∀ j : Nat, j ≠ 39 → j ≠ 23 → j ≠ 26 → ur (ur r1 23 (80 * w + n) 3) 26 (80 * w + n) (r 1 0 + 2 * r 25 (80 * w + n)) j = r j := fun j a b c => by rw [ur_ne c, ur_ne b, t2 j a b]
    have e23 : ∀ i, i ≠ 80 * w + n → ur (ur r1 23 (80 * w + n) 3) 26 (80 * w + n) (r 1 0 + 2 * r 25 (80 * w + n)) 23 i = r 23 i := fun i hi => by rw [ur_n (by omega), ur_n (by omega), t3 i hi]
    have e26 : ∀ i, i ≠ 80 * w + n → ur (ur r1 23 (80 * w + n) 3) 26 (80 * w + n) (r 1 0 + 2 * r 25 (80 * w + n)) 26 i = r 26 i := fun i hi => by rw [ur_n (by omega), ur_ne (by omega), t2 26 (by omega) (by omega)]
    have v23 : ur (ur r1 23 (80 * w + n) 3) 26 (80 * w + n) (r 1 0 + 2 * r 25 (80 * w + n)) 23 (80 * w + n) = 3 := by rw [ur_n (by omega), ur_e rfl rfl]
    have v26 : ur (ur r1 23 (80 * w + n) 3) 26 (80 * w + n) (r 1 0 + 2 * r 25 (80 * w + n)) 26 (80 * w + n) = r 1 0 + 2 * r 25 (80 * w + n) := ur_e rfl rfl
    have e39 : ∀ q, 0 ≤ q → q < 4 → ur (ur r1 23 (80 * w + n) 3) 26 (80 * w + n) (r 1 0 + 2 * r 25 (80 * w + n)) 39 q = if r 39 q = 80 * w + n then -1 else r 39 q := fun q a b => by rw [ur_n (by omega), ur_n (by omega)]; exact t6 q a b
    have m9 : upd9 (upd9 m1 (Rl r w + 100 + n) 6 2) (Rl r w + 100 + n) 8 (r 1 0 + 2 * r 25 (80 * w + n)) (Rl r w + 100 + n) 9 = r 25 (80 * w + n) := by rw [upd9_n (by omega)]; exact em9
    have aj : ∀ j, j ≠ 6 → j ≠ 8 → upd9 (upd9 m1 (Rl r w + 100 + n) 6 2) (Rl r w + 100 + n) 8 (r 1 0 + 2 * r 25 (80 * w + n)) (Rl r w + 100 + n) j = m (Rl r w + 100 + n) j := fun j a b => by rw [upd9_n (by omega), upd9_n (by omega), k2 _ (by omega)]
    have a6 : upd9 (upd9 m1 (Rl r w + 100 + n) 6 2) (Rl r w + 100 + n) 8 (r 1 0 + 2 * r 25 (80 * w + n)) (Rl r w + 100 + n) 6 = 2 := by rw [upd9_n (by omega), upd9_e rfl rfl]
    have a8 : upd9 (upd9 m1 (Rl r w + 100 + n) 6 2) (Rl r w + 100 + n) 8 (r 1 0 + 2 * r 25 (80 * w + n)) (Rl r w + 100 + n) 8 = r 1 0 + 2 * r 25 (80 * w + n) := upd9_e rfl rfl
    have kq : ∀ q, 0 ≤ q → q < 4 → upd9 (upd9 m1 (Rl r w + 100 + n) 6 2) (Rl r w + 100 + n) 8 (r 1 0 + 2 * r 25 (80 * w + n)) (5100 + q) 0 = m (5100 + q) 0 ∧ upd9 (upd9 m1 (Rl r w + 100 + n) 6 2) (Rl r w + 100 + n) 8 (r 1 0 + 2 * r 25 (80 * w + n)) (5100 + q) 1 = if m (5100 + q) 1 = Rl r w + 100 + n then 0 else m (5100 + q) 1 := fun q a b => by
      obtain ⟨k4, k5⟩ := k3 q a b
      rw [upd9_n (by omega), upd9_n (by omega), upd9_n (by omega), upd9_n (by omega), k4, k5]
      refine ⟨rfl, ?_⟩
      by_cases d : m (5100 + q) 1 = Rl r w + 100 + n
      · rw [if_t d, if_t ⟨a, d⟩]
      · rw [if_f d, if_f (fun hh => d hh.2)]
    generalize upd9 (upd9 m1 (Rl r w + 100 + n) 6 2) (Rl r w + 100 + n) 8 (r 1 0 + 2 * r 25 (80 * w + n)) = mz at *
    generalize ur (ur r1 23 (80 * w + n) 3) 26 (80 * w + n) (r 1 0 + 2 * r 25 (80 * w + n)) = rz at *
    have hr : RelM rz mz := by
      refine rel_offs h.1 g w0 w1 n0 n1 em kq (fun j i a b => ?_) e39 ?_
      · by_cases d : j = 23
        · subst d; exact e23 i (by omega)
        · by_cases e : j = 26
          · subst e; exact e26 i (by omega)
          · rw [nf j a d e]
      · unfold ActC Rl at *
        rw [aj 0 (by omega) (by omega), aj 1 (by omega) (by omega), aj 2 (by omega) (by omega), aj 3 (by omega) (by omega), aj 4 (by omega) (by omega), aj 5 (by omega) (by omega), aj 9 (by omega) (by omega), a6, a8, v23, v26, nf 12 (by omega) (by omega) (by omega), nf 24 (by omega) (by omega) (by omega), nf 8 (by omega) (by omega) (by omega), nf 28 (by omega) (by omega) (by omega), nf 25 (by omega) (by omega) (by omega)]
        exact ⟨ac.1, Or.inr (Or.inr (Or.inl ⟨rfl, rfl, rfl⟩))⟩
    refine ⟨mz, rz, rfl, rfl, h.mk hr (h.2.2.act (fun j a b c d e f l => nf j l b d) (fun w2 n2 a b c d e => ?_) ⟨fun q a b => ?_, fun w2 n2 a b c d => ?_⟩) (fun w2 a b => ?_) (fun j hj => nf j (by omega) (by omega) (by omega)), fun i a b _ => em i (by omega) b, m9, fun j a b c _ => nf j a b c, fun i hi => ⟨e23 i hi, e26 i hi⟩, Or.inr ⟨v23, v26, tr.1⟩⟩
    · by_cases i : 80 * w2 + n2 = 80 * w + n
      · rw [i] at e; omega
      · rw [e23 _ i]; exact e
    · have kq2 := h.2.2.gk.1 q a b
      rw [nf 38 (by omega) (by omega) (by omega), e39 q a b]
      refine ⟨kq2.1, ?_⟩
      by_cases d : r 39 q = 80 * w + n
      · rw [if_t d]; exact Or.inl rfl
      · rw [if_f d, e23 _ d]; exact kq2.2
    · rw [nf 16 (by omega) (by omega) (by omega)] at b
      rw [nf 22 (by omega) (by omega) (by omega)] at d
      rw [nf 25 (by omega) (by omega) (by omega), nf 27 (by omega) (by omega) (by omega), nf 1 (by omega) (by omega) (by omega)]
      by_cases i : 80 * w2 + n2 = 80 * w + n
      · rw [i, v23, v26]
        exact ⟨fun f => by omega, fun f => by omega, fun f => by omega⟩
      · rw [e23 _ i, e26 _ i]
        exact h.2.2.gk.2 w2 n2 a b c d
    · have t1 := (g.2.2 w2 a b).1
      have t2 := (g.2.2 w2 a b).2.1
      have eR2 : Rl r w2 = 100000 * (w2 + 1) + 10000 * r 12 w2 := rfl
      refine em _ (by omega) ?_
      by_cases e : w2 = w
      · rw [e]; omega
      · omega
  · obtain ⟨v, m1, m', r1, r', a1, a2, a3, a4, a5, a6, a7, a8, b1, b2, b3, b4, b5, b6⟩ := h.over (k := 2) (y := 0) w0 w1 n0 n1 (by omega) (Or.inr rfl) (by omega)
    rw [if_f c, chk_t (by omega), a1, cal_e, a3, chk_t (by omega), a4, a6, cal_e, a2, cag_e, if_t (show r 25 (80 * w + n) = 3 by omega), chk_t (by omega), chk_t (by omega), a7, cag_e, chk_t (by omega)]
    exact ⟨m', r', rfl, rfl, b1, b2, by rw [b3]; exact a9, fun j c d e f => b4 j c d f, fun i hi => ⟨b5 i hi, by rw [b4 26 (by omega) (by omega) (by omega)]⟩, Or.inl b6⟩
end LS
