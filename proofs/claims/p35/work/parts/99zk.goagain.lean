/-! a run is over and goes on as new -/
section EZ
variable {N N' : Int} {uf : Int → Int} {r r' z r0 r1 r2 : Rst} {m m' m0 m1 m2 : Mem} {w n k x y q s b c v row I o t l u f W E M p nu pa L R F E1 : Int} {hs hs2 : Rst} {a : Int → Int} {s5 s6 s7 : Int → Int} {s8 : Int}
theorem Sg.ofs (h : Sg (c4 hs) hs E a s5 s6 s7 s8) (hE : 0 ≤ E) (e : ∀ i, 0 ≤ i → i < E → hs2 0 i = hs 0 i ∧ hs2 1 i = hs 1 i ∧ hs2 2 i = hs 2 i) : Sg (c4 hs2) hs2 E a s5 s6 s7 s8 := by
  obtain ⟨h1, h2, h3⟩ := h
  have ec : ∀ i, 0 ≤ i → i ≤ E → c4 hs2 i = c4 hs i := fun i i0 i1 => by
    unfold c4
    exact cntP_congr fun j j0 j1 => (e j j0 (by omega)).1
  refine ⟨by rw [ec E hE (Int.le_refl _)]; exact h1, fun i i0 i1 ik => ?_, h3⟩
  rw [(e i i0 i1).1] at ik
  rw [ec i i0 (by omega), (e i i0 i1).2.1, (e i i0 i1).2.2]
  exact h2 i i0 i1 ik
theorem x_goagain (h : Clo N w 14 u r r2 m m2) (w0 : 0 ≤ w) (w1 : w < r2 16 0) (r8 : r 12 w ≤ 8) (bx : -100000 ≤ x ∧ x ≤ 100000) (hE : 0 ≤ E ∧ E ≤ r 18 (rw9 r w)) (h4 : ∀ j, E ≤ j → j < r 18 (rw9 r w) → r 19 (80 * rw9 r w + j) ≠ 4) (sg : Sg (c4 hs) hs E a (r 65) (r 66) (r 67) (r 68 0)) (hag : ∀ i, 0 ≤ i → i < E → r 19 (80 * rw9 r w + i) = hs 0 i ∧ r 20 (80 * rw9 r w + i) = hs 1 i ∧ r 21 (80 * rw9 r w + i) = hs 2 i) (hK : can (fun i => r 19 (80 * rw9 r w + i)) (r 18 (rw9 r w)).toNat = r 47 0) (m14 : m2 100 1 = 110) (ma : ∀ i, m2 110 i = a i) : ∃ r3 m3, coTail 14 x (100000 * (w + 1)) m2 = some (0, m3) ∧ goTail w 14 x r2 = some (0, r3) ∧ RelC N r3 m3 ∧ GT r3 ∧ (∀ i, (10 ≤ i ∧ i < 1000) ∨ i = -3 ∨ i = -4 ∨ i = Rl r w → m3 i = m2 i) ∧ (m3 (-2) 0 = m2 (-2) 0 + 7 ∧ m3 (-2) 1 = m2 (-2) 1 + 415) ∧ r3 12 w = r 12 w + 1 ∧ ∀ j : Nat, j = 0 ∨ j = 16 ∨ 40 ≤ j → r3 j = r2 j := by
  obtain ⟨c1, c2, c3, c4', c5, c6, c7, c8⟩ := h
  have g := c1.2.2.rg
  have b10 := g.1
  have e12 : r2 12 = r 12 := c3 12 (by omega)
  have r29 : rw9 r2 w = rw9 r w := by unfold rw9; rw [e12]
  have eRl : Rl r2 w = Rl r w := by unfold Rl; rw [e12]
  have sz := g.2.2 w w0 w1
  have s1 := sz.1
  have s2 := sz.2.1
  have ew : rw9 r2 w = 9 * w + r2 12 w - 1 := rfl
  have h18 := sz.2.2.2.2.2 (rw9 r2 w) (by omega) (by omega)
  have q18 : r2 18 (rw9 r w) = r 18 (rw9 r w) := c7 18 _ (by unfold HO; omega)
  rw [r29, q18] at h18
  have q19 : ∀ (j : Nat) i, 19 ≤ j → j ≤ 21 → 0 ≤ i → i < 80 → r2 j (80 * rw9 r w + i) = r j (80 * rw9 r w + i) := fun j i a b c d => c7 j _ (by unfold HO; omega)
  have gu := c1.2.2.2.2.2.2.1
  have e18 : r2 18 (9 * w + r2 12 w) = 0 := by
    have := gu.2.1 w (r2 12 w + 1) w0 (by omega) (by omega) (by rw [e12]; omega)
    rw [show 9 * w + (r2 12 w + 1) - 1 = 9 * w + r2 12 w by omega] at this
    exact this
  obtain ⟨r3, y1, nr⟩ := g_beginsRun (r := r2) (w := w) (v := x) w0 (by omega) (by omega) (by rw [e12]; exact r8) e18
  obtain ⟨m3, x1, x2, x3, x4, x5⟩ := x_beginRun c1 w0 w1 (by rw [e12]; exact r8) (fun n a b => c5 n a (by rw [c3 22 (by omega)] at b; exact b)) bx nr c8
  rw [eRl] at x3
  have o := NRun.oth nr
  have nw := nr.2.2.2.2.2
  have eR9 : Rl r w = 100000 * (w + 1) + 10000 * r 12 w := rfl
  have e312 : r3 12 w = r 12 w + 1 := by rw [nr.1, e12]
  have eRl3 : Rl r3 w = Rl r w + 10000 := by unfold Rl; rw [e312]; omega
  have e93 : rw9 r3 w = 9 * w + r2 12 w := by unfold rw9; rw [e312, e12]; omega
  rw [e12] at s1
  have fA := c1.1.2.2.2.2.2.1 w w0 w1
  have f6 := fA.1.1.2.2.2.2.2.2.1
  rw [eRl] at f6
  have ru := fA.2.1 (r2 12 w) (by rw [e12]; exact s1) (Int.le_refl _)
  rw [show 100000 * (w + 1) + 10000 * r2 12 w = Rl r w from eRl, show 9 * w + r2 12 w - 1 = rw9 r w from r29] at ru
  obtain ⟨⟨u0, u1, u2, u7, v0, v1, v2, v3⟩, ue⟩ := ru
  rw [q18] at v3 ue
  have hc3 : can (hk r3 w) (r3 18 (rw9 r3 w)).toNat = 0 := by
    rw [e93, nr.2.2.1, show (1 : Int).toNat = 0 + 1 from rfl, can, can]
    have e0 : hk r3 w ((0 : Nat) : Int) = 0 := by
      unfold hk
      rw [e93, show 80 * (9 * w + r2 12 w) + ((0 : Nat) : Int) = 80 * (9 * w + r2 12 w) by omega]; exact nr.2.2.2.2.1.1
    rw [e0]; rfl
  have ol : Old (fun j i => r (19 + j) (80 * rw9 r w + i)) a (Rl r w) (r 18 (rw9 r w)) m3 := by
    unfold Old
    rw [x3 (Rl r w) (by omega) (by omega) (by omega), x3 (Rl r w + 1) (by omega) (by omega) (by omega), x3 (Rl r w + 2) (by omega) (by omega) (by omega), x3 (Rl r w + 3) (by omega) (by omega) (by omega), x3 (Rl r w + 4) (by omega) (by omega) (by omega), x3 1 (by omega) (by omega) (by omega), x3 100 (by omega) (by omega) (by omega), x3 110 (by omega) (by omega) (by omega)]
    refine ⟨⟨u0, v0, v1, v2, v3⟩, fun i i0 i1 => ?_, c1.1.1.1.2.2.2.2.1, m14, ma⟩
    have := ue i i0 i1
    rw [q19 19 i (by omega) (by omega) i0 (by omega), q19 20 i (by omega) (by omega) i0 (by omega), q19 21 i (by omega) (by omega) i0 (by omega)] at this
    exact this
  have hi := c1.2.2.hi w0 w1
  obtain ⟨r4, m4, z1, z2, z3, z4, z5⟩ := x_again (N := N) (hs := fun j i => r (19 + j) (80 * rw9 r w + i)) (a := a) (A := 100000 * (w + 1)) (R := Rl r w) (E := E) (E1 := r 18 (rw9 r w)) (r := r3) (m := m3) w0 (by rw [o 16 (by omega)]; exact w1) rfl (by omega) hE.1 hE.2 h18.2 h4 (fun i i0 i1 ik => by
    have k5 := hi.2.2.2.2.1 i i0 (by rw [r29, q18]; omega)
    have k6 := hi.2.2.2.2.2.1 i i0 (by rw [r29, q18]; omega)
    unfold hk at k5 k6
    rw [r29, q19 19 i (by omega) (by omega) i0 (by omega), q19 20 i (by omega) (by omega) i0 (by omega)] at k5 k6
    rw [q19 21 i (by omega) (by omega) i0 (by omega)] at k5
    have ik' : r 19 (80 * rw9 r w + i) = 4 := ik
    have k5' := k5 (by omega)
    have k6' := k6 (by omega) (by omega)
    exact ⟨⟨k6', k5'.2.1.2⟩, k5'.2.2⟩) (by rw [eRl3]; omega) ol (by
    rw [o 65 (by omega), o 66 (by omega), o 67 (by omega), o 68 (by omega), c3 65 (by omega), c3 66 (by omega), c3 67 (by omega), c3 68 (by omega)]
    exact sg.ofs hE.1 fun i i0 i1 => hag i i0 i1) x2 hc3 (by
    have ca := (c1.2.1 w w0 w1).1
    unfold CaW at ca
    rw [eRl, r29, q18] at ca
    rw [x3 (Rl r w) (by omega) (by omega) (by omega), ca, o 47 (by omega), c3 47 (by omega), ← hK]
    refine can_congr fun i i0 i1 => ?_
    unfold hk
    rw [r29]
    exact q19 19 i (by omega) (by omega) i0 (by omega))
  rw [eRl3] at z4
  refine ⟨r4, m4, ?_, ?_, z3, fun w2 n p0 p1 n0 n1 => ?_, fun i hi => by rw [z4 i (by omega), x3 i (by omega) (by omega) (by omega)], ⟨by rw [z4 (-2) (by omega), x4], by rw [z4 (-2) (by omega), x5]⟩, by rw [z5 12 (by omega), e312], fun j hj => by rw [z5 j (by omega), o j (by omega)]⟩
  · unfold coTail X11_beginAgain X11_beginAgain_0
    rw [if_t rfl, x1, cal_e, f6, z1, chk_t (by omega), cal_e]
  · unfold goTail
    rw [if_t rfl, y1, cag_e, z2, chk_t (by omega)]
  · rw [z5 16 (by omega), o 16 (by omega)] at p1
    rw [z5 22 (by omega)] at n1
    rw [z5 1 (by omega), z5 23 (by omega), z5 26 (by omega), z5 27 (by omega), o 1 (by omega), o 23 (by omega), o 26 (by omega), o 27 (by omega)]
    by_cases e : w2 = w
    · rw [e, nr.2.2.2.1.2.2.1] at n1; omega
    · rw [nw 22 w2 (by omega)] at n1
      exact c4' w2 n p0 p1 n0 n1
end EZ
