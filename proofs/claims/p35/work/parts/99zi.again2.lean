/-! a run goes on as new: the signals that were not taken, and the cancel -/
section EX
variable {N N' : Int} {uf : Int → Int} {r r' z r0 r1 r2 : Rst} {m m' m0 m1 : Mem} {w n k x y q s b c v row I o t l u f W E M p nu pa L R F E1 : Int} {hs : Rst} {a : Int → Int}
theorem c4_mono {i j : Int} (h0 : 0 ≤ i) (h : i ≤ j) : c4 hs i ≤ c4 hs j ∧ 0 ≤ c4 hs i ∧ c4 hs i ≤ i := by
  unfold c4
  have k1 := cntP_mono (p := fun k => decide (k = 4)) (f := hs 0) (n := i.toNat) (t := (j - i).toNat)
  rw [show i.toNat + (j - i).toNat = j.toNat by omega] at k1
  have k2 := cntP_0 (p := fun k => decide (k = 4)) (f := hs 0) (n := i.toNat)
  have k3 := cntP_le (p := fun k => decide (k = 4)) (f := hs 0) (n := i.toNat)
  omega
/-- the old run, as the class looks at it -/
def Old (hs : Rst) (a : Int → Int) (R E1 : Int) (m : Mem) : Prop := (m R 0 = R + 1 ∧ m (R + 1) 0 = R + 2 ∧ m (R + 1) 1 = R + 3 ∧ m (R + 1) 2 = R + 4 ∧ m (R + 1) 3 = E1) ∧ (∀ i, 0 ≤ i → i < E1 → m (R + 2) i = hs 0 i ∧ m (R + 3) i = hs 1 i ∧ m (R + 4) i = hs 2 i) ∧ m 1 4 = 100 ∧ m 100 1 = 110 ∧ ∀ i, m 110 i = a i
theorem Old.frm (h : Old hs a R E1 m) (e : ∀ i, i < R + 5 → m' i = m i) (hR : 1000 < R) : Old hs a R E1 m' := by
  unfold Old at *
  rw [e R (by omega), e (R + 1) (by omega), e (R + 2) (by omega), e (R + 3) (by omega), e (R + 4) (by omega), e 1 (by omega), e 100 (by omega), e 110 (by omega)]
  exact h
theorem ag_tail {k94 : Int → Int → Mem → Option R2} (ol : Old hs a R E1 m) (hR : 1000 < R) (h80 : E1 ≤ 80) : ∀ (d : Nat) (i : Int) (t : Nat), E1 - i = d → 0 ≤ i → d < t → (∀ j, i ≤ j → j < E1 → hs 0 j ≠ 4) → X11_beginAgain_13 k94 t 1 F R i m = k94 F R m := by
  obtain ⟨⟨o0, o1, o2, o3, o4⟩, o5, o6, o7, o8⟩ := ol
  intro d
  induction d with
  | zero =>
    intro i t hd i0 ht h4
    obtain ⟨t, rfl⟩ : ∃ k, t = k + 1 := ⟨t - 1, by omega⟩
    rw [X11_beginAgain_13, o0, o4, if_t (by omega)]
    repeat rw [chk_t (by omega)]
  | succ d ih =>
    intro i t hd i0 ht h4
    obtain ⟨t, rfl⟩ : ∃ k, t = k + 1 := ⟨t - 1, by omega⟩
    rw [X11_beginAgain_13, o0, o4, if_f (by omega), if_f (by omega), o1, (o5 i i0 (by omega)).1, if_f (h4 i (Int.le_refl _) (by omega)), ih (i + 1) t (by omega) (by omega) (by omega) (fun j j0 j1 => h4 j (by omega) j1)]
    repeat rw [chk_t (by omega)]
theorem ag_loop {k94 : Int → Int → Mem → Option R2} {g94 : Int → Rst → Option G2} {A : Int} (w0 : 0 ≤ w) (hA : A = 100000 * (w + 1)) (hR : A < R) (hE : 0 ≤ E) (hE1 : E ≤ E1) (h80 : E1 ≤ 80) (h4 : ∀ j, E ≤ j → j < E1 → hs 0 j ≠ 4) (hb : ∀ i, 0 ≤ i → i < E → hs 0 i = 4 → (0 ≤ hs 1 i ∧ hs 1 i ≤ 100000) ∧ (-100000 ≤ hs 2 i ∧ hs 2 i ≤ 100000)) : ∀ (d : Nat) (i : Int) (t t2 : Nat) (r : Rst) (m : Mem), E - i = d → 0 ≤ i → E1 - i < t → c4 hs E - c4 hs i < t2 → w < r 16 0 → R + 10000 ≤ Rl r w → Old hs a R E1 m → Sg (c4 hs) hs E a (r 65) (r 66) (r 67) (r 68 0) → RelC N r m → can (hk r w) (r 18 (rw9 r w)).toNat = 0 → ∃ r' m', X11_beginAgain_13 k94 t 1 A R i m = k94 A R m' ∧ G_over_39 g94 t2 w (c4 hs i) r = g94 w r' ∧ RelC N r' m' ∧ (∀ i, ¬ (Rl r w + 1 ≤ i ∧ i ≤ Rl r w + 4) → m' i = m i) ∧ (∀ j : Nat, j < 18 ∨ 21 < j → r' j = r j) ∧ can (hk r' w) (r' 18 (rw9 r' w)).toNat = 0 := by
  intro d
  induction d with
  | zero =>
    intro i t t2 r m hd i0 ht ht2 w1 hRl ol sg h hc
    have ei : i = E := by omega
    subst ei
    obtain ⟨t2, rfl⟩ : ∃ k, t2 = k + 1 := ⟨t2 - 1, by omega⟩
    refine ⟨r, m, ag_tail ol (by omega) h80 (E1 - i).toNat i t (by omega) i0 (by omega) h4, ?_, h, fun _ _ => rfl, fun _ _ => rfl, hc⟩
    rw [G_over_39, sg.1, if_t (Int.le_refl _)]
  | succ d ih =>
    intro i t t2 r m hd i0 ht ht2 w1 hRl ol sg h hc
    obtain ⟨t, rfl⟩ : ∃ k, t = k + 1 := ⟨t - 1, by omega⟩
    obtain ⟨⟨o0, o1, o2, o3, o4⟩, o5, o6, o7, o8⟩ := id ol
    obtain ⟨p1, p2, p3⟩ := o5 i i0 (by omega)
    have cs := (c4_cs hs).2 i i0
    by_cases c : hs 0 i = 4
    · rw [if_t c] at cs
      have mo := c4_mono (hs := hs) (i := i + 1) (j := E) (by omega) (by omega)
      have mo2 := c4_mono (hs := hs) (i := i) (j := E) (by omega) (by omega)
      obtain ⟨t2, rfl⟩ : ∃ k, t2 = k + 1 := ⟨t2 - 1, by omega⟩
      have sg1 := sg.1
      obtain ⟨s65, s66, s67⟩ := sg.2.1 i i0 (by omega) c
      have hbi := hb i i0 (by omega) c
      by_cases ta : a i = 0
      · have F6 := (h.1.2.2.2.2.2.1 w w0 w1).1.1.2.2.2.2.2.2.1
        rw [← hA] at F6
        obtain ⟨v, m', r', a1, a2, a3, a4, a5, a6⟩ := h.happen (k := 4) (x := hs 1 i) (y := hs 2 i) w0 w1 (by omega) (by omega) (by omega) (by omega) (by omega) (fun _ e => by omega) (fun _ e => by omega)
        have e12 : r' 12 = r 12 := a6 12 (by omega)
        have eRl : Rl r' w = Rl r w := by unfold Rl; rw [e12]
        have g := h.2.2.rg
        have b10 := g.1
        have sz := g.2.2 w w0 w1
        have hc' : can (hk r' w) (r' 18 (rw9 r' w)).toNat = 0 := by
          obtain ⟨v', m'', r'', b1, b2, b3, ⟨rfl, b4, b5, rfl, rfl⟩ | ⟨rfl, b4, rfl, rfl⟩⟩ := rel_happen (k := 4) (x := hs 1 i) (y := hs 2 i) h.1 g w0 w1
          · rw [b2] at a2
            injection a2 with a2
            injection a2 with _ a2
            rw [← a2, can_wr (sz.2.2.2.2.2 (rw9 r w) (by have := sz.1; unfold rw9; omega) (by have := sz.2.1; unfold rw9; omega)).1, if_f (by decide)]
            exact hc
          · rw [b2] at a2
            injection a2 with a2
            injection a2 with _ a2
            rw [← a2]
            exact hc
        obtain ⟨r2, m2, k1, k2, k3, k4, k5, k6⟩ := ih (i + 1) t t2 r' m' (by omega) (by omega) (by omega) (by omega) (by rw [a6 16 (by omega)]; exact w1) (by rw [eRl]; exact hRl) (ol.frm (fun j hj => a5 j (by omega)) (by omega)) (by rw [a6 65 (by omega), a6 66 (by omega), a6 67 (by omega), a6 68 (by omega)]; exact sg) a4 hc'
        rw [eRl] at k4
        refine ⟨r2, m2, ?_, ?_, k3, fun j hj => by rw [k4 j hj, a5 j hj], fun j hj => by rw [k5 j hj, a6 j hj], k6⟩
        · rw [← k1, X11_beginAgain_13, o0, o4, if_f (by omega), if_f (by omega), o1, p1, if_t c, o6, o7, o8, if_t ta, o2, o3, p2, p3, F6, a1, cal_e]
          repeat rw [chk_t (by omega)]
        · rw [← k2, G_over_39, sg1, if_f (by omega), ← s67, if_t ta, s65, s66, a2, cag_e, ← cs]
          rcases a3 with a3 | a3
          · rw [if_t a3]
            repeat rw [chk_t (by omega)]
          · rw [if_f (by omega)]
            repeat rw [chk_t (by omega)]
      · obtain ⟨r2, m2, k1, k2, k3, k4, k5, k6⟩ := ih (i + 1) t t2 r m (by omega) (by omega) (by omega) (by omega) w1 hRl ol sg h hc
        refine ⟨r2, m2, ?_, ?_, k3, k4, k5, k6⟩
        · rw [← k1, X11_beginAgain_13, o0, o4, if_f (by omega), if_f (by omega), o1, p1, if_t c, o6, o7, o8, if_f ta]
          repeat rw [chk_t (by omega)]
        · rw [← k2, G_over_39, sg1, if_f (by omega), ← s67, if_f ta, ← cs]
          repeat rw [chk_t (by omega)]
    · rw [if_f c, Int.add_zero] at cs
      obtain ⟨r2, m2, k1, k2, k3, k4, k5, k6⟩ := ih (i + 1) t t2 r m (by omega) (by omega) (by omega) (by omega) w1 hRl ol sg h hc
      refine ⟨r2, m2, ?_, by rw [← cs]; exact k2, k3, k4, k5, k6⟩
      rw [← k1, X11_beginAgain_13, o0, o4, if_f (by omega), if_f (by omega), o1, p1, if_f c]
      repeat rw [chk_t (by omega)]
/-- the whole of it, behind the new run's making -/
theorem x_again {A : Int} (w0 : 0 ≤ w) (w1 : w < r 16 0) (hA : A = 100000 * (w + 1)) (hR : A < R) (hE : 0 ≤ E) (hE1 : E ≤ E1) (h80 : E1 ≤ 80) (h4 : ∀ j, E ≤ j → j < E1 → hs 0 j ≠ 4) (hb : ∀ i, 0 ≤ i → i < E → hs 0 i = 4 → (0 ≤ hs 1 i ∧ hs 1 i ≤ 100000) ∧ (-100000 ≤ hs 2 i ∧ hs 2 i ≤ 100000)) (hRl : R + 10000 ≤ Rl r w) (ol : Old hs a R E1 m) (sg : Sg (c4 hs) hs E a (r 65) (r 66) (r 67) (r 68 0)) (h : RelC N r m) (hc : can (hk r w) (r 18 (rw9 r w)).toNat = 0) (h10 : m R 10 = r 47 0) : ∃ r' m', X11_beginAgain_13 X11_beginAgain_94 fuel9 1 A R 0 m = some (0, m') ∧ G_over_39 G_over_94 fuel9 w 0 r = some (0, r') ∧ RelC N r' m' ∧ (∀ i, i < Rl r w → m' i = m i) ∧ ∀ j : Nat, j < 18 ∨ 21 < j → r' j = r j := by
  have f9 := fuel9_ge
  have g := h.2.2.rg
  have b10 := g.1
  have mo := c4_mono (hs := hs) (i := 0) (j := E) (by omega) hE
  have mo2 := c4_mono (hs := hs) (i := E) (j := E) hE (Int.le_refl _)
  have c0 : c4 hs 0 = 0 := (c4_cs hs).1
  obtain ⟨r1, m1, a1, a2, a3, a4, a5, a6⟩ := ag_loop (k94 := X11_beginAgain_94) (g94 := G_over_94) w0 hA hR hE hE1 h80 h4 hb E.toNat 0 fuel9 fuel9 r m (by omega) (by omega) (by omega) (by omega) w1 hRl ol sg h hc
  rw [c0] at a2
  rw [a1, a2]
  have e10 : m1 R 10 = r1 47 0 := by rw [a4 R (by omega), h10, a5 47 (by omega)]
  unfold X11_beginAgain_94 G_over_94
  by_cases c : r1 47 0 = 0
  · rw [e10, if_t c, if_t c, chk_t (by omega)]
    exact ⟨r1, m1, rfl, rfl, a3, fun i hi => a4 i (by omega), a5⟩
  · have w1' : w < r1 16 0 := by rw [a5 16 (by omega)]; exact w1
    have eRl : Rl r1 w = Rl r w := by unfold Rl; rw [a5 12 (by omega)]
    have F6 := (a3.1.2.2.2.2.2.1 w w0 w1').1.1.2.2.2.2.2.2.1
    rw [← hA] at F6
    have g1 := a3.2.2.rg
    have sz := g1.2.2 w w0 w1'
    have h18 := sz.2.2.2.2.2 (rw9 r1 w) (by have := sz.1; unfold rw9; omega) (by have := sz.2.1; unfold rw9; omega)
    obtain ⟨v, m2, r2, b1, b2, b3, b4, b5, b6⟩ := a3.cancel w0 w1'
    rw [eRl] at b5
    have w10 : w < 10 := by have := g1.1; omega
    rw [g_cancels w0 w10 sz.1 sz.2.1 h18.1 h18.2] at b2
    have gh := g_happens (k := 6) (x := 0) (y := 0) w0 w10 sz.1 sz.2.1 h18.1
    have gv : G_happens w 6 0 0 r1 = some (v, r2) := by
      rw [gh, ← b2]
      by_cases d : r1 17 (rw9 r1 w) = 20 ∧ r1 18 (rw9 r1 w) < 78
      · rw [if_t d, if_t ⟨a6, d⟩]
      · rw [if_f d, if_f (fun hh => d hh.2)]
    have sw := sz.1
    have eR9 : Rl r1 w = 100000 * (w + 1) + 10000 * r1 12 w := rfl
    refine ⟨r2, m2, ?_, ?_, b4, fun i hi => by rw [b5 i (by omega), a4 i (by omega)], fun j hj => by rw [b6 j hj, a5 j hj]⟩
    · rw [e10, if_f c, F6, b1, cal_e]
      repeat rw [chk_t (by omega)]
    · rw [if_f c, gv, cag_e]
      split <;> rfl
end EX
