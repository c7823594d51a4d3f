/-! decide: its end, when the run isn't over and when it is -/
section FB9
variable {N N' : Int} {uf : Int → Int} {r r' z r0 r1 r2 ra : Rst} {m m' m0 m1 m2 : Mem} {w n k x y q s b c v row I o t l u f W E M p nu pa L R F E1 : Int} {a : Int → Int} {hs : Rst}
theorem dec_go (hL : Lp N w E r0 m0 n r m) (w0 : 0 ≤ w) (w1 : w < r0 16 0) (h32 : 0 ≤ r0 32 w) (h42 : r0 42 0 ≠ 2) (h76 : r0 76 0 = n) (hE : 1 ≤ E ∧ 0 ≤ n ∧ E + n ≤ 80) (hl : r0 19 (80 * rw9 r0 w + (E + n - 1)) ≠ 16) (h18 : r0 18 (rw9 r0 w) = E + n) (dq : Dq r0 m0 n) (h5e : ∀ i, 0 ≤ i → i < E + n → r0 19 (80 * rw9 r0 w + i) = 5 → r0 20 (80 * rw9 r0 w + i) < r0 32 w) : ∃ r' m', (∀ t : Nat, X11_putDown_97 (t + 1) 1 (100000 * (w + 1)) (Rl r0 w) 101 n m = some (0, m)) ∧ X11_closeIfOver 1 (100000 * (w + 1)) m = some (0, m) ∧ X7_tellUnmade (Rl r0 w) m = some (0, m') ∧ (∀ t : Nat, G_does_9 G_does_165 (t + 1) w (r0 32 w) n r = some (0, r')) ∧ RelC N r' m' ∧ GT r' ∧ (∀ i, i < 1000 → m' i = m i) ∧ ∀ j : Nat, j < 18 ∨ 21 < j → r' j = r j := by
  have f9 := fuel9_ge
  obtain ⟨u, h1, h2, h3, h4, h5, h6, h7, h8, h9, g1, g2, g3⟩ := id hL
  have idn : ur r 18 (rw9 r w) (E + n) = r := ur_same (by rw [h5.2.2.2.1, h18])
  rw [idn] at h1
  have e9 := hL.rl
  have w1' : w < r 16 0 := by omega
  have g := h1.2.2.rg
  have b10 := g.1
  have sz := g.2.2 w w0 w1'
  have s1 := sz.1
  have s2 := sz.2.1
  have lt := h1.2.2.lt w0 w1'
  have eR9 : Rl r w = 100000 * (w + 1) + 10000 * r 12 w := rfl
  have ew : rw9 r w = 9 * w + r 12 w - 1 := rfl
  have fA := h1.1.2.2.2.2.2.1 w w0 w1'
  have f6 := fA.1.1.2.2.2.2.2.2.1
  have ru := fA.2.1 (r 12 w) s1 (Int.le_refl _)
  rw [← eR9, ← ew] at ru
  obtain ⟨⟨u0, u1, u2, u7, v0, v1, v2, v3⟩, ue⟩ := ru
  have r18 : r 18 (rw9 r w) = E + n := by rw [h5.2.2.2.1, h18]
  rw [r18] at v3 ue
  have l5 := fA.2.2.1.2.2.1
  have u6 : m (Rl r w) 6 = (if w = w then u else 0) := (h1.2.1 w w0 w1').2
  rw [if_t rfl] at u6
  have h42r : r 42 0 ≠ 2 := by rw [h2 42 (by omega)]; exact h42
  have h76r : r 76 0 = n := by rw [h2 76 (by omega)]; exact h76
  have c32 := cntP_0 (p := pM) (f := r0 72) (n := n.toNat)
  obtain ⟨t2, ht2⟩ : ∃ t2 : Nat, fuel9 = t2 + (r 32 w - u - r0 32 w).toNat ∧ 81 ≤ t2 := ⟨fuel9 - (r 32 w - u - r0 32 w).toNat, by omega, by omega⟩
  obtain ⟨r', m', z1, z2, z3, z4, z5⟩ := unm_loop (N := N) (uf := fun w2 => if w2 = w then u else 0) w0 u.toNat (r 32 w - u) fuel9 t2 r m (by omega) (by omega) (by omega) (by omega) w1' h1 (fun i i0 i1 => (h8.2.2.2 i (by omega) i1).2 i0) (fun i i0 i1 ik => by
    rw [r18] at i1
    unfold hk at ik
    rw [h6 19 i (by omega) (by omega) i0 (by omega)] at ik
    rw [h6 20 i (by omega) (by omega) i0 (by omega)]
    have := h5e i i0 i1 ik
    omega)
  have sk := unm_skip (r := r) w0 (by omega) (by omega) (r 32 w - u - r0 32 w).toNat (r0 32 w) (r 32 w - u) t2 (by omega) h32 (by omega) (fun i i0 i1 hh => by
    have := (h8.2.2.2 i i0 (by omega)).1 hh
    omega)
  have w1'' : w < r' 16 0 := by rw [z5 16 (by omega)]; exact w1'
  have eRl' : Rl r' w = Rl r w := by unfold Rl; rw [z5 12 (by omega)]
  have tl := z3.told0 w0 w1''
  rw [eRl'] at tl
  refine ⟨r', upd9 m' (Rl r w) 6 0, fun t => ?_, ?_, ?_, fun t => ?_, tl, h9.fr fun j hj => z5 j (by omega), fun i hi => by rw [upd9_row (by omega), z4 i hi], z5⟩
  · have d3 := (hL.dq dq).2.2.2.1
    rw [X11_putDown_97, d3, if_t (Int.le_refl _), chk_t (by omega)]
  · unfold X11_closeIfOver X11_closeIfOver_0
    have uk := (ue (E + n - 1) (by omega) (by omega)).1
    rw [h6 19 _ (by omega) (by omega) (by omega) (by omega)] at uk
    rw [f6, u0, v3, x_isWithin, cal_e, if_t (show 0 ≤ E + n - 1 ∧ E + n - 1 ≤ 79 by omega), if_f (show ¬ (1 : Int) = 0 by decide), v0, uk, if_f hl]
    repeat rw [chk_t (by omega)]
  · rw [← e9.1]
    unfold X7_tellUnmade X7_tellUnmade_0
    rw [l5, u6, z1]
    repeat rw [chk_t (by omega)]
  · rw [G_does_9, h76r, if_t (Int.le_refl _)]
    unfold G_does_165
    rw [if_f h42r, ht2.1, sk, z2]
theorem dec_over (hL : Lp N w E r0 m0 L r m) (w0 : 0 ≤ w) (w1 : w < r0 16 0) (h32 : 0 ≤ r0 32 w) (h42 : r0 42 0 = 2) (h76 : r0 76 0 = L + 1) (hE : 1 ≤ E ∧ 0 ≤ L ∧ E + L < 80) (h16 : r0 72 L = 16 ∧ r0 73 L = r0 49 0 ∧ r0 74 L = r0 50 0) (hk16 : r0 19 (80 * rw9 r0 w + (E + L)) = 16 ∧ r0 20 (80 * rw9 r0 w + (E + L)) = r0 49 0 ∧ r0 21 (80 * rw9 r0 w + (E + L)) = r0 50 0) (hl : 7 ≤ r0 19 (80 * rw9 r0 w + (E + L - 1))) (h18 : r0 18 (rw9 r0 w) = E + L + 1) (hs20 : r0 49 0 ≠ 20) (h14 : r0 49 0 = 14 → r0 12 w ≤ 8) (bx : -100000 ≤ r0 50 0 ∧ r0 50 0 ≤ 100000) (dq : Dq r0 m0 (L + 1)) (sg : Sg (c4 hs) hs (E - 1) a (r0 65) (r0 66) (r0 67) (r0 68 0)) (hag : ∀ i, 0 ≤ i → i < E - 1 → r0 19 (80 * rw9 r0 w + i) = hs 0 i ∧ r0 20 (80 * rw9 r0 w + i) = hs 1 i ∧ r0 21 (80 * rw9 r0 w + i) = hs 2 i) (h7 : ∀ j, E - 1 ≤ j → j < E + L + 1 → 7 ≤ r0 19 (80 * rw9 r0 w + j)) (hK : can (hs 0) (E - 1).toNat = r0 47 0) (m14 : m0 100 1 = 110) (ma : ∀ i, m0 110 i = a i) : ∃ mp m3 m4 r', (∀ t : Nat, X11_putDown_97 (t + 2) 1 (100000 * (w + 1)) (Rl r0 w) 101 L m = some (0, mp)) ∧ X11_closeIfOver 1 (100000 * (w + 1)) mp = some (0, m3) ∧ X7_tellUnmade (Rl r0 w) m3 = some (0, m4) ∧ (∀ (t : Nat) (l2 : Int), G_does_9 G_does_165 (t + 2) w l2 L (ur r 15 w (-1)) = some (0, r')) ∧ RelC N r' m4 ∧ GT r' ∧ (∀ i, (10 ≤ i ∧ i < 1000) ∨ i = -3 ∨ i = -4 → m4 i = m i) ∧ (m4 (-2) 0 ≤ m (-2) 0 + 7 ∧ m4 (-2) 1 ≤ m (-2) 1 + 415) ∧ ∀ j : Nat, j = 0 ∨ j = 16 ∨ (40 ≤ j ∧ j < 81) → r' j = r j := by
  have f9 := fuel9_ge
  obtain ⟨u0', r2, m2, y1, y2, cl, hu0, hu1⟩ := over_a (s := r0 49 0) (x := r0 50 0) hL w0 w1 hE hk16 hl h18 hs20
  obtain ⟨u, h1, h2, h3, h4, h5, h6, h7', h8, h9, g1, g2, g3⟩ := id hL
  have eRl0 := hL.rl
  have po : ∀ (j : Nat) i, j ≠ 18 → ur r 18 (rw9 r w) (E + L) j i = r j i := fun j i hj => ur_n (by omega)
  have eRv : ∀ w2, Rl (ur r 18 (rw9 r w) (E + L)) w2 = Rl r w2 := fun w2 => by unfold Rl; rw [ur_n (by omega)]
  have w1' : w < ur r 18 (rw9 r w) (E + L) 16 0 := by rw [po _ _ (by omega)]; omega
  have e9v : rw9 (ur r 18 (rw9 r w) (E + L)) w = rw9 r w := by unfold rw9; rw [ur_n (by omega)]
  have gv := h1.2.2.rg
  have sv := gv.2.2 w w0 w1'
  have s1 := sv.1
  have s2 := sv.2.1
  rw [po 12 _ (by omega)] at s1 s2
  have ltv := h1.2.2.lt w0 w1'
  rw [po 32 _ (by omega)] at ltv
  have eR9 : Rl r w = 100000 * (w + 1) + 10000 * r 12 w := rfl
  have b10 := gv.1
  obtain ⟨pm, pj⟩ := put_m (k := 16) (x := r0 49 0) (y := r0 50 0) (m := m) (R := Rl r w) (by omega)
  have down : ∀ t : Nat, X11_putDown_97 (t + 2) 1 (100000 * (w + 1)) (Rl r0 w) 101 L m = some (0, put9 (Rl r w + 1) 16 (r0 49 0) (r0 50 0) m) := fun t => by
    have ef : X11_takeEffect 1 (100000 * (w + 1)) (r0 72 L) (r0 73 L) (r0 74 L) (put9 (Rl (ur r 18 (rw9 r w) (E + L)) w + 1) (r0 72 L) (r0 73 L) (r0 74 L) m) = some (0, put9 (Rl r w + 1) 16 (r0 49 0) (r0 50 0) m) := by
      rw [h16.1, h16.2.1, h16.2.2, eRv]
      unfold X11_takeEffect X11_takeEffect_0
      rw [if_f (show ¬ (16 : Int) = 8 by decide), if_f (show ¬ (16 : Int) = 9 by decide), if_f (show ¬ (16 : Int) = 10 by decide), if_f (show ¬ (16 : Int) = 11 by decide), if_f (show ¬ (16 : Int) = 12 by decide), if_f (show ¬ (16 : Int) = 13 by decide), if_f (show ¬ (16 : Int) = 14 by decide), if_f (show ¬ (16 : Int) = 15 by decide), chk_t (by omega)]
    have e := x_down1 (t := ((t + 1 : Nat) : Int)) h1.1 gv w0 w1' (by rw [e9v, ur_e rfl rfl]; omega) hE.2.1 (show L < L + 1 by omega) (by omega) (hL.dq dq) ef
    rw [eRv, eRl0.1, show ((t + 1 : Nat) : Int).toNat = t + 1 by omega] at e
    rw [show t + 2 = (t + 1) + 1 from rfl, e]
    have d3 := (hL.dq dq).2.2.2.1
    rw [← eRl0.1]
    rw [X11_putDown_97, pm 101 (by omega), d3, if_t (Int.le_refl _), chk_t (by omega)]
  have ref : ∀ (t : Nat) (l2 : Int) (rr : Rst), goTail w (r0 49 0) (r0 50 0) r2 = some (0, rr) → G_does_9 G_does_165 (t + 2) w l2 L (ur r 15 w (-1)) = some (0, rr) := fun t l2 rr hrr => by
    have aj : ∀ (j : Nat) i, 40 ≤ j → ur r 15 w (-1) j i = r0 j i := fun j i hj => by rw [ur_n (by omega), h2 j (by omega)]
    rw [G_does_9, aj 76 0 (by omega), h76, if_f (by omega), aj 72 L (by omega), h16.1, if_f (show ¬ (16 : Int) = 8 by decide), if_f (show ¬ (16 : Int) = 9 by decide), if_f (show ¬ (16 : Int) = 10 by decide), if_f (show ¬ (16 : Int) = 11 by decide), if_f (show ¬ (16 : Int) = 12 by decide), if_f (show ¬ (16 : Int) = 13 by decide), if_f (show ¬ (16 : Int) = 14 by decide), if_f (show ¬ (16 : Int) = 15 by decide), G_does_9, aj 76 0 (by omega), h76, if_t (Int.le_refl _)]
    unfold G_does_165
    rw [aj 42 0 (by omega), if_t h42, aj 49 0 (by omega), aj 50 0 (by omega), y2, hrr, cag_e]
    repeat rw [chk_t (by omega)]
  obtain ⟨c1, c2, c3, c4', c5, c6, c7, c8⟩ := id cl
  have e12 : r2 12 = r 12 := c3 12 (by omega)
  have eRl2 : Rl r2 w = Rl r w := by unfold Rl; rw [e12]
  have r29 : rw9 r2 w = rw9 r w := by unfold rw9; rw [e12]
  have w2' : w < r2 16 0 := by rw [c3 16 (by omega)]; omega
  have fA := c1.1.2.2.2.2.2.1 w w0 w2'
  have l5 := fA.2.2.1.2.2.1
  rw [eRl2, c3 32 (by omega)] at l5
  have ru := fA.2.1 (r2 12 w) (by rw [e12]; exact s1) (Int.le_refl _)
  rw [show 100000 * (w + 1) + 10000 * r2 12 w = Rl r w from eRl2, show 9 * w + r2 12 w - 1 = rw9 r w from r29] at ru
  have u7 : m2 (Rl r w) 7 = r0 49 0 := by rw [ru.1.2.2.2.1, c6]
  have u6 : m2 (Rl r w) 6 = (if w = w then u0' else 0) := by
    have := (c1.2.1 w w0 w2').2
    rw [eRl2] at this
    exact this
  rw [if_t rfl] at u6
  have un : ∀ m3 : Mem, m3 (Rl r w) = m2 (Rl r w) → X7_tellUnmade (Rl r w) m3 = some (0, upd9 m3 (Rl r w) 6 0) := fun m3 e => by
    unfold X7_tellUnmade X7_tellUnmade_0
    rw [e, l5, u6, unm_none (m := m3) (R := Rl r w) (by omega) (by rw [e, u7]; exact hs20) (by rw [e, l5]; omega) u0'.toNat (r 32 w - u0') fuel9 (by rw [e, l5]; omega) (by omega) (by omega)]
    repeat rw [chk_t (by omega)]
  by_cases s14 : r0 49 0 = 14
  · rw [s14] at cl
    have hist : ∀ (j : Nat) i, 19 ≤ j → j ≤ 21 → 0 ≤ i → i < 80 → r j (80 * rw9 r w + i) = r0 j (80 * rw9 r0 w + i) := h6
    have r18 : r 18 (rw9 r w) = E + L + 1 := by rw [h5.2.2.2.1, h18]
    obtain ⟨r3, m3, k1, k2, k3, k4, k5, k6, k7, k8⟩ := x_goagain (x := r0 50 0) (E := E - 1) (hs := hs) (a := a) cl w0 w2' (by rw [h5.1]; exact h14 s14) bx (by omega) (fun j j0 j1 => by
      rw [r18] at j1
      rw [hist 19 j (by omega) (by omega) (by omega) (by omega)]
      have := h7 j j0 j1
      omega) (by rw [h2 65 (by omega), h2 66 (by omega), h2 67 (by omega), h2 68 (by omega)]; exact sg) (fun i i0 i1 => by
      rw [hist 19 i (by omega) (by omega) i0 (by omega), hist 20 i (by omega) (by omega) i0 (by omega), hist 21 i (by omega) (by omega) i0 (by omega)]
      exact hag i i0 i1) (by
      rw [h2 47 (by omega), ← hK, r18, show (E + L + 1).toNat = (E - 1).toNat + (L + 2).toNat by omega]
      rw [can_n (fun i i0 i1 => by
        show r 19 (80 * rw9 r w + i) ≠ 6
        rw [hist 19 i (by omega) (by omega) (by omega) (by omega)]
        have := h7 i (by omega) (by omega)
        omega)]
      exact can_congr fun i i0 i1 => by
        show r 19 (80 * rw9 r w + i) = hs 0 i
        rw [hist 19 i (by omega) (by omega) i0 (by omega)]
        exact (hag i i0 (by omega)).1) (by rw [c2 100 (by omega), g1 100 (by omega)]; exact m14) (fun i => by rw [c2 110 (by omega), g1 110 (by omega)]; exact ma i)
    have t6 := k3.r6 (w := w) (k := r 12 w) (v := 0) w0 (by rw [k8 16 (by omega)]; exact w2') s1 (by rw [k7]; omega)
    rw [show 100000 * (w + 1) + 10000 * r 12 w = Rl r w from rfl] at t6
    refine ⟨_, m3, upd9 m3 (Rl r w) 6 0, r3, down, by rw [y1, s14]; exact k1, by rw [← eRl0.1]; exact un m3 (k5 _ (by omega)), fun t l2 => ref t l2 r3 (by rw [s14]; exact k2), t6, k4, fun i hi => by rw [upd9_row (by omega), k5 i (by omega), c2 i (by omega)], ⟨by rw [upd9_n (by omega), k6.1, c2 (-2) (by omega)]; omega, by rw [upd9_n (by omega), k6.2, c2 (-2) (by omega)]; omega⟩, fun j hj => by rw [k8 j (by omega), c3 j (by omega)]⟩
  · obtain ⟨r3, m3, k1, k2, k3, k4, k5⟩ := x_parent (x := r0 50 0) cl w0 w2' hs20 s14 bx
    have eRl3 : Rl r3 w = Rl r w := by unfold Rl; rw [k5 12 (by omega), e12]
    have tl := k3.told0 w0 (by rw [k5 16 (by omega)]; exact w2')
    rw [eRl3] at tl
    refine ⟨_, m3, upd9 m3 (Rl r w) 6 0, r3, down, by rw [y1, k1], by rw [← eRl0.1]; exact un m3 (k4 _ (by omega)), fun t l2 => ref t l2 r3 k2, tl, c4'.fr fun j hj => k5 j (by omega), fun i hi => by rw [upd9_row (by omega), k4 i (by omega), c2 i (by omega)], ⟨by rw [upd9_n (by omega), k4 _ (by omega), c2 (-2) (by omega)]; omega, by rw [upd9_n (by omega), k4 _ (by omega), c2 (-2) (by omega)]; omega⟩, fun j hj => by rw [k5 j (by omega), c3 j (by omega)]⟩
end FB9
