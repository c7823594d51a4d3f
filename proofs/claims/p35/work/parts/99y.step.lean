/-! one decision takes effect, on both sides -/
section EM
variable {N N' : Int} {uf : Int → Int} {r r' z r0 : Rst} {m m' m0 : Mem} {w n k x y q s b c a v row I A R o t l u f W E M p nu pa : Int}
theorem Lp.pre (h : Lp N w E r0 m0 k r m) (q : Kq r0 w E k) : (rw9 (ur r 18 (rw9 r w) (E + k)) w = rw9 r w ∧ ∀ w2, Rl (ur r 18 (rw9 r w) (E + k)) w2 = Rl r w2) ∧ (ur r 18 (rw9 r w) (E + k) 18 (rw9 (ur r 18 (rw9 r w) (E + k)) w) = E + k ∧ ur r 18 (rw9 r w) (E + k) 17 (rw9 (ur r 18 (rw9 r w) (E + k)) w) = 20 ∧ 7 ≤ hk (ur r 18 (rw9 r w) (E + k)) w (E + k - 1)) ∧ wr w (r0 72 k) (r0 73 k) (r0 74 k) (ur r 18 (rw9 r w) (E + k)) = ur r 18 (rw9 r w) (E + k + 1) ∧ (∀ (j : Nat) i, j ≠ 18 → ur r 18 (rw9 r w) (E + k) j i = r j i) := by
  obtain ⟨u, h1, h2, h3, h4, h5, h6, h7, h8, h9, g1, g2, g3⟩ := h
  obtain ⟨q1, q2, q3, q4, q5, q6, q7, q8, q9⟩ := q
  have e9 : rw9 (ur r 18 (rw9 r w) (E + k)) w = rw9 r w := by unfold rw9; rw [ur_n (by omega)]
  refine ⟨⟨e9, fun w2 => by unfold Rl; rw [ur_n (by omega)]⟩, ⟨by rw [e9, ur_e rfl rfl], by rw [e9, ur_n (by omega)]; exact h5.2.2.1, ?_⟩, ov_wr ⟨?_, ?_, ?_⟩, fun j i hj => ur_n (by omega)⟩
  · unfold hk
    rw [e9, ur_n (by omega), h6 19 _ (by omega) (by omega) (by omega) (by omega)]
    exact q9
  · rw [h6 19 _ (by omega) (by omega) (by omega) (by omega)]; exact q7.1
  · rw [h6 20 _ (by omega) (by omega) (by omega) (by omega)]; exact q7.2.1
  · rw [h6 21 _ (by omega) (by omega) (by omega) (by omega)]; exact q7.2.2
theorem lp_act (h : Lp N w E r0 m0 k r m) (q : Kq r0 w E k) (w0 : 0 ≤ w) (w1 : w < r0 16 0) (hK : r0 72 k = 8 ∨ r0 72 k = 15) (hN : N ≤ 601) (h29 : r0 29 0 + k + 1 ≤ 100 * N) : ∃ m' r', X11_takeEffect 1 (100000 * (w + 1)) (r0 72 k) (r0 73 k) (r0 74 k) (put9 (Rl r w + 1) (r0 72 k) (r0 73 k) (r0 74 k) m) = some (0, m') ∧ G_putsActivity w (r 74 k) r = some (0, r') ∧ Lp N w E r0 m0 (k + 1) r' m' := by
  obtain ⟨⟨e9, eRl⟩, ⟨p18, p17, pl⟩, pw, po⟩ := h.pre q
  obtain ⟨u, h1, h2, h3, h4, h5, h6, h7, h8, h9, g1, g2, g3⟩ := id h
  have q8 := q.2.2.2.2.2.2.2.1
  have lt := fun w2 (a : 0 ≤ w2) (b : w2 < r 16 0) => h1.2.2.lt a (show w2 < ur r 18 (rw9 r w) (E + k) 16 0 by rw [po _ _ (by omega)]; exact b)
  obtain ⟨m', y1, y2, y3⟩ := h1.act (k := r0 72 k) (x := r0 73 k) (y := r0 74 k) w0 (by rw [po _ _ (by omega)]; omega) p17 (by rw [p18]; omega) hK (by rw [p18]; exact pl) (by rw [po _ _ (by omega)]; omega) hN
  rw [pw, pa_ov] at y2
  rw [eRl] at y1
  have lw := lt w w0 (by omega)
  rw [po 22 _ (by omega)] at lw
  have c9 := h1.2.2.2.2.2.2.2.2.2.2.2.1
  rw [po 29 _ (by omega)] at c9
  obtain ⟨v22, v29, v23, v24, v25, v26, v28⟩ := pa_v (w := w) (q := r0 74 k) (r := r)
  have zp : pA (r0 72 k) = true ∧ pT (r0 72 k) = false ∧ pM (r0 72 k) = false := by
    rcases hK with e | e <;> rw [e] <;> exact ⟨rfl, rfl, rfl⟩
  refine ⟨m', paR w (r0 74 k) r, y1, ?_, h.next (d := 0) q8.2.1 (u' := u) y2 (fun j hj => pa_j (by omega)) (by rw [v29]; omega) (by rw [pa_j (by omega)]; omega) ⟨by rw [pa_j (by omega)], by rw [pa_j (by omega)], by rw [pa_j (by omega)], by rw [pa_j (by omega)], by rw [pa_j (by omega)]⟩ (fun j i a b c d => by rw [pa_j (by omega)]) ⟨by rw [v22, zp.1, if_t rfl], by rw [pa_j (by omega), zp.2.1]; exact (Int.add_zero _).symm, by rw [pa_j (by omega), zp.2.2]; exact (Int.add_zero _).symm⟩ ?_ (fun w2 n a b c d => ?_) y3⟩
  · rw [h2 74 (by omega)]
    exact g_putsAct w0 (by omega) lw.1.1 (by omega) (by omega)
  · rw [pa_j (j := 16) (by omega), pa_j (j := 32) (by omega), pa_j (j := 33) (by omega)]; exact h8
  · rw [pa_j (by omega)] at b
    have l2 := lt w2 a b
    rw [po 22 _ (by omega)] at l2
    by_cases e : w2 = w ∧ n = r 22 w
    · rw [e.1, e.2, v23]
      exact ⟨fun hh => by omega, fun hh => by omega⟩
    · have d' : n < r 22 w2 := by
        by_cases f : w2 = w
        · rw [f] at d ⊢
          rw [v22] at d
          omega
        · rw [pa_o (by omega)] at d
          exact d
      rw [pa_j (j := 1) (by omega), pa_o (by omega), pa_o (by omega), pa_o (by omega)]
      exact h9 w2 n a b c d'
theorem lp_off (h : Lp N w E r0 m0 k r m) (q : Kq r0 w E k) (w0 : 0 ≤ w) (w1 : w < r0 16 0) (hK : r0 72 k = 9) : ∃ m' r', X11_takeEffect 1 (100000 * (w + 1)) (r0 72 k) (r0 73 k) (r0 74 k) (put9 (Rl r w + 1) (r0 72 k) (r0 73 k) (r0 74 k) m) = some (0, m') ∧ G_takesOff w (r 73 k) r = some (0, r') ∧ Lp N w E r0 m0 (k + 1) r' m' := by
  obtain ⟨⟨e9, eRl⟩, ⟨p18, p17, pl⟩, pw, po⟩ := h.pre q
  obtain ⟨u, h1, h2, h3, h4, h5, h6, h7, h8, h9, g1, g2, g3⟩ := id h
  have q8 := q.2.2.2.2.2.2.2.1
  have qx := q.2.1 hK
  have w1' : w < ur r 18 (rw9 r w) (E + k) 16 0 := by rw [po _ _ (by omega)]; omega
  have lw := h1.2.2.lt w0 w1'
  rw [po 22 _ (by omega)] at lw
  have y := h1.put (k := r0 72 k) (x := r0 73 k) (y := r0 74 k) w0 w1' p17 (by rw [p18]; omega) (by omega) (fun _ => by rw [p18]; exact pl)
  rw [pw, eRl] at y
  obtain ⟨mp, hmp⟩ : ∃ mp, mp = put9 (Rl r w + 1) (r0 72 k) (r0 73 k) (r0 74 k) m := ⟨_, rfl⟩
  obtain ⟨pm, pj⟩ := put_m (k := r0 72 k) (x := r0 73 k) (y := r0 74 k) (m := m) (R := Rl r w) (by unfold Rl; have := (h1.2.2.rg.2.2 w w0 w1').1; rw [po 12 _ (by omega)] at this; omega)
  rw [← hmp] at y pm pj ⊢
  have so : ∀ (j : Nat) i, j ≠ 18 → ur r 18 (rw9 r w) (E + k + 1) j i = r j i := fun j i hj => ur_n (by omega)
  have sR : Rl (ur r 18 (rw9 r w) (E + k + 1)) w = Rl r w := by unfold Rl; rw [so _ _ (by omega)]
  obtain ⟨m', r2, z1, z2, z3, z4⟩ := y.off (w := w) (n := r0 73 k) w0 (by rw [so _ _ (by omega)]; omega) qx.1 (by rw [so _ _ (by omega), h7.1]; exact qx.2)
  rw [sR] at z1 z4
  obtain ⟨r', t1, t2⟩ := g_off (r := r) (w := w) (n := r0 73 k) (by omega) (by omega)
  have e := z2.uniq t2.ov
  rw [e] at z3
  have rj : ∀ j : Nat, j ≠ 39 → j ≠ 23 → r' j = r j := t2.1
  have zp : pA (r0 72 k) = false ∧ pT (r0 72 k) = false ∧ pM (r0 72 k) = false := by
    rw [hK]; exact ⟨rfl, rfl, rfl⟩
  have fA := y.1.2.2.2.2.2.1 w w0 (by rw [so _ _ (by omega)]; omega)
  have s1 := (h1.2.2.rg.2.2 w w0 w1').1
  rw [po 12 _ (by omega)] at s1
  have eR9 : Rl r w = 100000 * (w + 1) + 10000 * r 12 w := rfl
  refine ⟨m', r', ?_, by rw [h2 73 (by omega)]; exact t1, h.next (d := 0) q8.2.1 (u' := u) z3 (fun j hj => rj j (by omega) (by omega)) (by rw [rj 29 (by omega) (by omega)]; omega) (by rw [rj 16 (by omega) (by omega)]; omega) ⟨by rw [rj 12 (by omega) (by omega)], by rw [rj 14 (by omega) (by omega)], by rw [rj 17 (by omega) (by omega)], by rw [rj 18 (by omega) (by omega)], by rw [rj 15 (by omega) (by omega)]⟩ (fun j i a b c d => by rw [rj j (by omega) (by omega)]) ⟨by rw [rj 22 (by omega) (by omega), zp.1]; exact (Int.add_zero _).symm, by rw [rj 30 (by omega) (by omega), zp.2.1]; exact (Int.add_zero _).symm, by rw [rj 32 (by omega) (by omega), zp.2.2]; exact (Int.add_zero _).symm⟩ ?_ (fun w2 n a b c d => ?_) ⟨fun i hi => ?_, ?_, ?_⟩⟩
  · have f := fA.1
    have l := fA.2.2.1
    have ac := (fA.2.2.2.1 (r0 73 k) qx.1 (by rw [so _ _ (by omega), h7.1]; exact qx.2)).1
    have ru := fA.2.1 (r 12 w) s1 (by rw [so _ _ (by omega)]; exact Int.le_refl _)
    rw [← eR9] at ru
    have f6 := f.1.2.2.2.2.2.2.1
    have l3 := l.1
    rw [sR] at f6 l3 ac
    rw [so 22 _ (by omega)] at l3
    unfold X11_takeEffect X11_takeEffect_0
    rw [hK, if_f (show ¬ (9 : Int) = 8 by decide), if_t (show (9 : Int) = 9 from rfl), f6, l3, x_isWithin, cal_e, if_t (show 0 ≤ r0 73 k ∧ r0 73 k ≤ r 22 w - 1 by omega), if_f (show ¬ (1 : Int) = 0 by decide), ru.1.2.1, ac, z1, cal_e]
    repeat rw [chk_t (by omega)]
  · rw [rj 16 (by omega) (by omega), rj 32 (by omega) (by omega), rj 33 (by omega) (by omega)]; exact h8
  · rw [rj 16 (by omega) (by omega)] at b
    rw [rj 22 (by omega) (by omega)] at d
    rw [rj 1 (by omega) (by omega), rj 26 (by omega) (by omega), rj 27 (by omega) (by omega), t2.2.1]
    by_cases f : 80 * w2 + n = 80 * w + r0 73 k
    · rw [if_t f]
      exact ⟨fun hh => by omega, fun hh => by omega⟩
    · rw [if_f f]
      exact h9 w2 n a b c d
  · rw [z4 i (by omega) (by omega), pm i (by omega)]
  · rw [z4 _ (by omega) (by omega), pm _ (by omega)]; omega
  · rw [z4 _ (by omega) (by omega), pm _ (by omega)]; omega
theorem lp_timer (h : Lp N w E r0 m0 k r m) (q : Kq r0 w E k) (w0 : 0 ≤ w) (w1 : w < r0 16 0) (hK : r0 72 k = 10) (hN : N ≤ 601) : ∃ m' r', X11_takeEffect 1 (100000 * (w + 1)) (r0 72 k) (r0 73 k) (r0 74 k) (put9 (Rl r w + 1) (r0 72 k) (r0 73 k) (r0 74 k) m) = some (0, m') ∧ G_setsTimer_ w (r 73 k) 1 r = some (0, r') ∧ Lp N w E r0 m0 (k + 1) r' m' := by
  obtain ⟨⟨e9, eRl⟩, ⟨p18, p17, pl⟩, pw, po⟩ := h.pre q
  obtain ⟨u, h1, h2, h3, h4, h5, h6, h7, h8, h9, g1, g2, g3⟩ := id h
  have q8 := q.2.2.2.2.2.2.2.1
  have qx := q.2.2.2.2.2.1 hK
  have w1' : w < ur r 18 (rw9 r w) (E + k) 16 0 := by rw [po _ _ (by omega)]; omega
  have lw := h1.2.2.lt w0 w1'
  rw [po 30 _ (by omega)] at lw
  have c9 := h1.2.2.2.2.2.2.2.2.2.2.1
  rw [po 1 _ (by omega)] at c9
  rw [hK] at pw
  obtain ⟨m', y1, y2, y3⟩ := h1.timer (x := r0 73 k) (y := r0 74 k) w0 w1' p17 (by rw [p18]; omega) (by rw [p18]; exact pl) qx hN
  rw [pw, tm_ov] at y2
  rw [eRl] at y1
  obtain ⟨v30, v31⟩ := tm_v (w := w) (x := r0 73 k) (r := r)
  have zp : pA (r0 72 k) = false ∧ pT (r0 72 k) = true ∧ pM (r0 72 k) = false := by
    rw [hK]; exact ⟨rfl, rfl, rfl⟩
  refine ⟨m', tmR w (r0 73 k) r, by rw [hK]; exact y1, ?_, h.next (d := 0) q8.2.1 (u' := u) y2 (fun j hj => tm_j (by omega)) (by rw [tm_j (by omega)]; omega) (by rw [tm_j (by omega)]; omega) ⟨by rw [tm_j (by omega)], by rw [tm_j (by omega)], by rw [tm_j (by omega)], by rw [tm_j (by omega)], by rw [tm_j (by omega)]⟩ (fun j i a b c d => by rw [tm_j (by omega)]) ⟨by rw [tm_j (by omega), zp.1]; exact (Int.add_zero _).symm, by rw [v30, zp.2.1, if_t rfl], by rw [tm_j (by omega), zp.2.2]; exact (Int.add_zero _).symm⟩ ?_ (h9.fr fun j hj => tm_j (by omega)) y3⟩
  · have lt := lw.2.1
    unfold G_setsTimer_ G_setsTimer__0 tmR
    rw [h2 73 (by omega), if_f (by decide)]
    repeat rw [chk_t (by omega)]
    rw [stg_e, ur_n (a := 30) (by omega)]
    repeat rw [chk_t (by omega)]
    rw [stg_e]
  · rw [tm_j (j := 16) (by omega), tm_j (j := 32) (by omega), tm_j (j := 33) (by omega)]; exact h8
theorem lp_toff (h : Lp N w E r0 m0 k r m) (q : Kq r0 w E k) (w0 : 0 ≤ w) (w1 : w < r0 16 0) (hK : r0 72 k = 11) : ∃ m' r', X11_takeEffect 1 (100000 * (w + 1)) (r0 72 k) (r0 73 k) (r0 74 k) (put9 (Rl r w + 1) (r0 72 k) (r0 73 k) (r0 74 k) m) = some (0, m') ∧ G_setsTimer_ w (r 73 k) 0 r = some (0, r') ∧ Lp N w E r0 m0 (k + 1) r' m' := by
  obtain ⟨⟨e9, eRl⟩, ⟨p18, p17, pl⟩, pw, po⟩ := h.pre q
  obtain ⟨u, h1, h2, h3, h4, h5, h6, h7, h8, h9, g1, g2, g3⟩ := id h
  have q8 := q.2.2.2.2.2.2.2.1
  have qx := q.2.2.1 hK
  have w1' : w < ur r 18 (rw9 r w) (E + k) 16 0 := by rw [po _ _ (by omega)]; omega
  have lw := h1.2.2.lt w0 w1'
  rw [po 30 _ (by omega)] at lw
  have y := h1.put (k := r0 72 k) (x := r0 73 k) (y := r0 74 k) w0 w1' p17 (by rw [p18]; omega) (by omega) (fun _ => by rw [p18]; exact pl)
  rw [pw, eRl] at y
  obtain ⟨mp, hmp⟩ : ∃ mp, mp = put9 (Rl r w + 1) (r0 72 k) (r0 73 k) (r0 74 k) m := ⟨_, rfl⟩
  have s1 := (h1.2.2.rg.2.2 w w0 w1').1
  rw [po 12 _ (by omega)] at s1
  have eR9 : Rl r w = 100000 * (w + 1) + 10000 * r 12 w := rfl
  obtain ⟨pm, pj⟩ := put_m (k := r0 72 k) (x := r0 73 k) (y := r0 74 k) (m := m) (R := Rl r w) (by omega)
  rw [← hmp] at y pm pj ⊢
  have so : ∀ (j : Nat) i, j ≠ 18 → ur r 18 (rw9 r w) (E + k + 1) j i = r j i := fun j i hj => ur_n (by omega)
  have sR : Rl (ur r 18 (rw9 r w) (E + k + 1)) w = Rl r w := by unfold Rl; rw [so _ _ (by omega)]
  obtain ⟨z1, z2⟩ := y.toff (w := w) (n := r0 73 k) w0 (by rw [so _ _ (by omega)]; omega) qx.1 (by rw [so _ _ (by omega), h7.2.1]; exact qx.2)
  rw [sR] at z1 z2
  rw [ur_comm (j := 18) (a := 31) (by omega)] at z2
  have fA := y.1.2.2.2.2.2.1 w w0 (by rw [so _ _ (by omega)]; omega)
  have f6 := fA.1.1.2.2.2.2.2.2.1
  rw [sR] at f6
  have zp : pA (r0 72 k) = false ∧ pT (r0 72 k) = false ∧ pM (r0 72 k) = false := by
    rw [hK]; exact ⟨rfl, rfl, rfl⟩
  have rj : ∀ j : Nat, j ≠ 31 → ur r 31 (80 * w + r0 73 k) 0 j = r j := fun j hj => ur_ne hj
  refine ⟨_, ur r 31 (80 * w + r0 73 k) 0, ?_, ?_, h.next (d := 0) q8.2.1 (u' := u) z2 (fun j hj => rj j (by omega)) (by rw [rj 29 (by omega)]; omega) (by rw [rj 16 (by omega)]; omega) ⟨by rw [rj 12 (by omega)], by rw [rj 14 (by omega)], by rw [rj 17 (by omega)], by rw [rj 18 (by omega)], by rw [rj 15 (by omega)]⟩ (fun j i a b c d => by rw [rj j (by omega)]) ⟨by rw [rj 22 (by omega), zp.1]; exact (Int.add_zero _).symm, by rw [rj 30 (by omega), zp.2.1]; exact (Int.add_zero _).symm, by rw [rj 32 (by omega), zp.2.2]; exact (Int.add_zero _).symm⟩ ?_ (h9.fr fun j hj => rj j (by omega)) ⟨fun i hi => ?_, ?_, ?_⟩⟩
  · unfold X11_takeEffect X11_takeEffect_0
    rw [hK, if_f (show ¬ (11 : Int) = 8 by decide), if_f (show ¬ (11 : Int) = 9 by decide), if_f (show ¬ (11 : Int) = 10 by decide), if_t (show (11 : Int) = 11 from rfl), f6, z1, cal_e]
    repeat rw [chk_t (by omega)]
  · unfold G_setsTimer_ G_setsTimer__0
    rw [h2 73 (by omega), if_t rfl]
    repeat rw [chk_t (by omega)]
    rw [stg_e]
  · rw [rj 16 (by omega), rj 32 (by omega), rj 33 (by omega)]; exact h8
  · rw [upd9_row (by omega), pm i (by omega)]
  · rw [upd9_n (by omega), pm _ (by omega)]; omega
  · rw [upd9_n (by omega), pm _ (by omega)]; omega
theorem lp_tell (h : Lp N w E r0 m0 k r m) (q : Kq r0 w E k) (w0 : 0 ≤ w) (w1 : w < r0 16 0) (hK : r0 72 k = 13 ∨ r0 72 k = 14) : ∃ m', X11_takeEffect 1 (100000 * (w + 1)) (r0 72 k) (r0 73 k) (r0 74 k) (put9 (Rl r w + 1) (r0 72 k) (r0 73 k) (r0 74 k) m) = some (0, m') ∧ Lp N w E r0 m0 (k + 1) (if r0 72 k = 13 then r else ur r 13 (2 * w + r0 73 k) (r0 74 k)) m' := by
  obtain ⟨⟨e9, eRl⟩, ⟨p18, p17, pl⟩, pw, po⟩ := h.pre q
  obtain ⟨u, h1, h2, h3, h4, h5, h6, h7, h8, h9, g1, g2, g3⟩ := id h
  have q8 := q.2.2.2.2.2.2.2.1
  have w1' : w < ur r 18 (rw9 r w) (E + k) 16 0 := by rw [po _ _ (by omega)]; omega
  have y := h1.put (k := r0 72 k) (x := r0 73 k) (y := r0 74 k) w0 w1' p17 (by rw [p18]; omega) (by omega) (fun _ => by rw [p18]; exact pl)
  rw [pw, eRl] at y
  obtain ⟨mp, hmp⟩ : ∃ mp, mp = put9 (Rl r w + 1) (r0 72 k) (r0 73 k) (r0 74 k) m := ⟨_, rfl⟩
  have s1 := (h1.2.2.rg.2.2 w w0 w1').1
  rw [po 12 _ (by omega)] at s1
  have eR9 : Rl r w = 100000 * (w + 1) + 10000 * r 12 w := rfl
  obtain ⟨pm, pj⟩ := put_m (k := r0 72 k) (x := r0 73 k) (y := r0 74 k) (m := m) (R := Rl r w) (by omega)
  rw [← hmp] at y pm pj ⊢
  have so : ∀ (j : Nat) i, j ≠ 18 → ur r 18 (rw9 r w) (E + k + 1) j i = r j i := fun j i hj => ur_n (by omega)
  have zp : pA (r0 72 k) = false ∧ pT (r0 72 k) = false ∧ pM (r0 72 k) = false := by
    rcases hK with e | e <;> rw [e] <;> exact ⟨rfl, rfl, rfl⟩
  rcases hK with e | e
  · rw [if_t e]
    refine ⟨mp, ?_, h.next (d := 0) q8.2.1 (u' := u) y (fun j hj => rfl) (by omega) (by omega) ⟨rfl, rfl, rfl, rfl, rfl⟩ (fun j i a b c d => rfl) ⟨by rw [zp.1]; exact (Int.add_zero _).symm, by rw [zp.2.1]; exact (Int.add_zero _).symm, by rw [zp.2.2]; exact (Int.add_zero _).symm⟩ h8 h9 ⟨fun i hi => pm i (by omega), by rw [pm _ (by omega)]; omega, by rw [pm _ (by omega)]; omega⟩⟩
    unfold X11_takeEffect X11_takeEffect_0
    rw [e, if_f (show ¬ (13 : Int) = 8 by decide), if_f (show ¬ (13 : Int) = 9 by decide), if_f (show ¬ (13 : Int) = 10 by decide), if_f (show ¬ (13 : Int) = 11 by decide), if_f (show ¬ (13 : Int) = 12 by decide), if_t (show (13 : Int) = 13 from rfl)]
    repeat rw [chk_t (by omega)]
  · rw [if_f (by omega)]
    have qx := q.2.2.2.1 e
    obtain ⟨z1, z2⟩ := y.tell (w := w) (k := r0 73 k) (v := r0 74 k) w0 (by rw [so _ _ (by omega)]; omega) qx.1 (by omega)
    rw [ur_comm (j := 18) (a := 13) (by omega)] at z2
    have rj : ∀ j : Nat, j ≠ 13 → ur r 13 (2 * w + r0 73 k) (r0 74 k) j = r j := fun j hj => ur_ne hj
    refine ⟨_, ?_, h.next (d := 0) q8.2.1 (u' := u) z2 (fun j hj => rj j (by omega)) (by rw [rj 29 (by omega)]; omega) (by rw [rj 16 (by omega)]; omega) ⟨by rw [rj 12 (by omega)], by rw [rj 14 (by omega)], by rw [rj 17 (by omega)], by rw [rj 18 (by omega)], by rw [rj 15 (by omega)]⟩ (fun j i a b c d => by rw [rj j (by omega)]) ⟨by rw [rj 22 (by omega), zp.1]; exact (Int.add_zero _).symm, by rw [rj 30 (by omega), zp.2.1]; exact (Int.add_zero _).symm, by rw [rj 32 (by omega), zp.2.2]; exact (Int.add_zero _).symm⟩ ?_ (h9.fr fun j hj => rj j (by omega)) ⟨fun i hi => ?_, ?_, ?_⟩⟩
    · unfold X11_takeEffect X11_takeEffect_0
      rw [e, if_f (show ¬ (14 : Int) = 8 by decide), if_f (show ¬ (14 : Int) = 9 by decide), if_f (show ¬ (14 : Int) = 10 by decide), if_f (show ¬ (14 : Int) = 11 by decide), if_f (show ¬ (14 : Int) = 12 by decide), if_f (show ¬ (14 : Int) = 13 by decide), if_t (show (14 : Int) = 14 from rfl), z1, cal_e]
      repeat rw [chk_t (by omega)]
    · rw [rj 16 (by omega), rj 32 (by omega), rj 33 (by omega)]; exact h8
    · rw [upd9_row (by omega), pm i (by omega)]
    · rw [upd9_n (by omega), pm _ (by omega)]; omega
    · rw [upd9_n (by omega), pm _ (by omega)]; omega
end EM
