/-! one decision takes effect, on both sides: a child -/
section EN
variable {N N' : Int} {uf : Int → Int} {r r' z r0 : Rst} {m m' m0 : Mem} {w n k x y q s b c a v row I A R o t l u f W E M p nu pa : Int}
theorem lp_child0 (h : Lp N w E r0 m0 k r m) (q : Kq r0 w E k) (w0 : 0 ≤ w) (w1 : w < r0 16 0) (hK : r0 72 k = 12) (k1 : k < 5200) (h16 : r 16 0 = 10) (h32 : 0 ≤ r0 32 w) : ∃ m' r', X11_takeEffect 1 (100000 * (w + 1)) (r0 72 k) (r0 73 k) (r0 74 k) (put9 (Rl r w + 1) (r0 72 k) (r0 73 k) (r0 74 k) m) = some (0, m') ∧ G_makesChild w k r = some (0, r') ∧ Lp N w E r0 m0 (k + 1) r' m' := by
  obtain ⟨⟨e9, eRl⟩, ⟨p18, p17, pl⟩, pw, po⟩ := h.pre q
  obtain ⟨u, h1, h2, h3, h4, h5, h6, h7, h8, h9, g1, g2, g3⟩ := id h
  have q8 := q.2.2.2.2.2.2.2.1
  have w1' : w < ur r 18 (rw9 r w) (E + k) 16 0 := by rw [po _ _ (by omega)]; omega
  have lw := h1.2.2.lt w0 w1'
  rw [po 32 _ (by omega)] at lw
  have s1 := (h1.2.2.rg.2.2 w w0 w1').1
  rw [po 12 _ (by omega)] at s1
  have eR9 : Rl r w = 100000 * (w + 1) + 10000 * r 12 w := rfl
  rw [hK] at pw ⊢
  obtain ⟨R, hR⟩ : ∃ R, R = Rl r w := ⟨_, rfl⟩
  obtain ⟨pm, pj⟩ := put_m (k := 12) (x := r0 73 k) (y := r0 74 k) (m := m) (R := R) (by omega)
  have u6 : m (Rl (ur r 18 (rw9 r w) (E + k)) w) 6 = (if w = w then u else 0) := (h1.2.1 w w0 w1').2
  rw [if_t rfl, eRl, ← hR] at u6
  have um := h1.um (m' := upd9 (upd9 (put9 (R + 1) 12 (r0 73 k) (r0 74 k) m) R 6 (u + 1)) R 5 (r 32 w + 1)) (x := r0 73 k) (y := r0 74 k) (f := r0 74 k) w0 w1' p17 (by rw [p18]; omega) (by rw [p18]; exact pl) (u + 1) (fun i hi => by
    rw [eRl, ← hR] at hi ⊢
    rw [upd9_row hi, upd9_row hi]) (fun j => by
    rw [eRl, ← hR, po 32 _ (by omega)]
    by_cases c : j = 5
    · rw [if_t c, upd9_e rfl c]
    · rw [if_f c, upd9_n (by omega)]
      by_cases d : j = 6
      · rw [if_t d, upd9_e rfl d]
      · rw [if_f d, upd9_n (by omega), pm R (by omega)])
  rw [show (fun w2 : Int => if w2 = w then u + 1 else (fun w2 => if w2 = w then u else 0) w2) = fun w2 => if w2 = w then u + 1 else 0 by funext w2; by_cases c : w2 = w <;> simp only [c, if_true, if_false]] at um
  rw [pw, um_ov] at um
  obtain ⟨v32, v33, v34⟩ := um_v (w := w) (f := r0 74 k) (r := r)
  have fA := h1.1.2.2.2.2.2.1 w w0 w1'
  have f6 := fA.1.1.2.2.2.2.2.2.1
  rw [eRl, ← hR] at f6
  have l5 := fA.2.2.1.2.2.1
  rw [eRl, ← hR, po 32 _ (by omega)] at l5
  have e5 : m 1 5 = 10 := by rw [h1.1.1.1.2.2.2.2.2.1, po _ _ (by omega)]; exact h16
  have zp : pA 12 = false ∧ pT 12 = false ∧ pM 12 = true := ⟨rfl, rfl, rfl⟩
  obtain ⟨mp, hmp⟩ : ∃ mp, mp = put9 (R + 1) 12 (r0 73 k) (r0 74 k) m := ⟨_, rfl⟩
  rw [← hR]
  rw [← hmp] at um pm pj ⊢
  refine ⟨upd9 (upd9 mp R 6 (u + 1)) R 5 (r 32 w + 1), umR w (r0 74 k) r, ?_, ?_, h.next (d := 0) q8.2.1 (u' := u + 1) um (fun j hj => um_j (by omega)) (by rw [um_j (by omega)]; omega) (by rw [um_j (by omega)]; omega) ⟨by rw [um_j (by omega)], by rw [um_j (by omega)], by rw [um_j (by omega)], by rw [um_j (by omega)], by rw [um_j (by omega)]⟩ (fun j i a b c d => by rw [um_j (by omega)]) ⟨by rw [um_j (by omega), hK, zp.1]; exact (Int.add_zero _).symm, by rw [um_j (by omega), hK, zp.2.1]; exact (Int.add_zero _).symm, by rw [v32, hK, zp.2.2, if_t rfl]⟩ ⟨by omega, fun _ => by rw [um_j (by omega)]; exact h16, by rw [v32]; omega, fun n a b => ?_⟩ (h9.fr fun j hj => um_j (by omega)) ⟨fun i hi => by rw [upd9_row (by omega), upd9_row (by omega), pm i (by omega)], by rw [upd9_n (by omega), upd9_n (by omega), pm _ (by omega)]; omega, by rw [upd9_n (by omega), upd9_n (by omega), pm _ (by omega)]; omega⟩⟩
  · have r6 : mp R 6 = u := by rw [pm R (by omega)]; exact u6
    have r5 : upd9 mp R 6 (u + 1) R 5 = r 32 w := by rw [upd9_n (by omega), pm R (by omega)]; exact l5
    unfold X11_takeEffect X11_takeEffect_0
    rw [if_f (show ¬ (12 : Int) = 8 by decide), if_f (show ¬ (12 : Int) = 9 by decide), if_f (show ¬ (12 : Int) = 10 by decide), if_f (show ¬ (12 : Int) = 11 by decide), if_t (show (12 : Int) = 12 from rfl)]
    unfold X11_makeChild X11_makeChild_0 X11_makeChild_92
    rw [pm 1 (by omega), e5, if_t (show (10 : Int) ≤ 10 by decide), pm (100000 * (w + 1)) (by omega), f6, r6, st_e, r5]
    repeat rw [chk_t (by omega)]
    rw [st_e, cal_e]
  · have := g_makesChild0 (r := r) (w := w) (k := k) w0 (by omega) lw.2.2.1.1 (by omega) q8.2.1 k1 h16
    rw [h2 74 (by omega)] at this
    exact this
  · rw [v32] at b ⊢
    by_cases e : n = r 32 w
    · rw [e, v33]
      exact ⟨fun _ => by omega, fun _ => rfl⟩
    · rw [um_o (by omega)]
      have := h8.2.2.2 n a (by omega)
      rw [this]
      exact ⟨fun _ => by omega, fun _ => by omega⟩
theorem lp_child1 (h : Lp N w E r0 m0 k r m) (q : Kq r0 w E k) (w0 : 0 ≤ w) (w1 : w < r0 16 0) (hK : r0 72 k = 12) (k1 : k < 5200) (h16 : r 16 0 < 10) (hv : -100000 ≤ r0 14 w ∧ r0 14 w ≤ 100000) (h5e : ∀ i, 0 ≤ i → i < E + k → r0 19 (80 * rw9 r0 w + i) = 5 → r0 20 (80 * rw9 r0 w + i) < r0 32 w) : ∃ m' r', X11_takeEffect 1 (100000 * (w + 1)) (r0 72 k) (r0 73 k) (r0 74 k) (put9 (Rl r w + 1) (r0 72 k) (r0 73 k) (r0 74 k) m) = some (0, m') ∧ G_makesChild w k r = some (0, r') ∧ Lp N w E r0 m0 (k + 1) r' m' := by
  obtain ⟨⟨e9, eRl⟩, ⟨p18, p17, pl⟩, pw, po⟩ := h.pre q
  obtain ⟨u, h1, h2, h3, h4, h5, h6, h7, h8, h9, g1, g2, g3⟩ := id h
  have q8 := q.2.2.2.2.2.2.2.1
  have qx := q.2.2.2.2.1 hK
  have u0 : u = 0 := by
    by_cases c : 0 < u
    · have := h8.2.1 c
      omega
    · omega
  subst u0
  have hc : RelC N (ur r 18 (rw9 r w) (E + k)) m := by
    rw [show (fun w2 : Int => if w2 = w then (0 : Int) else 0) = fun _ => 0 by funext w2; split <;> rfl] at h1
    exact h1
  have w1' : w < ur r 18 (rw9 r w) (E + k) 16 0 := by rw [po _ _ (by omega)]; omega
  have lw := h1.2.2.lt w0 w1'
  rw [po 32 _ (by omega)] at lw
  have s1 := (h1.2.2.rg.2.2 w w0 w1').1
  have s2 := (h1.2.2.rg.2.2 w w0 w1').2.1
  rw [po 12 _ (by omega)] at s1 s2
  have ew : rw9 r w = 9 * w + r 12 w - 1 := rfl
  obtain ⟨W, hW⟩ : ∃ W, W = r 16 0 := ⟨_, rfl⟩
  have gu := h1.2.2.2.2.2.2.1
  have gu1 := (gu.1 W (by rw [po _ _ (by omega)]; omega) (by omega)).1
  have gu2 := gu.2.1 W 1 (by omega) (by omega) (by omega) (by omega)
  rw [po 12 _ (by omega)] at gu1
  rw [show 9 * W + 1 - 1 = 9 * W by omega, ur_n (by omega)] at gu2
  obtain ⟨z, y1, nf⟩ := g_makesChild1 (r := r) (w := w) (k := k) (W := W) w0 hW (by omega) (by omega) lw.2.2.1.1 (by omega) q8.2.1 k1 gu1 gu2
  rw [h2 74 (by omega), h2 73 (by omega), h2 75 (by omega), qx.2, ← h5.2.1] at nf
  obtain ⟨o1, o2⟩ := ov_made (c := E + k + 1) w0 (show w < W by omega) (by omega) s1 s2 lw.2.2.1.1 (by omega) nf
  rw [hK] at pw ⊢
  rw [← pw] at o1
  have cp := hc.child (x := r0 73 k) (y := r0 74 k) (W := W) w0 w1' (by rw [po _ _ (by omega)]; exact hW) (by omega) p17 (by rw [p18]; omega) (by rw [p18]; exact pl) (by omega) (by rw [po _ _ (by omega), h5.2.1]; exact hv) (fun i a b c => ?_) (by rw [po 8 _ (by omega), po 32 _ (by omega), po 12 _ (by omega), po 14 _ (by omega)]; exact o1)
  · obtain ⟨m', x1, x2, x3⟩ := cp
    rw [eRl] at x1
    rw [po 32 _ (by omega), o2] at x2
    have nz := nf.2.2.2.2.2.2.2
    have eo : ∀ (j : Nat) i, ¬ (j = 34 ∧ i = 80 * w + r 32 w) → ¬ (j = 33 ∧ i = 80 * w + r 32 w) → ¬ (j = 32 ∧ i = w) → ¬ (j = 16 ∨ (7 ≤ j ∧ j ≤ 12 ∨ j = 14 ∨ j = 15 ∨ j = 22 ∨ j = 30 ∨ j = 32) ∧ i = W ∨ (j = 17 ∨ j = 18) ∧ i = 9 * W ∨ (19 ≤ j ∧ j ≤ 21) ∧ i = 720 * W) → ur (ur z 33 (80 * w + r 32 w) W) 32 w (r 32 w + 1) j i = r j i := fun j i a b c d => by rw [ur_n (by omega), ur_n (by omega), nz j i d, ur_n (by omega)]
    have ej : ∀ j : Nat, j < 7 ∨ j = 13 ∨ (23 ≤ j ∧ j ≤ 29) ∨ j = 31 ∨ 34 < j → ur (ur z 33 (80 * w + r 32 w) W) 32 w (r 32 w + 1) j = r j := fun j hj => by
      funext i
      exact eo j i (by omega) (by omega) (by omega) (by omega)
    have v16 : ur (ur z 33 (80 * w + r 32 w) W) 32 w (r 32 w + 1) 16 0 = W + 1 := by rw [ur_n (by omega), ur_n (by omega)]; exact nf.1
    have v32 : ur (ur z 33 (80 * w + r 32 w) W) 32 w (r 32 w + 1) 32 w = r 32 w + 1 := ur_e rfl rfl
    have v33 : ur (ur z 33 (80 * w + r 32 w) W) 32 w (r 32 w + 1) 33 (80 * w + r 32 w) = W := by rw [ur_n (by omega), ur_e rfl rfl]
    have v22 : ur (ur z 33 (80 * w + r 32 w) W) 32 w (r 32 w + 1) 22 W = 0 := by rw [ur_n (by omega), ur_n (by omega)]; exact nf.2.2.2.2.2.1.2.2.1
    have zp : pA 12 = false ∧ pT 12 = false ∧ pM 12 = true := ⟨rfl, rfl, rfl⟩
    refine ⟨m', _, x1, y1, h.next (d := 1) q8.2.1 (u' := 0) ?_ (fun j hj => ej j (by omega)) (by rw [ej 29 (by omega)]; omega) (by rw [v16]; omega) ⟨eo 12 w (by omega) (by omega) (by omega) (by omega), eo 14 w (by omega) (by omega) (by omega) (by omega), eo 17 _ (by omega) (by omega) (by omega) (by omega), eo 18 _ (by omega) (by omega) (by omega) (by omega), eo 15 w (by omega) (by omega) (by omega) (by omega)⟩ (fun j i a b c d => eo j _ (by omega) (by omega) (by omega) (by omega)) ⟨by rw [eo 22 w (by omega) (by omega) (by omega) (by omega), hK, zp.1]; exact (Int.add_zero _).symm, by rw [eo 30 w (by omega) (by omega) (by omega) (by omega), hK, zp.2.1]; exact (Int.add_zero _).symm, by rw [v32, hK, zp.2.2, if_t rfl]⟩ ⟨by omega, fun hh => by omega, by rw [v32]; omega, fun n a b => ?_⟩ (fun w2 n a b c d => ?_) x3⟩
    · rw [show (fun w2 : Int => if w2 = w then (0 : Int) else 0) = fun _ => 0 by funext w2; split <;> rfl]
      exact x2
    · rw [v32] at b ⊢
      by_cases e : n = r 32 w
      · rw [e, v33]
        exact ⟨fun _ => by omega, fun _ => by omega⟩
      · rw [eo 33 _ (by omega) (by omega) (by omega) (by omega)]
        have := h8.2.2.2 n a (by omega)
        rw [this]
        exact ⟨fun _ => by omega, fun _ => by omega⟩
    · rw [v16] at b
      by_cases e : w2 = W
      · rw [e, v22] at d; omega
      · rw [eo 22 w2 (by omega) (by omega) (by omega) (by omega)] at d
        rw [ej 23 (by omega), ej 1 (by omega), ej 26 (by omega), ej 27 (by omega)]
        exact h9 w2 n a (by omega) c d
  · rw [p18] at b
    unfold hk at c
    rw [e9, po 19 _ (by omega), h6 19 i (by omega) (by omega) a (by omega)] at c
    rw [e9, po 20 _ (by omega), h6 20 i (by omega) (by omega) a (by omega), po 32 _ (by omega), h7.2.2]
    have := h5e i a b c
    have := cntP_0 (p := pM) (f := r0 72) (n := k.toNat)
    omega
theorem lp_step (h : Lp N w E r0 m0 k r m) (q : Kq r0 w E k) (w0 : 0 ≤ w) (w1 : w < r0 16 0) (k1 : k < 5200) (hN : N ≤ 601) (h29 : r0 29 0 + k + 1 ≤ 100 * N) (hv : -100000 ≤ r0 14 w ∧ r0 14 w ≤ 100000) (h5e : ∀ i, 0 ≤ i → i < E + k → r0 19 (80 * rw9 r0 w + i) = 5 → r0 20 (80 * rw9 r0 w + i) < r0 32 w) (hn : k < r0 76 0) (h32 : 0 ≤ r0 32 w) : ∃ m' r', X11_takeEffect 1 (100000 * (w + 1)) (r0 72 k) (r0 73 k) (r0 74 k) (put9 (Rl r w + 1) (r0 72 k) (r0 73 k) (r0 74 k) m) = some (0, m') ∧ (∀ (k165 : Int → Int → Rst → Option G2) (t : Nat) (l2 : Int), G_does_9 k165 (t + 1) w l2 k r = G_does_9 k165 t w l2 (k + 1) r') ∧ Lp N w E r0 m0 (k + 1) r' m' := by
  obtain ⟨u, h1, h2, h3, h4, h5, h6, h7, h8, h9, g1, g2, g3⟩ := id h
  have q8 := q.2.2.2.2.2.2.2.1
  have q1 := q.1
  have e72 : r 72 k = r0 72 k := by rw [h2 72 (by omega)]
  have e76 : r 76 0 = r0 76 0 := by rw [h2 76 (by omega)]
  have pre : ∀ (k165 : Int → Int → Rst → Option G2) (t : Nat) (l2 : Int), G_does_9 k165 (t + 1) w l2 k r = (if r0 72 k = 8 then cag (G_putsActivity w (r 74 k) r) fun _ r5 => G_does_9 k165 t w l2 (k + 1) r5 else if r0 72 k = 9 then cag (G_takesOff w (r 73 k) r) fun _ r12 => G_does_9 k165 t w l2 (k + 1) r12 else if r0 72 k = 10 then cag (G_setsTimer_ w (r 73 k) 1 r) fun _ r19 => G_does_9 k165 t w l2 (k + 1) r19 else if r0 72 k = 11 then cag (G_setsTimer_ w (r 73 k) 0 r) fun _ r26 => G_does_9 k165 t w l2 (k + 1) r26 else if r0 72 k = 12 then cag (G_makesChild w k r) fun _ r31 => G_does_9 k165 t w l2 (k + 1) r31 else if r0 72 k = 13 then G_does_9 k165 t w l2 (k + 1) r else if r0 72 k = 14 then chk9 (0 ≤ ((2 * w) + r 73 k) ∧ ((2 * w) + r 73 k) < 20) (chk9 (iR ((2 * w) + r 73 k)) (G_does_9 k165 t w l2 (k + 1) (ur r 13 ((2 * w) + r 73 k) (r 74 k)))) else cag (G_putsActivity w (r 74 k) r) fun _ r51 => G_does_9 k165 t w l2 (k + 1) r51) := fun k165 t l2 => by
    rw [G_does_9, e76, if_f (by omega), e72]
    have i1 : iR (k + 1) := by omega
    by_cases c : r0 72 k = 8
    · rw [if_t c, if_t c]
      repeat rw [chk_t (by omega)]
      congr 1
      funext _ r5
      rw [chk_t i1]
    rw [if_f c, if_f c]
    by_cases c : r0 72 k = 9
    · rw [if_t c, if_t c]
      repeat rw [chk_t (by omega)]
      congr 1
      funext _ r5
      rw [chk_t i1]
    rw [if_f c, if_f c]
    by_cases c : r0 72 k = 10
    · rw [if_t c, if_t c]
      repeat rw [chk_t (by omega)]
      congr 1
      funext _ r5
      rw [chk_t i1]
    rw [if_f c, if_f c]
    by_cases c : r0 72 k = 11
    · rw [if_t c, if_t c]
      repeat rw [chk_t (by omega)]
      congr 1
      funext _ r5
      rw [chk_t i1]
    rw [if_f c, if_f c]
    by_cases c : r0 72 k = 12
    · rw [if_t c, if_t c]
      repeat rw [chk_t (by omega)]
      congr 1
      funext _ r5
      rw [chk_t i1]
    rw [if_f c, if_f c]
    by_cases c : r0 72 k = 13
    · rw [if_t c, if_t c]
      repeat rw [chk_t (by omega)]
    rw [if_f c, if_f c]
    by_cases c : r0 72 k = 14
    · have qx := q.2.2.2.1 c
      have e73 : r 73 k = r0 73 k := by rw [h2 73 (by omega)]
      rw [if_t c, if_t c, e73]
      repeat rw [chk_t (by omega)]
      rw [stg_e]
      repeat rw [chk_t (by omega)]
    rw [if_f c, if_f c, if_t (by omega)]
    repeat rw [chk_t (by omega)]
    congr 1
    funext _ r5
    rw [chk_t i1]
  by_cases c8 : r0 72 k = 8 ∨ r0 72 k = 15
  · obtain ⟨m', r', y1, y2, y3⟩ := lp_act h q w0 w1 c8 hN h29
    refine ⟨m', r', y1, fun k165 t l2 => ?_, y3⟩
    rw [pre]
    rcases c8 with c | c
    · rw [if_t c, y2, cag_e]
    · rw [if_f (by omega), if_f (by omega), if_f (by omega), if_f (by omega), if_f (by omega), if_f (by omega), if_f (by omega), y2, cag_e]
  by_cases c9 : r0 72 k = 9
  · obtain ⟨m', r', y1, y2, y3⟩ := lp_off h q w0 w1 c9
    exact ⟨m', r', y1, fun k165 t l2 => by rw [pre, if_f (by omega), if_t c9, y2, cag_e], y3⟩
  by_cases c10 : r0 72 k = 10
  · obtain ⟨m', r', y1, y2, y3⟩ := lp_timer h q w0 w1 c10 hN
    exact ⟨m', r', y1, fun k165 t l2 => by rw [pre, if_f (by omega), if_f (by omega), if_t c10, y2, cag_e], y3⟩
  by_cases c11 : r0 72 k = 11
  · obtain ⟨m', r', y1, y2, y3⟩ := lp_toff h q w0 w1 c11
    exact ⟨m', r', y1, fun k165 t l2 => by rw [pre, if_f (by omega), if_f (by omega), if_f (by omega), if_t c11, y2, cag_e], y3⟩
  by_cases c12 : r0 72 k = 12
  · have fin : (∃ m' r', X11_takeEffect 1 (100000 * (w + 1)) (r0 72 k) (r0 73 k) (r0 74 k) (put9 (Rl r w + 1) (r0 72 k) (r0 73 k) (r0 74 k) m) = some (0, m') ∧ G_makesChild w k r = some (0, r') ∧ Lp N w E r0 m0 (k + 1) r' m') := by
      by_cases c : r 16 0 = 10
      · exact lp_child0 h q w0 w1 c12 k1 c h32
      · exact lp_child1 h q w0 w1 c12 k1 (by omega) hv h5e
    obtain ⟨m', r', y1, y2, y3⟩ := fin
    exact ⟨m', r', y1, fun k165 t l2 => by rw [pre, if_f (by omega), if_f (by omega), if_f (by omega), if_f (by omega), if_t c12, y2, cag_e], y3⟩
  · obtain ⟨m', y1, y3⟩ := lp_tell h q w0 w1 (by omega)
    refine ⟨m', _, y1, fun k165 t l2 => ?_, y3⟩
    rw [pre, if_f (by omega), if_f (by omega), if_f (by omega), if_f (by omega), if_f (by omega)]
    by_cases c13 : r0 72 k = 13
    · rw [if_t c13, if_t c13]
    · have qx := q.2.2.2.1 (by omega)
      have e73 : r 73 k = r0 73 k := by rw [h2 73 (by omega)]
      have e74 : r 74 k = r0 74 k := by rw [h2 74 (by omega)]
      rw [if_f c13, if_t (by omega), if_f c13, e73, e74]
      repeat rw [chk_t (by omega)]
end EN
