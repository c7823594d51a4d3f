/-! a run is over: what both sides do about it -/
section EY
variable {N N' : Int} {uf : Int → Int} {r r' z r0 r1 r2 : Rst} {m m' m0 m1 m2 : Mem} {w n k x y q s b c v row I o t l u f W E M p nu pa L R F E1 : Int}
noncomputable def coTail (s x A : Int) (m : Mem) : Option R2 := if s = 14 then cal (X11_beginAgain 1 A x m) fun _ m42 => some (0, m42) else chk9 (iR (m 1 5 - 1)) (cal (X11_isWithin (m A 7) 0 (m 1 5 - 1) m) fun v29 m30 => if v29 = 0 then some (0, m30) else chk9 (0 < m30 1 1 ∧ 0 ≤ m30 A 7 ∧ m30 A 7 < 10) (chk9 (0 < m30 (m30 1 1) (m30 A 7)) (if m30 (m30 (m30 1 1) (m30 A 7)) 5 = m30 A 8 then chk9 (0 ≤ m30 A 7 ∧ m30 A 7 < 10) (if s = 21 then X11_closeIfOver_151 x (m30 A 9) 5 (m30 (m30 (m30 1 1) (m30 A 7)) 6) m30 else X11_closeIfOver_151 (-1) (m30 A 9) 5 (m30 (m30 (m30 1 1) (m30 A 7)) 6) m30) else some (0, m30))))
noncomputable def goTail (w s x : Int) (r10 : Rst) : Option G2 := chk9 (0 ≤ w ∧ w < 10) (if s = 14 then cag (G_beginsRun w x r10) fun _ r22 => G_over_39 G_over_94 fuel9 w 0 r22 else if r10 9 w = -1 then some (0, r10) else chk9 (0 ≤ r10 9 w ∧ r10 9 w < 10) (chk9 (0 ≤ w ∧ w < 10) (if r10 12 (r10 9 w) = r10 10 w then chk9 (0 ≤ w ∧ w < 10) (if s = 21 then G_over_166 x (r10 11 w) 5 (r10 9 w) r10 else G_over_166 (-1) (r10 11 w) 5 (r10 9 w) r10) else some (0, r10))))
/-- what stands when all that the run has begun is let go of -/
def Clo (N : Int) (w s u : Int) (r r2 : Rst) (m m2 : Mem) : Prop := RelK N (fun w2 => if w2 = w then u else 0) r2 m2 ∧ (∀ i, i < 1000 → m2 i = m i) ∧ (∀ j : Nat, ¬ (j = 15 ∨ (17 ≤ j ∧ j ≤ 21) ∨ j = 23 ∨ j = 31 ∨ j = 39 ∨ j = 81 ∨ j = 82) → r2 j = r j) ∧ GT r2 ∧ (∀ n, 0 ≤ n → n < r 22 w → r2 23 (80 * w + n) = 0) ∧ r2 17 (rw9 r w) = s ∧ (∀ j i, HO r w j i → r2 j i = r j i) ∧ ∀ p, 0 ≤ p → p < w → ∀ i, 0 ≤ i → i < r2 18 (rw9 r2 p) → hk r2 p i = 5 → r2 33 (80 * p + r2 20 (80 * rw9 r2 p + i)) ≠ w
theorem over_a (hL : Lp N w E r0 m0 L r m) (w0 : 0 ≤ w) (w1 : w < r0 16 0) (hE : 1 ≤ E ∧ 0 ≤ L ∧ E + L < 80) (hk16 : r0 19 (80 * rw9 r0 w + (E + L)) = 16 ∧ r0 20 (80 * rw9 r0 w + (E + L)) = s ∧ r0 21 (80 * rw9 r0 w + (E + L)) = x) (hl : 7 ≤ r0 19 (80 * rw9 r0 w + (E + L - 1))) (h18 : r0 18 (rw9 r0 w) = E + L + 1) (hs : s ≠ 20) : ∃ (u : Int) (r2 : Rst) (m2 : Mem), X11_closeIfOver 1 (100000 * (w + 1)) (put9 (Rl r w + 1) 16 s x m) = coTail s x (100000 * (w + 1)) m2 ∧ G_over w s x (ur r 15 w (-1)) = goTail w s x r2 ∧ Clo N w s u r r2 m m2 ∧ 0 ≤ u ∧ u ≤ r 32 w - r0 32 w := by
  obtain ⟨u, h1, h2, h3, h4, h5, h6, h7, h8, h9, g1, g2, g3⟩ := id hL
  have e9 : rw9 (ur r 18 (rw9 r w) (E + L)) w = rw9 r w := by unfold rw9; rw [ur_n (by omega)]
  have eRl : ∀ w2, Rl (ur r 18 (rw9 r w) (E + L)) w2 = Rl r w2 := fun w2 => by unfold Rl; rw [ur_n (by omega)]
  have po : ∀ (j : Nat) i, j ≠ 18 → ur r 18 (rw9 r w) (E + L) j i = r j i := fun j i hj => ur_n (by omega)
  have p18 : ur r 18 (rw9 r w) (E + L) 18 (rw9 (ur r 18 (rw9 r w) (E + L)) w) = E + L := by rw [e9, ur_e rfl rfl]
  have p17 : ur r 18 (rw9 r w) (E + L) 17 (rw9 (ur r 18 (rw9 r w) (E + L)) w) = 20 := by rw [e9, po _ _ (by omega)]; exact h5.2.2.1
  have w1' : w < ur r 18 (rw9 r w) (E + L) 16 0 := by rw [po _ _ (by omega)]; omega
  have gv := h1.2.2.rg
  have sv := gv.2.2 w w0 w1'
  have s1 := sv.1
  have s2 := sv.2.1
  rw [po 12 _ (by omega)] at s1 s2
  have b10 := gv.1
  have ew : rw9 r w = 9 * w + r 12 w - 1 := rfl
  have eR9 : Rl r w = 100000 * (w + 1) + 10000 * r 12 w := rfl
  have pw : wr w 16 s x (ur r 18 (rw9 r w) (E + L)) = ur r 18 (rw9 r w) (E + L + 1) := ov_wr ⟨by rw [h6 19 _ (by omega) (by omega) (by omega) (by omega)]; exact hk16.1, by rw [h6 20 _ (by omega) (by omega) (by omega) (by omega)]; exact hk16.2.1, by rw [h6 21 _ (by omega) (by omega) (by omega) (by omega)]; exact hk16.2.2⟩
  have idn : ur r 18 (rw9 r w) (E + L + 1) = r := ur_same (by rw [h5.2.2.2.1, h18])
  have ov := h1.over (x := s) (y := x) (v := s) w0 w1' p17 (by rw [p18]; omega) (by
    rw [p18]
    unfold hk
    rw [e9, po 19 _ (by omega), h6 19 _ (by omega) (by omega) (by omega) (by omega)]
    exact hl) hs
  rw [pw, idn, e9, eRl] at ov
  obtain ⟨ro, hro⟩ : ∃ ro, ro = ur (ur r 17 (rw9 r w) s) 15 w (-1) := ⟨_, rfl⟩
  rw [← hro] at ov
  have oj : ∀ j : Nat, j ≠ 17 → j ≠ 15 → ro j = r j := fun j hj hi => by rw [hro, ur_ne hi, ur_ne hj]
  have o9 : ∀ c, rw9 ro c = rw9 r c := fun c => by unfold rw9; rw [oj 12 (by omega) (by omega)]
  have o17 : ro 17 (rw9 r w) = s ∧ ∀ i, i ≠ rw9 r w → ro 17 i = r 17 i := by
    rw [hro]
    exact ⟨by rw [ur_n (by omega), ur_e rfl rfl], fun i hi => by rw [ur_n (by omega), ur_n (by omega)]⟩
  have hoo : ∀ c j i, HO ro c j i ↔ HO r c j i := fun c j i => by unfold HO; rw [o9]
  obtain ⟨r2, m2, c1, c2, c3, c4, c5, c6, c7, c8⟩ := both_closes ov w0 (by rw [oj 16 (by omega) (by omega)]; omega)
  have tt : GT ro := h9.fr fun j hj => oj j (by omega) (by omega)
  have r29 : ∀ c, rw9 r2 c = rw9 r c := fun c => by unfold rw9; rw [c5 12 (by omega), oj 12 (by omega) (by omega)]
  refine ⟨u, r2, m2, ?_, ?_, ⟨c3, fun i hi => ?_, fun j hj => by rw [c5 j hj, oj j (by omega) (by omega)], c6 tt, fun n a b => c7 n a (by rw [oj 22 (by omega) (by omega)]; exact b), ?_, fun j i hj => ?_, fun p p0 p1 i i0 i1 ik => ?_⟩, h8.1, h8.2.2.1⟩
  · obtain ⟨pm, pj⟩ := put_m (k := 16) (x := s) (y := x) (m := m) (R := Rl r w) (by omega)
    have fA := h1.1.2.2.2.2.2.1 w w0 w1'
    have f6 := fA.1.1.2.2.2.2.2.2.1
    rw [eRl] at f6
    have ru := fA.2.1 (r 12 w) (by omega) (by rw [po 12 _ (by omega)]; exact Int.le_refl _)
    rw [← eR9, ← ew] at ru
    obtain ⟨⟨u0, u1, u2, u7, v0, v1, v2, v3⟩, -⟩ := ru
    rw [ur_e rfl rfl] at v3
    have q3 : put9 (Rl r w + 1) 16 s x m (Rl r w + 1) 3 = E + L + 1 := by
      unfold put9
      rw [upd9_e rfl rfl, v3]
    have qk : put9 (Rl r w + 1) 16 s x m (Rl r w + 2) (E + L) = 16 ∧ put9 (Rl r w + 1) 16 s x m (Rl r w + 3) (E + L) = s ∧ put9 (Rl r w + 1) 16 s x m (Rl r w + 4) (E + L) = x := by
      unfold put9
      rw [v3]
      refine ⟨?_, ?_, ?_⟩
      · rw [upd9_n (by omega), upd9_n (by omega), upd9_n (by omega), upd9_e (by omega) rfl]
      · rw [upd9_n (by omega), upd9_n (by omega), upd9_e (by omega) rfl]
      · rw [upd9_n (by omega), upd9_e (by omega) rfl]
    obtain ⟨mp, hmp⟩ : ∃ mp, mp = put9 (Rl r w + 1) 16 s x m := ⟨_, rfl⟩
    rw [← hmp] at pm pj q3 qk c1 ⊢
    have a6 : mp (100000 * (w + 1)) 6 = Rl r w := by rw [pm _ (by omega)]; exact f6
    have a0 : mp (Rl r w) 0 = Rl r w + 1 := by rw [pm _ (by omega)]; exact u0
    have st : X7_stop (Rl r w) s mp = some (0, upd9 (upd9 mp (Rl r w) 7 s) (Rl r w) 9 (-1)) := by
      unfold X7_stop X7_stop_0
      rw [chk_t (by omega), st_e, st_e]
    unfold X11_closeIfOver X11_closeIfOver_0
    rw [a6, a0, q3, show E + L + 1 - 1 = E + L by omega, x_isWithin, cal_e, if_t (show 0 ≤ E + L ∧ E + L ≤ 79 by omega), if_f (show ¬ (1 : Int) = 0 by decide), pj 0 (by decide), v0, show Rl r w + 2 = Rl r w + 2 from rfl, qk.1, if_t rfl, pj 1 (by decide), pj 2 (by decide), v1, v2, qk.2.1, qk.2.2, a6, st, cal_e, c1, cal_e]
    unfold coTail
    repeat rw [chk_t (by omega)]
  · unfold G_over G_over_0
    have a12 : ur r 15 w (-1) 12 w = r 12 w := ur_n (by omega)
    have a9 : rw9 (ur r 15 w (-1)) w = rw9 r w := by unfold rw9; rw [a12]
    rw [g_rowOfRun w0 (by omega) (by rw [a12]; omega) (by rw [a12]; exact s2), cag_e, a9]
    repeat rw [chk_t (by omega)]
    rw [stg_e, ur_comm (j := 15) (a := 17) (by omega), ← hro, c2, cag_e]
    rfl
  · rw [c4 i hi, upd9_row (by omega), upd9_row (by omega), (put_m (k := 16) (x := s) (y := x) (m := m) (R := Rl r w) (by omega)).1 i (by omega)]
  · have := (c8 w w0 (Int.le_refl _)).1
    rw [o9] at this
    rw [this]; exact o17.1
  · rw [(c8 w w0 (Int.le_refl _)).2 j i ((hoo w j i).2 hj)]
    unfold HO at hj
    rw [oj j (by omega) (by omega)]
  · have hp := (c8 p p0 (by omega)).2
    have k18 : r2 18 (rw9 r p) = r 18 (rw9 r p) := by rw [hp 18 _ ((hoo p _ _).2 (by unfold HO; omega)), oj 18 (by omega) (by omega)]
    have svp := gv.2.2 p p0 (by omega)
    have sp1 := svp.1
    have sp2 := svp.2.1
    rw [po 12 _ (by omega)] at sp1 sp2
    have ep : rw9 r p = 9 * p + r 12 p - 1 := rfl
    have e9p : rw9 (ur r 18 (rw9 r w) (E + L)) p = rw9 r p := by unfold rw9; rw [ur_n (by omega)]
    have h18p := svp.2.2.2.2.2 (rw9 r p) (by omega) (by omega)
    have hip := h1.2.2.hi p0 (show p < ur r 18 (rw9 r w) (E + L) 16 0 by omega)
    have v18p : ur r 18 (rw9 r w) (E + L) 18 (rw9 r p) = r 18 (rw9 r p) := ur_n (by omega)
    rw [v18p] at h18p
    rw [r29] at i1 ⊢
    rw [k18] at i1
    have k19 : hk r2 p i = r 19 (80 * rw9 r p + i) := by
      unfold hk
      rw [r29, hp 19 _ ((hoo p _ _).2 (by unfold HO; omega)), oj 19 (by omega) (by omega)]
    have k20 : r2 20 (80 * rw9 r p + i) = r 20 (80 * rw9 r p + i) := by rw [hp 20 _ ((hoo p _ _).2 (by unfold HO; omega)), oj 20 (by omega) (by omega)]
    rw [k19] at ik
    rw [k20, c5 33 (by omega), oj 33 (by omega) (by omega)]
    have c9 := hip.2.2.2.2.2.2.2.2.1 i i0 (by rw [e9p, v18p]; exact i1) (by unfold hk; rw [e9p, po 19 _ (by omega)]; exact ik)
    rw [e9p, po 20 _ (by omega), po 33 _ (by omega)] at c9
    intro hw
    rw [hw] at c9
    rcases c9.2 with c9 | c9
    · omega
    · exact c9 p17
/-- the parent is told -/
theorem x_parent (h : Clo N w s u r r2 m m2) (w0 : 0 ≤ w) (w1 : w < r2 16 0) (hs : s ≠ 20) (s14 : s ≠ 14) (bx : -100000 ≤ x ∧ x ≤ 100000) : ∃ r3 m3, coTail s x (100000 * (w + 1)) m2 = some (0, m3) ∧ goTail w s x r2 = some (0, r3) ∧ RelK N (fun w2 => if w2 = w then u else 0) r3 m3 ∧ (∀ i, i < 1000 ∨ 100000 * (w + 1) ≤ i → m3 i = m2 i) ∧ ∀ j : Nat, j < 18 ∨ 21 < j → r3 j = r2 j := by
  obtain ⟨c1, c2, c3, c4, c5, c6, c7, c8⟩ := h
  have g := c1.2.2.rg
  have b10 := g.1
  have rt := c1.1.1
  have f := (c1.1.2.2.2.2.2.1 w w0 w1).1
  have m15 : m2 1 5 = r2 16 0 := rt.1.2.2.2.2.2.1
  have m11 : m2 1 1 = 3 := rt.1.2.1
  have a7 : m2 (100000 * (w + 1)) 7 = r2 9 w := f.1.2.2.2.2.2.2.2
  have gc := c1.2.2.2.2.2.2.2.2.1
  unfold coTail goTail
  rw [if_f s14, if_f s14, m15, a7, x_isWithin, cal_e]
  by_cases c : r2 9 w = -1
  · rw [if_f (show ¬ (0 ≤ r2 9 w ∧ r2 9 w ≤ r2 16 0 - 1) by omega), if_t rfl, if_t c]
    repeat rw [chk_t (by omega)]
    exact ⟨r2, m2, rfl, rfl, c1, fun _ _ => rfl, fun _ _ => rfl⟩
  · have gw := (gc.2 w w0 w1).resolve_left c
    obtain ⟨p, hp⟩ : ∃ p, p = r2 9 w := ⟨_, rfl⟩
    rw [← hp] at gw c ⊢
    have p1 : p < r2 16 0 := by omega
    have m3p : m2 3 p = 100000 * (p + 1) := rt.2 p gw.1 p1
    have fp := (c1.1.2.2.2.2.2.1 p gw.1 p1).1
    have p5 : m2 (100000 * (p + 1)) 5 = r2 12 p := fp.1.2.2.2.2.2.1
    have p6 : m2 (100000 * (p + 1)) 6 = Rl r2 p := fp.1.2.2.2.2.2.2.1
    have a89 := f.2.1 (by omega)
    rw [if_t (show 0 ≤ p ∧ p ≤ r2 16 0 - 1 by omega), if_f (show ¬ (1 : Int) = 0 by decide), if_f c, m11, a7, ← hp, m3p, p5, a89.1, a89.2, p6]
    have sp := g.2.2 p gw.1 p1
    have sp1 := sp.1
    have sp2 := sp.2.1
    have eRp : Rl r2 p = 100000 * (p + 1) + 10000 * r2 12 p := rfl
    by_cases d : r2 12 p = r2 10 w
    · have k := gw.2.2.2 d.symm
      have ltp := c1.2.2.lt gw.1 p1
      have r29 : rw9 r2 w = rw9 r w := by unfold rw9; rw [c3 12 (by omega)]
      have go : ∀ y, -100000 ≤ y ∧ y ≤ 100000 → ∃ r3 m3, X11_closeIfOver_151 y (r2 11 w) 5 (Rl r2 p) m2 = some (0, m3) ∧ G_over_166 y (r2 11 w) 5 p r2 = some (0, r3) ∧ RelK N (fun w2 => if w2 = w then u else 0) r3 m3 ∧ (∀ i, i < 1000 ∨ 100000 * (w + 1) ≤ i → m3 i = m2 i) ∧ ∀ j : Nat, j < 18 ∨ 21 < j → r3 j = r2 j := fun y hy => by
        obtain ⟨v, m', r', h1, h2, h3, h4, h5, h6, -⟩ := c1.happen (w := p) (k := 5) (x := r2 11 w) (y := y) gw.1 p1 (by omega) (by omega) (by omega) hy k.1 (fun _ e => by omega) (fun _ _ => ⟨k.2.1, Or.inr (by rw [k.2.2, r29, c6]; exact hs), fun i i0 i1 ik => fun e => by
          have := c8 p gw.1 gw.2.1 i i0 i1 ik
          rw [e] at this
          exact this k.2.2⟩)
        refine ⟨r', m', ?_, ?_, h4, fun i hi => h5 i (by omega), h6⟩
        · unfold X11_closeIfOver_151
          rw [h1, cal_e, chk_t (by omega)]
        · unfold G_over_166
          rw [h2, cag_e]
      rw [if_t d, if_t d]
      by_cases e : s = 21
      · rw [if_t e, if_t e]
        repeat rw [chk_t (by omega)]
        exact go x bx
      · rw [if_f e, if_f e]
        repeat rw [chk_t (by omega)]
        exact go (-1) (by omega)
    · rw [if_f d, if_f d]
      repeat rw [chk_t (by omega)]
      exact ⟨r2, m2, rfl, rfl, c1, fun _ _ => rfl, fun _ _ => rfl⟩
end EY
