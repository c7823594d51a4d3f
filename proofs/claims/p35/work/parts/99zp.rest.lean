/-! decide: what was played is put down, or the run fails for want of room -/
section FE9
variable {cd : Int → Int} {N N' : Int} {r r' z r0 r1 r2 ra rv rz q pg hs : Rst} {m m' m0 m1 m2 ma mm : Mem} {w n k x y s b c v row I o t l u f W M p nu pa L R F E1 ver md rn T A E P H : Int} {a : Int → Int}
theorem dec_rest (h : RelC N r2 mm) (tt : GT r2) (hN : N ≤ 600) (w0 : 0 ≤ w) (w1 : w < r2 16 0) (hr : r2 17 (rw9 r2 w) = 20) (hE : r2 18 (rw9 r2 w) = E) (hnew : hk r2 w (E - 1) < 7) (hp : Hp q pg hs P H mm) (dn : Dn hs E q r2) (hh : ∀ i, 0 ≤ i → i < E → r2 19 (80 * rw9 r2 w + i) = hs 0 i ∧ r2 20 (80 * rw9 r2 w + i) = hs 1 i ∧ r2 21 (80 * rw9 r2 w + i) = hs 2 i) (h83 : r2 83 0 = r2 12 w) : ∃ val r' m3 m4 m5, X11_putDown 1 (100000 * (w + 1)) ver mm = some (0, m3) ∧ X11_closeIfOver 1 (100000 * (w + 1)) m3 = some (0, m4) ∧ X7_tellUnmade (Rl r2 w) m4 = some (0, m5) ∧ (if r2 42 0 = 2 then G_decide_150 w ver 80 (E + 1 + r2 76 0) r2 else G_decide_150 w ver 77 (E + 1 + r2 76 0) r2) = some (val, r') ∧ RelC (N + 1) r' m5 ∧ GT r' ∧ r' 0 = r2 0 ∧ (m5 1 4 = 100 ∧ m5 100 0 = 101 ∧ m5 101 3 = val) ∧ (∀ i, (10 ≤ i ∧ i ≤ 94) ∨ i = -3 ∨ i = -4 → m5 i = mm i) ∧ m5 (-2) 0 ≤ mm (-2) 0 + 90 + 10 * (r' 16 0 - r2 16 0) ∧ m5 (-2) 1 ≤ mm (-2) 1 + 1300 + 700 * (r' 16 0 - r2 16 0) := by
  have g := h.2.2.rg
  have b10 := g.1
  have sz := g.2.2 w w0 w1
  have s1 := sz.1
  have s2 := sz.2.1
  have lt := h.2.2.lt w0 w1
  rw [hE] at lt
  have eR9 : Rl r2 w = 100000 * (w + 1) + 10000 * r2 12 w := rfl
  have ew : rw9 r2 w = 9 * w + r2 12 w - 1 := rfl
  have hi := h.2.2.hi w0 w1
  have i5 := hi.2.2.2.2.1 (E - 1) (by omega) (by rw [hE]; omega) hnew
  obtain ⟨⟨d33, d76, d76', d37, d2, d41⟩, d42, dph, dsg, dct, dj⟩ := dn
  obtain ⟨⟨⟨a0, a1, a3, a4, a5, b0, b1, b2⟩, c111, cpl, cde, c110, c112, c113, c102, c103, c104, c130⟩, obp, obh, a6, b9⟩ := hp
  obtain ⟨⟨j1, j2, j3, j47⟩, ⟨j51, j52, j53⟩, jk, j59, jch⟩ := dj
  obtain ⟨t1, t2, t3, t4⟩ := dct
  have m8 : mm 100 9 = q 8 0 := cpl 9 rfl
  have m9 : mm 100 10 = q 9 0 := cpl 10 rfl
  have mr2 : mm 100 2 = r2 41 0 := (cpl 2 rfl).trans d2
  have m33 : mm 101 3 = r2 76 0 := (cde 3 rfl).trans d33
  have m34 : mm 101 4 = q 34 0 := cde 4 rfl
  have m35 : mm 101 5 = q 35 0 := cde 5 rfl
  have m36 : mm 101 6 = q 36 0 := cde 6 rfl
  have m37 : mm 101 7 = 0 := (cde 7 rfl).trans d37
  have m14 : mm 1 4 = 100 := h.1.1.1.2.2.2.2.1
  have fA := h.1.2.2.2.2.2.1 w w0 w1
  have f6 := fA.1.1.2.2.2.2.2.2.1
  have ru := fA.2.1 (r2 12 w) s1 (Int.le_refl _)
  rw [← eR9, ← ew] at ru
  obtain ⟨⟨u0, u1, u2, u7, v0, v1, v2, v3⟩, -⟩ := ru
  rw [hE] at v3
  have cn : ∀ pp : Int → Bool, cntP pp (hs 0) E.toNat = cntP pp (hk r2 w) (r2 18 (rw9 r2 w)).toNat := fun pp => by
    rw [hE]
    refine cntP_congr fun i i0 i1 => ?_
    unfold hk
    exact (hh i i0 (by omega)).1.symm
  have hcnt := hi.2.2.2.2.2.2.2.2.2.2.2.2
  have eA : cntP pA (hs 0) E.toNat = r2 22 w := by rw [cn pA]; exact hcnt.1.symm
  have eT : cntP pT (hs 0) E.toNat = r2 30 w := by rw [cn pT]; exact hcnt.2.1.symm
  rw [eA, eT] at jk
  have isO : X4_isOver 100 mm = some (if r2 42 0 = 2 then 1 else 0, mm) := by
    unfold X4_isOver X4_isOver_0
    rw [m8, chk_t (by omega)]
    rcases dph with ⟨e1, e2, e3⟩ | ⟨e1, e2⟩ | ⟨e1, e2, e3⟩
    · rw [if_f (by omega), if_f (by omega), boolR_e (Or.inl rfl)]
    · rw [if_f (by omega), if_f (by omega), boolR_e (Or.inl rfl)]
    · rw [if_t (by omega), if_t e1, boolR_e (Or.inr rfl)]
  have iE : iR (E + 1) := by omega
  have iN : iR (E + 1 + r2 76 0) := by omega
  obtain ⟨lim, hlim⟩ : ∃ lim, lim = if r2 42 0 = 2 then (80 : Int) else 77 := ⟨_, rfl⟩
  have pd : X11_putDown 1 (100000 * (w + 1)) ver mm = X11_putDown_50 1 (100000 * (w + 1)) ver (Rl r2 w) 101 lim (E + 1 + r2 76 0) mm := by
    unfold X11_putDown X11_putDown_0
    rw [m14, f6, u0, v3, a0, m33, isO, cal_e, hlim]
    by_cases c : r2 42 0 = 2
    · rw [if_t c, if_t c, if_f (show ¬ (1 : Int) = 0 by decide)]
      repeat rw [chk_t (by omega)]
    · rw [if_f c, if_f c, if_t rfl]
      repeat rw [chk_t (by omega)]
  have gd : (if r2 42 0 = 2 then G_decide_150 w ver 80 (E + 1 + r2 76 0) r2 else G_decide_150 w ver 77 (E + 1 + r2 76 0) r2) = G_decide_150 w ver lim (E + 1 + r2 76 0) r2 := by
    rw [hlim]
    by_cases c : r2 42 0 = 2
    · rw [if_t c, if_t c]
    · rw [if_f c, if_f c]
  rw [gd, pd]
  have l80 : lim = 80 ∧ r2 42 0 = 2 ∨ lim = 77 ∧ r2 42 0 ≠ 2 := by
    rw [hlim]
    by_cases c : r2 42 0 = 2
    · rw [if_t c]; exact Or.inl ⟨rfl, c⟩
    · rw [if_f c]; exact Or.inr ⟨rfl, c⟩
  unfold G_decide_150 X11_putDown_50
  by_cases fit : E + 1 + r2 76 0 ≤ lim
  · /- there is room -/
    rw [if_t fit, if_t fit]
    obtain ⟨p, hp9⟩ : ∃ p, p = if r2 42 0 = 0 then r2 40 0 else -1 := ⟨_, rfl⟩
    have wp : X4_waitingPlace 100 (upd9 mm (Rl r2 w) 8 (r2 41 0)) = some (p, upd9 mm (Rl r2 w) 8 (r2 41 0)) := by
      unfold X4_waitingPlace X4_waitingPlace_0
      rw [upd9_row (by omega), m8, m9, hp9, chk_t (by omega)]
      rcases dph with ⟨e1, e2, e3⟩ | ⟨e1, e2⟩ | ⟨e1, e2, e3⟩
      · rw [if_t e2, if_t e1, e3]
      · rw [if_f (by omega), if_f (by omega)]
      · rw [if_f (by omega), if_f (by omega)]
    obtain ⟨ra, hra⟩ : ∃ ra, ra = ur (ur r2 14 w (r2 41 0)) 15 w p := ⟨_, rfl⟩
    obtain ⟨ma, hma⟩ : ∃ ma, ma = upd9 (upd9 mm (Rl r2 w) 8 (r2 41 0)) (Rl r2 w) 9 p := ⟨_, rfl⟩
    have rc := h.regs (x := r2 41 0) (p := p) w0 w1
    rw [← hra, ← hma] at rc
    have aj : ∀ j : Nat, j ≠ 14 → j ≠ 15 → ra j = r2 j := fun j x y => by rw [hra, ur_ne y, ur_ne x]
    have a14 : ra 14 w = r2 41 0 := by rw [hra, ur_n (by omega), ur_e rfl rfl]
    have a15 : ra 15 w = p := by rw [hra, ur_e rfl rfl]
    have em : ∀ i, i ≠ Rl r2 w → ma i = mm i := fun i hi => by rw [hma, upd9_row hi, upd9_row hi]
    have eRa : Rl ra w = Rl r2 w := by unfold Rl; rw [aj 12 (by omega) (by omega)]
    have e9a : rw9 ra w = rw9 r2 w := by unfold rw9; rw [aj 12 (by omega) (by omega)]
    have xx : (chk9 (0 < (1 : Int)) <| chk9 (0 < mm 1 4) <| chk9 (0 < Rl r2 w) <| st9 (upd9 mm (Rl r2 w) 8 (mm (mm 1 4) 2)) fun m5 => chk9 (0 < m5 1 4) <| cal (X4_waitingPlace (m5 1 4) m5) fun v7 m8 => st9 (upd9 m8 (Rl r2 w) 9 v7) fun m10 => X11_putDown_83 1 (100000 * (w + 1)) ver (Rl r2 w) 101 m10) = X11_putDown_83 1 (100000 * (w + 1)) ver (Rl r2 w) 101 ma := by
      have q14 : upd9 mm (Rl r2 w) 8 (r2 41 0) 1 4 = 100 := by rw [upd9_n (by omega)]; exact m14
      rw [m14, mr2, st_e, q14, wp, cal_e, st_e, ← hma]
      repeat rw [chk_t (by omega)]
    have gg : G_decide_158 w ver 0 r2 = (cag (G_writes w 7 ver 0 ra) fun _ r6 => G_decide_224 G_decide_265 fuel9 w 0 r6) := by
      have q42 : ur r2 14 w (r2 41 0) 42 0 = r2 42 0 := ur_n (by omega)
      have q40 : ur r2 14 w (r2 41 0) 40 0 = r2 40 0 := ur_n (by omega)
      unfold G_decide_158 G_decide_191 G_decide_211
      rw [if_t rfl, chk_t (by omega), stg_e, q42, q40]
      by_cases c : r2 42 0 = 0
      · rw [if_t c] at hp9 ⊢
        rw [chk_t (by omega), stg_e, ← hp9, ← hra]
      · rw [if_f c] at hp9 ⊢
        rw [chk_t (by omega), stg_e, ← hp9, ← hra]
    rw [xx, gg]
    have dq : Dq ra ma (r2 76 0) := by
      unfold Dq
      rw [em 101 (by omega), em 102 (by omega), em 103 (by omega), em 104 (by omega), aj 72 (by omega) (by omega), aj 73 (by omega) (by omega), aj 74 (by omega) (by omega)]
      exact ⟨b0, b1, b2, m33, fun k k0 k1 k2 => by
        have := d42 k k0 k1 k2
        rw [c102, c103, c104]
        exact this⟩
    have jK : ∀ k, 0 ≤ k → k < r2 76 0 → Kd (ra 22 w) (ra 30 w) (ra 72) (ra 73) (r2 76 0) (ra 42 0) (r2 83 0) k := fun k k0 k1 => by
      rw [aj 22 (by omega) (by omega), aj 30 (by omega) (by omega), aj 72 (by omega) (by omega), aj 73 (by omega) (by omega), aj 42 (by omega) (by omega)]
      exact jk k k0 k1
    have jr : ∀ k, 0 ≤ k → k < r2 76 0 → ra 72 k = 12 → ra 75 k = ra 14 w := fun k k0 k1 k2 => by
      rw [aj 72 (by omega) (by omega)] at k2
      rw [aj 75 (by omega) (by omega), a14]
      exact (jch trivial ⟨k, k0, k1, k2⟩).2 k k0 k1 k2
    have fin : DR (N + 1) w ver (Rl ra w) (cag (G_writes w 7 ver 0 ra) fun _ r6 => G_decide_224 G_decide_265 fuel9 w 0 r6) (r2 76 0) ra ma := by
      have tta : GT ra := tt.fr fun j hj => aj j (by omega) (by omega)
      have wa : w < ra 16 0 := by rw [aj 16 (by omega) (by omega)]; exact w1
      have hra' : ra 17 (rw9 ra w) = 20 := by rw [e9a, aj 17 (by omega) (by omega)]; exact hr
      have hEa : ra 18 (rw9 ra w) = E + 1 - 1 := by rw [e9a, aj 18 (by omega) (by omega), hE]; omega
      have h76a : ra 76 0 = r2 76 0 := by rw [aj 76 (by omega) (by omega)]
      by_cases c2 : r2 42 0 = 2
      · rcases dph with ⟨e1, e2, e3⟩ | ⟨e1, e2⟩ | ⟨e1, e2, e3, e4⟩
        · omega
        · omega
        · obtain ⟨o1, o2, o3, o4⟩ := e3
          have kk := (jk (r2 76 0 - 1) (by omega) (by omega)).2.2.2.2.2.2 o2
          refine dec_fover (E := E + 1) (hs := hs) (a := q 20) rc tta hN w0 wa hra' o1 h76a hEa (by omega) dq (by rw [aj 42 (by omega) (by omega)]; exact c2) jK jr (by rw [a14]; exact d41) (by rw [aj 72 (by omega) (by omega), aj 73 (by omega) (by omega), aj 74 (by omega) (by omega), aj 49 (by omega) (by omega), aj 50 (by omega) (by omega)]; exact ⟨o2, o3, o4⟩) (by rw [a15, hp9, if_f (by omega)]) (by
            rw [aj 49 (by omega) (by omega), aj 12 (by omega) (by omega)]
            intro e14
            have := kk.2.2.1 (by rw [o3]; exact e14)
            rw [h83] at this
            omega) (by rw [aj 50 (by omega) (by omega)]; exact e4) (by
            rw [show E + 1 - 1 = E by omega, aj 65 (by omega) (by omega), aj 66 (by omega) (by omega), aj 67 (by omega) (by omega), aj 68 (by omega) (by omega)]
            exact dsg) (fun i i0 i1 => by
            rw [e9a, aj 19 (by omega) (by omega), aj 20 (by omega) (by omega), aj 21 (by omega) (by omega)]
            exact hh i i0 (by omega)) (by rw [show E + 1 - 1 = E by omega, aj 47 (by omega) (by omega)]; exact j47.symm) (by rw [em 100 (by omega)]; exact a1) (fun i => by rw [em 110 (by omega)]; exact c110 i)
      · exact dec_fgo (E := E + 1) rc tta hN w0 wa hra' d76 h76a hEa (by omega) dq (by rw [aj 42 (by omega) (by omega)]; exact c2) jK jr (by rw [a14]; exact d41)
    rw [eRa] at fin
    obtain ⟨r', m3, m4, m5, z1, z2, z3, z4, z5, z6, z7, z8, z9, zz⟩ := fin
    refine ⟨r2 76 0, r', m3, m4, m5, z1, z2, z3, z4, z5, z6, by rw [z7, aj 0 (by omega) (by omega)], ⟨z5.1.1.1.2.2.2.2.1, by rw [z8 100 (by omega), em 100 (by omega)]; exact a0, by rw [z8 101 (by omega), em 101 (by omega)]; exact m33⟩, fun i hi => by rw [z8 i (by omega), em i (by omega)], ?_, ?_⟩
    · rw [em (-2) (by omega), aj 16 (by omega) (by omega)] at z9
      exact z9
    · rw [em (-2) (by omega), aj 16 (by omega) (by omega)] at zz
      exact zz
  · /- there is none -/
    rw [if_f fit, if_f fit]
    obtain ⟨ma, x1, x2, x3, x4, x5, x6⟩ := x_tooLong (m := mm) ⟨b0, b1, b2⟩ m37 (by rw [m34, t1.1]; exact t2) (by rw [m35, t1.2.1]; exact t3) (by rw [m36, t1.2.2]; exact t4)
    obtain ⟨re, hre⟩ : ∃ re, re = gdec 16 22 8 (ur (ur (ur (ur r2 76 0 0) 42 0 2) 49 0 22) 50 0 8) := ⟨_, rfl⟩
    have y76 : ur (ur (ur (ur r2 76 0 0) 42 0 2) 49 0 22) 50 0 8 76 0 = 0 := by rw [ur_n (by omega), ur_n (by omega), ur_n (by omega), ur_e rfl rfl]
    have ends : G_ends 22 8 (ur r2 76 0 0) = some (0, re) := by
      unfold G_ends G_ends_0
      rw [stg_e, stg_e, stg_e, gdec_ok (by rw [y76]; omega) (by rw [y76]; omega), cag_e, ← hre]
    have ej : ∀ j : Nat, j ≠ 42 → j ≠ 49 → j ≠ 50 → j < 72 ∨ 76 < j → re j = r2 j := fun j b1 b2 b3 b4 => by
      rw [hre, gdec_n b4, ur_ne b3, ur_ne b2, ur_ne b1, ur_ne (by omega)]
    have e42 : re 42 0 = 2 := by
      rw [hre, gdec_n (by omega)]
      simp (disch := omega) only [ur_n, ur_e]
    have e49 : re 49 0 = 22 := by
      rw [hre, gdec_n (by omega)]
      simp (disch := omega) only [ur_n, ur_e]
    have e50 : re 50 0 = 8 := by
      rw [hre, gdec_n (by omega), ur_e rfl rfl]
    have e76 : re 76 0 = 1 := by rw [hre, gdec_76, y76]; rfl
    have ev := gdec_v (k := 16) (x := 22) (y := 8) (a := 0) (r := ur (ur (ur (ur r2 76 0 0) 42 0 2) 49 0 22) 50 0 8)
    rw [y76, if_t rfl, if_t rfl, if_t rfl, ← hre] at ev
    have pl : Pl ma := h.1.2.1.fr ⟨by rw [x2 100 (by omega) (by omega) (by omega) (by omega)], by rw [x2 100 (by omega) (by omega) (by omega) (by omega)], by rw [x2 100 (by omega) (by omega) (by omega) (by omega)], by rw [x2 100 (by omega) (by omega) (by omega) (by omega)], by rw [x2 100 (by omega) (by omega) (by omega) (by omega)], by rw [x3.1, b0], by rw [x3.2.1, b1], by rw [x3.2.2.1, b2], fun i => by rw [x2 111 (by omega) (by omega) (by omega) (by omega)]⟩
    have rc : RelC N re ma := h.fr pl (fun i hi => x2 i (by omega) (by omega) (by omega) (by omega)) fun j hj => ej j (by omega) (by omega) (by omega) (by omega)
    have eRe : Rl re w = Rl r2 w := by unfold Rl; rw [ej 12 (by omega) (by omega) (by omega) (by omega)]
    have e9e : rw9 re w = rw9 r2 w := by unfold rw9; rw [ej 12 (by omega) (by omega) (by omega) (by omega)]
    have gg : G_decide_158 w ver 1 r2 = (cag (G_writes w 7 ver 0 (ur re 15 w (-1))) fun _ r6 => G_decide_224 G_decide_265 fuel9 w 0 r6) := by
      unfold G_decide_158 G_decide_191 G_decide_211
      rw [if_f (by decide), stg_e, ends, cag_e, e42, if_f (by decide), chk_t (by omega), stg_e]
    have fin := dec_nofit (E := E + 1) (hs := hs) (a := q 20) (ver := ver) rc (tt.fr fun j hj => ej j (by omega) (by omega) (by omega) (by omega)) hN w0 (by rw [ej 16 (by omega) (by omega) (by omega) (by omega)]; exact w1) (by rw [e9e, ej 17 (by omega) (by omega) (by omega) (by omega)]; exact hr) e76 (by rw [e9e, ej 18 (by omega) (by omega) (by omega) (by omega), hE]; omega) (by omega) ⟨x3.1, x3.2.1, x3.2.2.1, x3.2.2.2, fun k k0 k1 k2 => by
      rw [show k = 0 by omega, x4, x5, x6, ev.1, ev.2.1, ev.2.2]
      exact ⟨rfl, rfl, rfl⟩⟩ e42 ⟨ev.1, by rw [ev.2.1, e49], by rw [ev.2.2, e50]⟩ ⟨e49, e50⟩ (by
      rw [show E + 1 - 1 = E by omega, ej 65 (by omega) (by omega) (by omega) (by omega), ej 66 (by omega) (by omega) (by omega) (by omega), ej 67 (by omega) (by omega) (by omega) (by omega), ej 68 (by omega) (by omega) (by omega) (by omega)]
      exact dsg) (fun i i0 i1 => by
      rw [e9e, ej 19 (by omega) (by omega) (by omega) (by omega), ej 20 (by omega) (by omega) (by omega) (by omega), ej 21 (by omega) (by omega) (by omega) (by omega)]
      exact hh i i0 (by omega)) (by rw [show E + 1 - 1 = E by omega, ej 47 (by omega) (by omega) (by omega) (by omega)]; exact j47.symm) (by rw [x2 100 (by omega) (by omega) (by omega) (by omega)]; exact a1) (fun i => by rw [x2 110 (by omega) (by omega) (by omega) (by omega)]; exact c110 i)
    rw [eRe] at fin
    obtain ⟨r', m3, m4, m5, z1, z2, z3, z4, z5, z6, z7, z8, z9, zz⟩ := fin
    refine ⟨1, r', m3, m4, m5, ?_, z2, z3, by rw [gg]; exact z4, z5, z6, by rw [z7, ej 0 (by omega) (by omega) (by omega) (by omega)], ⟨z5.1.1.1.2.2.2.2.1, by rw [z8 100 (by omega), x2 100 (by omega) (by omega) (by omega) (by omega)]; exact a0, by rw [z8 101 (by omega)]; exact x3.2.2.2⟩, fun i hi => by rw [z8 i (by omega), x2 i (by omega) (by omega) (by omega) (by omega)], ?_, ?_⟩
    · rw [x1, cal_e, chk_t (by omega)]
      exact z1
    · rw [x2 (-2) (by omega) (by omega) (by omega) (by omega), ej 16 (by omega) (by omega) (by omega) (by omega)] at z9
      exact z9
    · rw [x2 (-2) (by omega) (by omega) (by omega) (by omega), ej 16 (by omega) (by omega) (by omega) (by omega)] at zz
      exact zz
end FE9
