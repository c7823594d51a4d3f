/-! the reference's play within its rows: beginning what is waited for -/
theorem Ok.up {o : Option G2} {r x : Rst} {P : Int → Rst → Prop} (h1 : SameP r x) (h2 : Made r x) (h : Ok o x P) : Ok o r P := by
  obtain ⟨v, r', e1, e2, e3, e4⟩ := h
  exact ⟨v, r', e1, h1.tr e2, h2.tr e3, e4⟩
theorem Bz.w51 {D T U S : Int} {r : Rst} (h : Bz D T U S r) {v : Int} (h0 : 0 ≤ v) (h1 : v ≤ T + 1) : Bz D (T + 1) U S (ur r 51 0 v) := by
  obtain ⟨a1, a2, a3, a4, a5, a6⟩ := h
  unfold Bz
  simp (disch := omega) only [ur_n, ur_e]
  exact ⟨a1, by omega, by omega, by omega, a5, a6⟩
theorem Bz.w53 {D T U S : Int} {r : Rst} (h : Bz D T U S r) {v : Int} (h0 : 0 ≤ v) (h1 : v ≤ T + 1) : Bz D (T + 1) U S (ur r 53 0 v) := by
  obtain ⟨a1, a2, a3, a4, a5, a6⟩ := h
  unfold Bz
  simp (disch := omega) only [ur_n, ur_e]
  exact ⟨a1, by omega, by omega, by omega, a5, a6⟩
/-- a new place among those that are waited for -/
def wb (w kd a : Int) (r : Rst) : Rst := ur (ur (ur (ur (ur (ur (ur (ur r 55 0 (w + 1)) 56 w kd) 59 w (-1)) 58 w (-1)) 57 w a) 60 w 0) 61 w 0) 63 w 0
theorem Bz.wb {D T U S w kd a : Int} {r : Rst} (h : Bz D T U S r) (h0 : 0 ≤ w) (h1 : w < 3) : Bz D T U S (wb w kd a r) := by
  exact ((((((((h.v55 (v := w + 1) (by omega) (by omega)).oth (j := 56) rfl).oth (j := 59) rfl).oth (j := 58) rfl).oth (j := 57) rfl).v60 (Or.inl rfl)).v61 (Or.inl rfl)).oth (j := 63) rfl)
theorem wb_n {w kd a : Int} {r : Rst} {j : Nat} (h : j < 55 ∨ j = 62 ∨ 63 < j) : wb w kd a r j = r j := by
  unfold wb
  rw [ur_ne (by omega), ur_ne (by omega), ur_ne (by omega), ur_ne (by omega), ur_ne (by omega), ur_ne (by omega), ur_ne (by omega), ur_ne (by omega)]
theorem wb_55 {w kd a : Int} {r : Rst} : wb w kd a r 55 0 = w + 1 := by
  unfold wb; simp (disch := omega) only [ur_n, ur_e]
theorem wb_60 {w kd a : Int} {r : Rst} : wb w kd a r 60 w = 0 := by
  unfold wb; simp (disch := omega) only [ur_n, ur_e]
theorem wb_o {w kd a k : Int} {r : Rst} {j : Nat} (hj : j ≠ 55) (h : k ≠ w) : wb w kd a r j k = r j k := by
  unfold wb; simp (disch := omega) only [ur_n]
theorem waitsFor_eq {s : Int} {r : Rst} (h0 : 0 ≤ r 55 0) (h1 : r 55 0 < 3) (hc : 0 ≤ 12 * r 77 0 + s) (hc2 : 12 * r 77 0 + s < 180) (hp : 0 ≤ r 77 0) (hp2 : r 77 0 < 15) (hk : 0 ≤ r 2 (12 * r 77 0 + s)) (hk2 : r 2 (12 * r 77 0 + s) ≤ 3) (ht : -1000 ≤ r 51 0) (ht2 : r 51 0 ≤ 1000000) (ht3 : -1000 ≤ r 53 0) (ht4 : r 53 0 ≤ 1000000) :
    G_waitsFor s r = (if r 2 (12 * r 77 0 + s) = 0 then cag (G_decides 8 (r 3 (12 * r 77 0 + s)) (r 4 (12 * r 77 0 + s)) (ur (ur (wb (r 55 0) (r 2 (12 * r 77 0 + s)) (r 3 (12 * r 77 0 + s)) r) 58 (r 55 0) (r 51 0)) 51 0 (r 51 0 + 1))) fun _ q => some (0, q)
      else if r 2 (12 * r 77 0 + s) = 1 then cag (G_setsTimer (r 55 0) (r 3 (12 * r 77 0 + s)) (wb (r 55 0) (r 2 (12 * r 77 0 + s)) (r 3 (12 * r 77 0 + s)) r)) fun _ q => some (0, q)
      else if r 2 (12 * r 77 0 + s) = 2 then cag (G_untaken (r 3 (12 * r 77 0 + s)) (wb (r 55 0) (r 2 (12 * r 77 0 + s)) (r 3 (12 * r 77 0 + s)) r)) fun v q => if v = (-1) then (if q 4 (12 * r 77 0 + s) ≤ 0 then some (0, q) else cag (G_setsTimer (r 55 0) (q 4 (12 * r 77 0 + s)) q) fun _ q => some (0, q)) else chk9 (0 ≤ v ∧ v < 80) (stg (ur q 67 v 1) fun q2 => chk9 (0 ≤ v ∧ v < 80) (cag (G_gets (r 55 0) (q2 66 v) q2) fun _ q => some (0, q)))
      else cag (G_decides 12 (r 3 (12 * r 77 0 + s)) (r 4 (12 * r 77 0 + s)) (ur (ur (wb (r 55 0) (r 2 (12 * r 77 0 + s)) (r 3 (12 * r 77 0 + s)) r) 58 (r 55 0) (r 53 0)) 53 0 (r 53 0 + 1))) fun _ q => some (0, q)) := by
  unfold G_waitsFor G_waitsFor_0 G_stepAt G_stepAt_0
  generalize 12 * r 77 0 + s = c at *
  have e : ur (ur (ur (ur (ur (ur (ur (ur r 55 0 (r 55 0 + 1)) 56 (r 55 0) (r 2 c)) 59 (r 55 0) (-1)) 58 (r 55 0) (-1)) 57 (r 55 0) (r 3 c)) 60 (r 55 0) 0) 61 (r 55 0) 0) 63 (r 55 0) 0 = wb (r 55 0) (r 2 c) (r 3 c) r := rfl
  have g2 : wb (r 55 0) (r 2 c) (r 3 c) r 2 = r 2 := wb_n (by omega)
  have g3 : wb (r 55 0) (r 2 c) (r 3 c) r 3 = r 3 := wb_n (by omega)
  have g4 : wb (r 55 0) (r 2 c) (r 3 c) r 4 = r 4 := wb_n (by omega)
  have g51 : wb (r 55 0) (r 2 c) (r 3 c) r 51 = r 51 := wb_n (by omega)
  have g53 : wb (r 55 0) (r 2 c) (r 3 c) r 53 = r 53 := wb_n (by omega)
  rw [chk_t (by omega), chk_t (by omega), cag_e, chk_t (by omega), stg_e, chk_t (by omega), chk_t (by omega), stg_e, chk_t (by omega), stg_e, chk_t (by omega), stg_e, chk_t (by omega), chk_t (by omega), stg_e, chk_t (by omega), stg_e, chk_t (by omega), stg_e, chk_t (by omega), stg_e, chk_t (by omega)]
  have e2 : ur r 55 0 (r 55 0 + 1) 2 c = r 2 c := ur_n (by omega)
  rw [e2]
  have e3 : ur (ur (ur (ur r 55 0 (r 55 0 + 1)) 56 (r 55 0) (r 2 c)) 59 (r 55 0) (-1)) 58 (r 55 0) (-1) 3 c = r 3 c := by simp (disch := omega) only [ur_n]
  rw [e3, e]
  simp (disch := omega) only [g2, g3, g4, g51, g53, ur_ne, chk_t, stg_e, ur_n, ur_e]
  by_cases c0 : r 2 c = 0
  · rw [if_pos c0, if_pos c0]
  · rw [if_neg c0, if_neg c0]
    by_cases c1 : r 2 c = 1
    · rw [if_pos c1, if_pos c1]
    · rw [if_neg c1, if_neg c1]
      by_cases c2 : r 2 c = 2
      · rw [if_pos c2, if_pos c2]
      · have c3 : r 2 c = 3 := by omega
        rw [if_neg c2, if_neg c2, if_pos c3]
theorem PgR.k {r : Rst} (h : PgR r) {s : Int} (h0 : 0 ≤ s) (h1 : s < r 5 (r 77 0)) : 0 ≤ 12 * r 77 0 + s ∧ 12 * r 77 0 + s < 180 ∧ 0 ≤ r 77 0 ∧ r 77 0 < 15 := by
  obtain ⟨a1, a2, a3, a4, a5⟩ := h
  omega
theorem ok_waitsFor {D T U S s : Int} {r : Rst} (h : Bz D T U S r) (g : PgR r) (hs0 : 0 ≤ s) (hs1 : s < r 5 (r 77 0)) (hk : r 2 (12 * r 77 0 + s) ≤ 3) (hw : r 55 0 < 3) (hD : D < 5200) (hT : T ≤ 100000) (hS : S ≤ 80) :
    Ok (G_waitsFor s r) r fun _ r' => Bz (D + 1) (T + 1) U S r' ∧ r' 55 0 = r 55 0 + 1 ∧ r 76 0 ≤ r' 76 0 ∧ r' 76 0 ≤ r 76 0 + 1 ∧ (r' 60 (r 55 0) = 1 → r' 76 0 = r 76 0) ∧ (r' 61 (r 55 0) = 0) ∧ (∀ k, k ≠ r 55 0 → r' 60 k = r 60 k ∧ r' 61 k = r 61 k) ∧ r' 42 0 = r 42 0 := by
  have hg := g.k hs0 hs1
  have hk0 := (g.2.2.2.2 s hs0 hs1).1
  have w0 := h.2.2.2.2.2.2.2.2.2.1
  have t1 := h.2.1
  have t2 := h.2.2.2.1
  have t3 := h.2.2.2.2.2.1
  rw [waitsFor_eq w0.1 hw hg.1 hg.2.1 hg.2.2.1 hg.2.2.2 hk0 hk (by omega) (by omega) (by omega) (by omega)]
  have hb : Bz D T U S (wb (r 55 0) (r 2 (12 * r 77 0 + s)) (r 3 (12 * r 77 0 + s)) r) := h.wb w0.1 hw
  generalize hc : 12 * r 77 0 + s = c at *
  have sx : SameP r (wb (r 55 0) (r 2 c) (r 3 c) r) := fun j hj => wb_n (by omega)
  have mx : Made r (wb (r 55 0) (r 2 c) (r 3 c) r) := by unfold Made; rw [wb_n (by omega), wb_n (by omega), wb_n (by omega), wb_n (by omega)]; exact Made.rf
  have x60 : wb (r 55 0) (r 2 c) (r 3 c) r 60 (r 55 0) = 0 := wb_60
  have x61 : wb (r 55 0) (r 2 c) (r 3 c) r 61 (r 55 0) = 0 := by unfold wb; simp (disch := omega) only [ur_n, ur_e]
  have x55 : wb (r 55 0) (r 2 c) (r 3 c) r 55 0 = r 55 0 + 1 := wb_55
  have xo : ∀ j k, j ≠ 55 → k ≠ r 55 0 → wb (r 55 0) (r 2 c) (r 3 c) r j k = r j k := fun j k hj hk => wb_o hj hk
  have x51 : wb (r 55 0) (r 2 c) (r 3 c) r 51 = r 51 := wb_n (by omega)
  have x53 : wb (r 55 0) (r 2 c) (r 3 c) r 53 = r 53 := wb_n (by omega)
  have x76 : wb (r 55 0) (r 2 c) (r 3 c) r 76 = r 76 := wb_n (by omega)
  have x42 : wb (r 55 0) (r 2 c) (r 3 c) r 42 = r 42 := wb_n (by omega)
  have x68 : wb (r 55 0) (r 2 c) (r 3 c) r 68 = r 68 := wb_n (by omega)
  generalize wb (r 55 0) (r 2 c) (r 3 c) r = x at *
  have key : Ok (if r 2 c = 0 then cag (G_decides 8 (r 3 c) (r 4 c) (ur (ur x 58 (r 55 0) (r 51 0)) 51 0 (r 51 0 + 1))) fun _ q => some (0, q)
      else if r 2 c = 1 then cag (G_setsTimer (r 55 0) (r 3 c) x) fun _ q => some (0, q)
      else if r 2 c = 2 then cag (G_untaken (r 3 c) x) fun v q => if v = (-1) then (if q 4 c ≤ 0 then some (0, q) else cag (G_setsTimer (r 55 0) (q 4 c) q) fun _ q => some (0, q)) else chk9 (0 ≤ v ∧ v < 80) (stg (ur q 67 v 1) fun q2 => chk9 (0 ≤ v ∧ v < 80) (cag (G_gets (r 55 0) (q2 66 v) q2) fun _ q => some (0, q)))
      else cag (G_decides 12 (r 3 c) (r 4 c) (ur (ur x 58 (r 55 0) (r 53 0)) 53 0 (r 53 0 + 1))) fun _ q => some (0, q)) x fun _ r' => Bz (D + 1) (T + 1) U S r' ∧ r' 55 0 = r 55 0 + 1 ∧ r 76 0 ≤ r' 76 0 ∧ r' 76 0 ≤ r 76 0 + 1 ∧ (r' 60 (r 55 0) = 1 → r' 76 0 = r 76 0) ∧ (r' 61 (r 55 0) = 0) ∧ (∀ k, k ≠ r 55 0 → r' 60 k = r 60 k ∧ r' 61 k = r 61 k) ∧ r' 42 0 = r 42 0 := by
    refine Ok.ite (fun _ => ?_) fun _ => Ok.ite (fun _ => ?_) fun _ => Ok.ite (fun _ => ?_) fun _ => ?_
    · refine Ok.up ((SameP.rf.ur (by decide) (by decide)).ur (by decide) (by decide)) ((Made.rf.ur (by decide) (by decide) (by decide) (by decide)).ur (by decide) (by decide) (by decide) (by decide)) (Ok.cag (ok_decides ((hb.oth (j := 58) rfl).w51 (v := r 51 0 + 1) (by omega) (by omega)) hD) fun v r' _ _ hp => Ok.ret ?_)
      obtain ⟨p1, p2, p3⟩ := hp
      rw [p2, p3 55 (by omega), p3 60 (by omega), p3 61 (by omega), p3 42 (by omega)]
      simp (disch := omega) only [ur_n, x55, x60, x61, x76, x42]
      exact ⟨p1, trivial, by omega, by omega, fun h => by omega, trivial, fun k hk => ⟨xo 60 k (by omega) hk, xo 61 k (by omega) hk⟩, trivial⟩
    · refine Ok.cag (ok_setsTimer hb w0.1 hw hD (by omega)) fun v r' _ _ hp => Ok.ret ?_
      obtain ⟨p1, p2, p3⟩ := hp
      rw [p2, p3 55 (by omega) (by omega) (by omega), p3 60 (by omega) (by omega) (by omega), p3 61 (by omega) (by omega) (by omega), p3 42 (by omega) (by omega) (by omega)]
      simp only [x55, x60, x61, x76, x42]
      exact ⟨p1, trivial, by omega, by omega, fun h => by omega, trivial, fun k hk => ⟨xo 60 k (by omega) hk, xo 61 k (by omega) hk⟩, trivial⟩
    · have h68 := hb.2.2.2.2.2.1
      obtain ⟨v, e, hv⟩ := f_untaken0 (l1 := r 3 c) (r := x) h68.1 (by omega)
      rw [e, cag_e]
      refine Ok.ite (fun _ => Ok.ite (fun _ => Ok.ret ?_) fun _ => ?_) fun hn => ?_
      · rw [x55, x60, x61, x76, x42]
        exact ⟨hb.mono (by omega) (by omega) (by omega) (by omega), rfl, by omega, by omega, fun h => by omega, rfl, fun k hk => ⟨xo 60 k (by omega) hk, xo 61 k (by omega) hk⟩, rfl⟩
      · refine Ok.cag (ok_setsTimer hb w0.1 hw hD (by omega)) fun v r' _ _ hp => Ok.ret ?_
        obtain ⟨p1, p2, p3⟩ := hp
        rw [p2, p3 55 (by omega) (by omega) (by omega), p3 60 (by omega) (by omega) (by omega), p3 61 (by omega) (by omega) (by omega), p3 42 (by omega) (by omega) (by omega)]
        simp only [x55, x60, x61, x76, x42]
        exact ⟨p1, trivial, by omega, by omega, fun h => by omega, trivial, fun k hk => ⟨xo 60 k (by omega) hk, xo 61 k (by omega) hk⟩, trivial⟩
      · have hv2 : 0 ≤ v ∧ v < x 68 0 := by
          rcases hv with ⟨hv, _⟩ | ⟨hv, _⟩
          · exact absurd hv hn
          · exact hv
        refine Ok.chk (by omega) (Ok.st (by decide) (by decide) (by decide) (by decide) (by decide) (by decide) (Ok.chk (by omega) ?_))
        have hr := hb.2.2.2.2.2.2.2.2.2.2.2.1 v
        rw [ur_n (j := 67) (a := 66) (by omega)]
        refine Ok.cag (ok_gets (hb.oth (j := 67) rfl) w0.1 hw hr.1 hr.2) fun v2 r' _ _ hp => Ok.ret ?_
        obtain ⟨p1, p2⟩ := hp
        rw [p2] at p1 ⊢
        simp (disch := omega) only [ur_n, x55, x61, x76, x42]
        exact ⟨p1.mono (by omega) (by omega) (by omega) (by omega), trivial, by omega, by omega, fun h => trivial, trivial, fun k hk => ⟨by simp (disch := omega) only [ur_n]; exact xo 60 k (by omega) hk, xo 61 k (by omega) hk⟩, trivial⟩
    · refine Ok.up ((SameP.rf.ur (by decide) (by decide)).ur (by decide) (by decide)) ((Made.rf.ur (by decide) (by decide) (by decide) (by decide)).ur (by decide) (by decide) (by decide) (by decide)) (Ok.cag (ok_decides ((hb.oth (j := 58) rfl).w53 (v := r 53 0 + 1) (by omega) (by omega)) hD) fun v r' _ _ hp => Ok.ret ?_)
      obtain ⟨p1, p2, p3⟩ := hp
      rw [p2, p3 55 (by omega), p3 60 (by omega), p3 61 (by omega), p3 42 (by omega)]
      simp (disch := omega) only [ur_n, x55, x60, x61, x76, x42]
      exact ⟨p1, trivial, by omega, by omega, fun h => by omega, trivial, fun k hk => ⟨xo 60 k (by omega) hk, xo 61 k (by omega) hk⟩, trivial⟩
  obtain ⟨v, r', e1, e2, e3, e4⟩ := key
  exact ⟨v, r', e1, sx.tr e2, mx.tr e3, e4⟩
