/-! the class's player beside the reference's play: its phases, and backing out -/
theorem cag_some {o : Option G2} {k : Int → Rst → Option G2} {x : G2} (h : cag o k = some x) : ∃ v r1, o = some (v, r1) ∧ k v r1 = some x := by
  unfold cag at h
  split at h
  · rename_i v r1
    exact ⟨v, r1, rfl, h⟩
  · cases h
theorem stg_some {r : Rst} {k : Rst → Option G2} {x : G2} (h : stg r k = some x) : k r = some x := h
def FL (f n : Int) : Prop := (n = -1 ∧ f = 0) ∨ (n = f ∧ 1 ≤ f)
/-- one place among those that are waited for: the class's eight numbers, the reference's eight -/
def Sl1 (hs : Rst) (n a1 t1 d1 : Int) (k ac ti ch wh re ov lo kd sg fo tm dn ls rs hr : Int) : Prop :=
  k = kd ∧ (0 ≤ kd ∧ kd ≤ 3) ∧ (kd = 0 → ac = fo ∧ 0 ≤ fo ∧ fo < a1) ∧ (kd ≠ 0 → ac = -1) ∧ (kd = 3 → ch = fo ∧ 0 ≤ fo ∧ fo < d1) ∧ (kd ≠ 3 → ch = -1) ∧ (ti = tm ∧ -1 ≤ tm ∧ tm < t1 ∧ (0 ≤ tm → kd = 1 ∨ kd = 2)) ∧ (kd = 2 → wh = sg) ∧ (kd ≠ 2 → wh = -1) ∧ ov = dn ∧ lo = ls ∧ (dn = 0 ∨ dn = 1) ∧ (ls = 0 ∨ ls = 1) ∧ (hr = 0 ∨ hr = 1) ∧
  (dn = 1 → (hr = 1 ∧ ls = 0 ∧ kd ≠ 1 ∧ re = rs) ∨ (hr = 0 ∧ (ls = 1 ∨ kd = 1))) ∧ (dn = 0 → hr = 0 ∧ ls = 0) ∧
  (kd = 0 → dn = 1 → ∃ e, 0 ≤ e ∧ e < n ∧ (hs 0 e = 1 ∨ hs 0 e = 2) ∧ hs 1 e = fo) ∧ (kd = 3 → dn = 1 → ∃ e, 0 ≤ e ∧ e < n ∧ hs 0 e = 5 ∧ hs 1 e = fo)
/-- the places that are waited for, up to one -/
def SL (hs : Rst) (n k : Int) (q r : Rst) : Prop := ∀ i, 0 ≤ i → i < k → Sl1 hs n (r 51 0) (r 52 0) (r 53 0) (q 50 i) (q 51 i) (q 52 i) (q 53 i) (q 54 i) (q 55 i) (q 56 i) (q 57 i) (r 56 i) (r 57 i) (r 58 i) (r 59 i) (r 60 i) (r 61 i) (r 62 i) (r 63 i)
/-- their numbers grow -/
def DI (k : Int) (kd fo tm : Int → Int) : Prop := ∀ i j, 0 ≤ i → i < j → j < k → (kd i = 0 → kd j = 0 → fo i < fo j) ∧ (kd i = 3 → kd j = 3 → fo i < fo j) ∧ (0 ≤ tm i → 0 ≤ tm j → tm i < tm j)
/-- what is decided last is that it is over -/
def OV (r : Rst) : Prop := 0 < r 76 0 ∧ r 72 (r 76 0 - 1) = 16 ∧ r 73 (r 76 0 - 1) = r 49 0 ∧ r 74 (r 76 0 - 1) = r 50 0
def P0 (q r : Rst) : Prop := q 8 0 = 0 ∧ r 42 0 = 0 ∧ r 55 0 = 0 ∧ q 11 0 = 0 ∧ q 9 0 = r 40 0 ∧ q 12 0 = r 45 0 ∧ q 14 0 = r 47 0
def P1 (hs : Rst) (n : Int) (q r : Rst) : Prop := q 8 0 = 1 ∧ r 42 0 = 0 ∧ 0 < r 55 0 ∧ r 55 0 ≤ 3 ∧ q 11 0 = r 55 0 ∧ q 9 0 = r 40 0 ∧ q 10 0 = r 64 0 ∧ q 12 0 = r 45 0 ∧ q 14 0 = r 47 0 ∧ q 13 0 = r 46 0 ∧ SL hs n (r 55 0) q r ∧ DI (r 55 0) (r 56) (r 58) (r 59)
def P2 (q r : Rst) : Prop := q 8 0 = 2 ∧ r 42 0 = 1 ∧ r 55 0 = 0 ∧ q 11 0 = 0 ∧ FL (q 17 0) (r 43 0)
def P3 (q r : Rst) : Prop := q 8 0 = 3 ∧ r 42 0 = 1 ∧ r 55 0 = 0 ∧ q 11 0 = 0 ∧ q 16 0 = r 54 0 ∧ FL (q 17 0) (r 43 0)
def P4 (q r : Rst) : Prop := q 8 0 = 4 ∧ r 42 0 = 2 ∧ r 55 0 = 0 ∧ q 11 0 = 0 ∧ OV r
section PH
variable {pg hs : Rst} {c : Int → Int} {B E n p : Int} {q r : Rst}
theorem Cm.d76 (h : Cm pg hs c B E n p q r) : 0 ≤ r 76 0 := h.2.2.2.2.2.2.2.q40.2.1
/-- the run is over, on both sides -/
theorem sy_ends {x y v : Int} {r' : Rst} (h : Cm pg hs c B E n p q r) (hw : r 55 0 = 0) (hs0 : q 11 0 = 0) (e : G_ends x y r = some (v, r')) : ∃ q', H_4_finish pg hs x y q = some (0, q') ∧ Cm pg hs c B E n p q' r' ∧ P4 q' r' := by
  unfold G_ends G_ends_0 at e
  obtain ⟨v1, r1, e1, e2⟩ := cag_some (stg_some (stg_some (stg_some e)))
  obtain ⟨hc, rfl, rfl⟩ := dec_inv e1
  cases e2
  have h1 := ((h.rset (j := 42) (i := 0) (v := 2) (by omega)).rset (j := 49) (i := 0) (v := x) (by omega)).rset (j := 50) (i := 0) (v := y) (by omega)
  have e76 : ur (ur (ur r 42 0 2) 49 0 x) 50 0 y 76 0 = r 76 0 := by simp (disch := omega) only [ur_n]
  obtain ⟨k1, k2⟩ := cm_put (k := 16) (x := x) (y := y) h1 hc.2 (by omega)
  refine ⟨ur (hput hs 16 x y q) 8 0 4, ?_, k2.qset (by omega), ?_⟩
  · unfold H_4_finish H_4_finish_0
    rw [k1, cag_e, stg_e]
  · unfold P4 OV
    have ev := gdec_v (k := 16) (x := x) (y := y) (a := ur (ur (ur r 42 0 2) 49 0 x) 50 0 y 76 0) (r := ur (ur (ur r 42 0 2) 49 0 x) 50 0 y)
    rw [if_t rfl, if_t rfl, if_t rfl] at ev
    have h76 := h.d76
    rw [gdec_76, Int.add_sub_cancel, ev.1, ev.2.1, ev.2.2]
    simp (disch := omega) only [ur_n, ur_e, ur_ne, gdec_n, hput_n]
    exact ⟨trivial, trivial, hw, hs0, by omega, trivial, trivial, trivial⟩
/-- the next one is undone, on both sides -/
theorem sy_undo {v : Int} {r' : Rst} (h : Cm pg hs c B E n p q r) (hp : P2 q r) (hp2 : p < 80) (e : G_undoesNext r = some (v, r')) : ∃ q', H_4_undoNext pg hs q = some (0, q') ∧ Cm pg hs c B E n (p + 1) q' r' ∧ (P3 q' r' ∨ P4 q' r') := by
  obtain ⟨p1, p2, p3, p4, p5⟩ := hp
  have hu := h.2.2.2.2.2.1
  obtain ⟨u1, u2, u3, u4⟩ := hu
  have up : ∀ q' r', Cm pg hs c B E n p q' r' → Cm pg hs c B E n (p + 1) q' r' := fun q' r' h => by
    obtain ⟨h1, h2, h3, h4, h5, ⟨h6, h7, h8, h9⟩, h10⟩ := h
    exact ⟨h1, h2, h3, h4, h5, ⟨h6, h7, by omega, fun t a b d => h9 t a (by omega) d⟩, h10⟩
  unfold G_undoesNext G_undoesNext_0 at e
  unfold H_4_undoNext H_4_undoNext_0
  rcases ite_some e with ⟨c1, e⟩ | ⟨c1, e⟩
  · rw [if_t (by omega)]
    rcases ite_some e with ⟨c2, e⟩ | ⟨c2, e⟩
    · obtain ⟨v1, r1, e1, e2⟩ := cag_some e
      cases e2
      obtain ⟨q', k1, k2, k3⟩ := sy_ends h p3 p4 e1
      rw [if_t (by unfold FL at p5; omega), k1, cag_e]
      exact ⟨q', rfl, up _ _ k2, Or.inr k3⟩
    · obtain ⟨v1, r1, e1, e2⟩ := cag_some e
      cases e2
      have e43 : r 43 0 = q 17 0 := by unfold FL at p5; omega
      rw [e43] at e1
      obtain ⟨q', k1, k2, k3⟩ := sy_ends h p3 p4 e1
      rw [if_f (by unfold FL at p5; omega), k1, cag_e]
      exact ⟨q', rfl, up _ _ k2, Or.inr k3⟩
  · rw [if_f (by omega)]
    obtain ⟨g1, e⟩ := chk_some e
    obtain ⟨g2, e⟩ := chk_some (stg_some (stg_some e))
    obtain ⟨g3, e⟩ := chk_some (stg_some e)
    obtain ⟨g4, e⟩ := chk_some e
    obtain ⟨v1, r1, e1, e2⟩ := cag_some e
    obtain ⟨hc, rfl, rfl⟩ := dec_inv e1
    cases e2
    have t := u4 (r 71 0 - 1) (by omega) (by omega) (by omega)
    simp (disch := omega) only [ur_n, ur_e] at g2 hc
    simp (disch := omega) only [ur_n, ur_e]
    rw [← u1] at t
    obtain ⟨t2, t3⟩ := t
    rw [← u1]
    rw [chk_t (by omega), stg_e]
    simp (disch := omega) only [chk_t, stg_e, ur_n, ur_e]
    rw [← t2, ← t3]
    /- both sides, one undo less -/
    have hb : Cm pg hs c B E n (p + 1) (ur q 15 0 (q 15 0 - 1)) (ur r 71 0 (q 15 0 - 1)) := by
      obtain ⟨h1, h2, h3, h4, h5, h6, h7, h8⟩ := h
      unfold Cm
      simp (disch := omega) only [ur_ne, ur_n, ur_e]
      exact ⟨h1, h2, h3, h4, h5, ⟨rfl, by omega, by omega, fun t a b d => u4 t a (by omega) (by omega)⟩, h7, h8.same (fun j hj => ur_ne (by omega)) fun j hj => ur_ne (by omega)⟩
    have hb2 := (hb.qset (j := 16) (i := 0) (v := q 34 0) (by omega)).rset (j := 54) (i := 0) (v := r 51 0) (by omega)
    obtain ⟨k1, k2⟩ := cm_put51 (k := 15) (x := q 22 ((q 15 0 - 1) % 80)) (y := q 23 ((q 15 0 - 1) % 80)) hb2 (by simp (disch := omega) only [ur_n]; exact hc.2) (by omega) (by simp (disch := omega) only [ur_n]; exact g2)
    rw [k1, cag_e]
    refine ⟨_, rfl, ?_, Or.inl ?_⟩
    · have e51 : (ur (ur r 71 0 (q 15 0 - 1)) 54 0 (r 51 0)) 51 0 = r 51 0 := by simp (disch := omega) only [ur_n]
      rw [e51] at k2
      exact k2.qset (by omega)
    · have ct := h.2.2.2.2.2.2.1.1.1
      unfold P3
      simp (disch := omega) only [ur_n, ur_e, ur_ne, gdec_n, hput_n]
      exact ⟨trivial, p2, p3, p4, ct, p5⟩
/-- backing out: the class is one turn behind -/
def Lag (pg hs : Rst) (c : Int → Int) (B E n p : Int) (q r : Rst) : Prop := ∃ r1 v, Cm pg hs c B E n p q r1 ∧ P2 q r1 ∧ G_undoesNext r1 = some (v, r)
theorem sy_fails {x y v : Int} {r' : Rst} (h : Cm pg hs c B E n p q r) (hx : FL y x) (e : G_fails x r = some (v, r')) : ∃ q', H_4_backOut pg hs y q = some (0, q') ∧ Lag pg hs c B E n p q' r' := by
  unfold G_fails G_fails_0 at e
  obtain ⟨v1, r1, e1, e2⟩ := cag_some (stg_some (stg_some (stg_some e)))
  cases e2
  refine ⟨ur (ur (ur q 17 0 y) 11 0 0) 8 0 2, rfl, _, v1, ?_, ?_, e1⟩
  · exact (((((h.rset (j := 42) (by omega)).rset (j := 43) (by omega)).rset (j := 55) (by omega)).qset (j := 17) (by omega)).qset (j := 11) (by omega)).qset (j := 8) (by omega)
  · unfold P2
    simp (disch := omega) only [ur_n, ur_e]
    exact ⟨trivial, trivial, trivial, trivial, hx⟩
end PH
