/-! the class's player beside the reference's play: a step is gone through -/
section PA
variable {pg hs : Rst} {c : Int → Int} {B E n : Int}
theorem cm_undo {q r : Rst} (h : Cm pg hs c B E n 0 q r) (a b : Int) : Cm pg hs c B E n 0 (ur (ur (ur q 22 (r 71 0 % 80) a) 23 (r 71 0 % 80) b) 15 0 (r 71 0 + 1)) (ur (ur (ur r 69 (r 71 0) a) 70 (r 71 0) b) 71 0 (r 71 0 + 1)) := by
  obtain ⟨a1, a2, a3, a4, a5, ⟨u1, u2, u3, u4⟩, a7, a8⟩ := h
  unfold Cm
  simp (disch := omega) only [ur_ne, ur_n, ur_e]
  refine ⟨a1, a2, a3, a4, a5, ⟨rfl, by omega, by omega, fun t t0 t1 t2 => ?_⟩, a7, a8.same (fun j hj => by rw [ur_ne (by omega), ur_ne (by omega), ur_ne (by omega)]) fun j hj => by rw [ur_ne (by omega), ur_ne (by omega), ur_ne (by omega)]⟩
  by_cases et : t = r 71 0
  · subst et
    simp (disch := omega) only [ur_n, ur_e, and_self]
  · have hm : t % 80 ≠ r 71 0 % 80 := by omega
    simp (disch := omega) only [ur_n]
    exact u4 t t0 (by omega) (by omega)
theorem sy_pass {s v : Int} {q r r' : Rst} (hc : Cm pg hs c B E n 0 q r) (g : PgR r) (pm : PgM pg r) (hs0 : 0 ≤ s) (hs1 : s < r 5 (r 77 0)) (hk : 4 < r 2 (12 * r 77 0 + s)) (hd : q 38 0 = 0) (hr : r 83 0 ≤ 9) (b8 : q 8 0 = 0) (b11 : q 11 0 = 0) (a1 : q 9 0 = s) (a3 : r 42 0 = 0) (b55 : r 55 0 = 0) (a4 : q 12 0 = r 45 0) (a5 : q 14 0 = r 47 0) (e : G_passes s r = some (v, r')) :
    ∃ q1, H_4_goThrough pg hs (r 2 (12 * r 77 0 + s)) (r 3 (12 * r 77 0 + s)) (r 4 (12 * r 77 0 + s)) q = some (0, q1) ∧ ∃ q', H_4_settle pg hs q1 = some (0, q') ∧ Trn pg hs c B E n q' r' := by
  have hg := g.k hs0 hs1
  have gs := g.2.2.2.2 s hs0 hs1
  have g12 := g.2.2.2.1
  have pms := pm.2 s hs0 hs1
  unfold G_passes G_passes_0 G_stepAt G_stepAt_0 at e
  rw [chk_t (by omega), chk_t (by omega), cag_e, chk_t (by omega)] at e
  generalize hx : 12 * r 77 0 + s = x at *
  have e := stg_some e
  rw [chk_t (by omega)] at e
  have hb : Cm pg hs c B E n 0 q (ur r 40 0 (s + 1)) := hc.rset (by omega)
  have y2 : ur r 40 0 (s + 1) 2 = r 2 := ur_ne (by omega)
  have y3 : ur r 40 0 (s + 1) 3 = r 3 := ur_ne (by omega)
  have y4 : ur r 40 0 (s + 1) 4 = r 4 := ur_ne (by omega)
  have y40 : ur r 40 0 (s + 1) 40 0 = s + 1 := ur_e rfl rfl
  have y41 : ur r 40 0 (s + 1) 41 0 = q 2 0 := by rw [ur_n (by omega)]; exact hc.2.1.symm
  have y42 : ur r 40 0 (s + 1) 42 0 = 0 := by rw [ur_n (by omega)]; exact a3
  have y45 : ur r 40 0 (s + 1) 45 0 = q 12 0 := by rw [ur_n (by omega)]; exact a4.symm
  have y47 : ur r 40 0 (s + 1) 47 0 = q 14 0 := by rw [ur_n (by omega)]; exact a5.symm
  have y55 : ur r 40 0 (s + 1) 55 0 = 0 := by rw [ur_n (by omega)]; exact b55
  have y71 : ur r 40 0 (s + 1) 71 0 = r 71 0 := ur_n (by omega)
  have y83 : ur r 40 0 (s + 1) 83 0 = r 83 0 := ur_n (by omega)
  have y76 : ur r 40 0 (s + 1) 76 0 = r 76 0 := ur_n (by omega)
  generalize ur r 40 0 (s + 1) = z at *
  rw [y2, y3, y4] at e
  have u15 := hc.2.2.2.2.2.1
  /- both end at a place -/
  have place : ∀ (q1 r1 : Rst) (w : Int), Cm pg hs c B E n 0 q1 r1 → q1 8 0 = 0 → q1 11 0 = 0 → r1 42 0 = 0 → r1 55 0 = 0 → q1 12 0 = r1 45 0 → q1 14 0 = r1 47 0 → ∃ q', H_4_settle pg hs (ur q1 9 0 w) = some (0, q') ∧ Trn pg hs c B E n q' (ur r1 40 0 w) := fun q1 r1 w h1 h2 h3 h4 h5 h6 h7 => by
    refine Trn.p0 ((h1.qset (by omega)).rset (by omega)) ?_
    unfold P0
    simp (disch := omega) only [ur_n, ur_e]
    exact ⟨h2, h4, h5, h3, trivial, h6, h7⟩
  have place2 : ∀ (q1 r1 : Rst) (w : Int), Cm pg hs c B E n 0 q1 r1 → q1 8 0 = 0 → q1 11 0 = 0 → r1 42 0 = 0 → r1 55 0 = 0 → q1 12 0 = r1 45 0 → q1 14 0 = r1 47 0 → r1 40 0 = w → ∃ q', H_4_settle pg hs (ur q1 9 0 w) = some (0, q') ∧ Trn pg hs c B E n q' r1 := fun q1 r1 w h1 h2 h3 h4 h5 h6 h7 h8 => by
    refine Trn.p0 (h1.qset (by omega)) ?_
    unfold P0
    simp (disch := omega) only [ur_n, ur_e]
    exact ⟨h2, h4, h5, h3, h8.symm, h6, h7⟩
  unfold H_4_goThrough H_4_goThrough_0
  rw [a1, chk_t (by omega)]
  rcases ite_some e with ⟨k5, e⟩ | ⟨k5, e⟩
  · rw [if_t k5]
    rw [chk_t (by omega)] at e
    rcases ite_some e with ⟨d, e⟩ | ⟨d, e⟩
    · have e := stg_some (chk_some e).2
      cases e
      rw [if_t (by omega), stg_e]
      rw [y40, Int.add_zero]
      exact ⟨_, rfl, place q z _ hb b8 b11 y42 y55 y45.symm y47.symm⟩
    · rw [chk_t (by omega)] at e
      have e := stg_some (chk_some e).2
      cases e
      rw [if_f (by omega), chk_t (by omega), stg_e]
      rw [y40]
      exact ⟨_, rfl, place q z _ hb b8 b11 y42 y55 y45.symm y47.symm⟩
  rw [if_f k5]
  rcases ite_some e with ⟨k6, e⟩ | ⟨k6, e⟩
  · rw [if_t k6]
    rw [chk_t (by omega)] at e
    rcases ite_some e with ⟨d, e⟩ | ⟨d, e⟩
    · have e := stg_some e
      cases e
      rw [if_t (by omega), stg_e]
      rw [y40]
      exact ⟨_, rfl, place q z _ hb b8 b11 y42 y55 y45.symm y47.symm⟩
    · rw [chk_t (by omega)] at e
      have e := stg_some (chk_some e).2
      cases e
      rw [if_f (by omega), chk_t (by omega), stg_e]
      exact ⟨_, rfl, place q z _ hb b8 b11 y42 y55 y45.symm y47.symm⟩
  rw [if_f k6]
  rcases ite_some e with ⟨k7, e⟩ | ⟨k7, e⟩
  · rw [if_t k7]
    have e := stg_some (chk_some e).2
    cases e
    unfold H_4_note H_4_note_0
    rw [if_t k7, stg_e, cag_e, stg_e]
    refine ⟨_, rfl, place2 _ _ _ hb.val ?_ ?_ ?_ ?_ ?_ ?_ ?_⟩ <;> simp (disch := omega) only [ur_n, b8, b11, y42, y55, y45, y47, y40]
  rw [if_f k7]
  rcases ite_some e with ⟨k8, e⟩ | ⟨k8, e⟩
  · rw [if_t k8]
    obtain ⟨_, e⟩ := chk_some e
    obtain ⟨gi, e⟩ := chk_some e
    obtain ⟨v1, r1, e1, e2⟩ := cag_some e
    obtain ⟨er, ev⟩ := held_inv e1
    subst er
    rw [y41] at gi ev
    subst ev
    have e2 := stg_some e2
    cases e2
    unfold H_4_note H_4_note_0
    rw [if_f k7, if_t k8, chk_t gi, stg_e, cag_e, stg_e]
    refine ⟨_, rfl, place2 _ _ _ hb.val ?_ ?_ ?_ ?_ ?_ ?_ ?_⟩ <;> simp (disch := omega) only [ur_n, b8, b11, y42, y55, y45, y47, y40]
  rw [if_f k8]
  rcases ite_some e with ⟨k9, e⟩ | ⟨k9, e⟩
  · rw [if_t k9]
    obtain ⟨_, e⟩ := chk_some e
    obtain ⟨_, e⟩ := chk_some e
    obtain ⟨_, e⟩ := chk_some (stg_some e)
    obtain ⟨_, e⟩ := chk_some e
    obtain ⟨gi, e⟩ := chk_some (stg_some e)
    have e := stg_some e
    cases e
    obtain ⟨u1, u2, u3, u4⟩ := u15
    have ez4 : ur z 69 (z 71 0) (r 3 x) 4 x = r 4 x := by rw [ur_n (by omega), y4]
    rw [ez4]
    simp (disch := omega) only [ur_n, y71] at gi
    simp (disch := omega) only [ur_n, y71]
    unfold H_4_note H_4_note_0
    have e15 : ∀ i v, ur q 22 i v 15 0 = r 71 0 := fun i v => by rw [ur_n (by omega)]; exact u1
    have e15b : ∀ i v i2 v2, ur (ur q 22 i v) 23 i2 v2 15 0 = r 71 0 := fun i v i2 v2 => by rw [ur_n (by omega), ur_n (by omega)]; exact u1
    rw [if_f k7, if_f k8, if_t k9, u1, chk_t (by omega), chk_t (by omega), stg_e, e15, chk_t (by omega), chk_t (by omega), stg_e, e15b, chk_t gi, stg_e, cag_e, stg_e]
    have hu := cm_undo hb (r 3 x) (r 4 x)
    rw [y71] at hu
    refine ⟨_, rfl, place2 _ _ _ hu ?_ ?_ ?_ ?_ ?_ ?_ ?_⟩ <;> simp (disch := omega) only [ur_n, b8, b11, y42, y55, y45, y47, y40]
  rw [if_f k9]
  rcases ite_some e with ⟨k10, e⟩ | ⟨k10, e⟩
  · rw [if_t k10]
    obtain ⟨_, e⟩ := chk_some e
    obtain ⟨v1, r1, e1, e2⟩ := cag_some e
    obtain ⟨q1, m1, m2, m3, m4⟩ := sy_mark hb (gs.2.2.2.2.2.2.1 k10).1 (by have := (gs.2.2.2.2.2.2.1 k10).2; omega) hd e1
    rw [m1, cag_e]
    have pp := fun w => place q1 r1 w m2 (by rw [m3 8 (by omega)]; exact b8) (by rw [m3 11 (by omega)]; exact b11) (by rw [m4 42 (by omega)]; exact y42) (by rw [m4 55 (by omega)]; exact y55) (by rw [m3 12 (by omega), m4 45 (by omega)]; exact y45.symm) (by rw [m3 14 (by omega), m4 47 (by omega)]; exact y47.symm)
    rcases ite_some e2 with ⟨d, e2⟩ | ⟨d, e2⟩
    · obtain ⟨_, e2⟩ := chk_some e2
      obtain ⟨gi, e2⟩ := chk_some e2
      have e2 := stg_some e2
      cases e2
      rw [m4 4 (by omega), y4, y40] at gi ⊢
      rw [if_t d, chk_t gi, stg_e]
      exact ⟨_, rfl, pp _⟩
    · obtain ⟨gi, e2⟩ := chk_some e2
      have e2 := stg_some e2
      cases e2
      rw [y40, Int.add_zero]
      rw [if_f d, stg_e]
      exact ⟨_, rfl, pp _⟩
  rw [if_f k10]
  rcases ite_some e with ⟨k11, e⟩ | ⟨k11, e⟩
  · rw [if_t k11]
    unfold H_4_note H_4_note_0
    rw [if_f k7, if_f k8, if_f k9, if_f k10, if_t k11, stg_e, cag_e, stg_e]
    obtain ⟨_, e⟩ := chk_some e
    rcases ite_some e with ⟨d, e⟩ | ⟨d, e⟩
    · have e := stg_some e
      cases e
      rw [y45] at d ⊢
      rw [if_f (by omega)]
      refine ⟨_, rfl, place2 _ _ _ ((hb.qset (by omega)).rset (by omega)) ?_ ?_ ?_ ?_ ?_ ?_ ?_⟩ <;> simp (disch := omega) only [ur_n, ur_e, b8, b11, y42, y55, y45, y47, y40]
    · obtain ⟨_, e⟩ := chk_some e
      have e := stg_some e
      cases e
      rw [y45] at d
      rw [if_t (by omega)]
      refine ⟨_, rfl, place2 _ _ _ ((hb.qset (by omega)).rset (by omega)) ?_ ?_ ?_ ?_ ?_ ?_ ?_⟩ <;> simp (disch := omega) only [ur_n, ur_e, b8, b11, y42, y55, y45, y47, y40]
  rw [if_f k11]
  rcases ite_some e with ⟨k12, e⟩ | ⟨k12, e⟩
  · rw [if_t k12]
    unfold H_4_note H_4_note_0
    rw [if_f k7, if_f k8, if_f k9, if_f k10, if_f k11, if_t k12]
    obtain ⟨_, e⟩ := chk_some e
    obtain ⟨_, e⟩ := chk_some e
    have tell : ∀ w, G_passes_324 w (r 3 x) 14 z = some (v, r') → ∃ q1, H_4_note_148 pg hs w (r 3 x) 14 q = some (0, q1) ∧ ∃ q2, (stg (ur q1 9 0 (s + 1)) fun q59 => some ((0 : Int), q59)) = some ((0 : Int), q2) ∧ ∃ q', H_4_settle pg hs q2 = some (0, q') ∧ Trn pg hs c B E n q' r' := fun w e => by
      unfold G_passes_324 at e
      obtain ⟨v1, r1, e1, e2⟩ := cag_some e
      obtain ⟨hd2, rfl, rfl⟩ := dec_inv e1
      cases e2
      obtain ⟨k1, k2⟩ := cm_put (k := 14) (x := r 3 x) (y := w) hb hd2.2 (by omega)
      unfold H_4_note_148
      rw [k1, cag_e]
      refine ⟨_, rfl, _, rfl, place2 _ _ _ k2 ?_ ?_ ?_ ?_ ?_ ?_ ?_⟩ <;> simp (disch := omega) only [hput_n, gdec_n, b8, b11, y42, y55, y45, y47, y40]
    rcases ite_some e with ⟨d, e⟩ | ⟨d, e⟩
    · rw [y41] at e
      obtain ⟨q1, t1, q2, t2, t3⟩ := tell _ e
      rw [if_t d, t1, cag_e, t2]
      exact ⟨q2, rfl, t3⟩
    · obtain ⟨_, e⟩ := chk_some e
      obtain ⟨q1, t1, q2, t2, t3⟩ := tell _ e
      rw [if_f d, t1, cag_e, t2]
      exact ⟨q2, rfl, t3⟩
  rw [if_f k12]
  rcases ite_some e with ⟨k13, e⟩ | ⟨k13, e⟩
  · rw [if_t k13]
    obtain ⟨_, e⟩ := chk_some e
    obtain ⟨v1, r1, e1, e2⟩ := cag_some e
    cases e2
    have ha := gs.2.2.2.2.2.2.2.2.2.2.2.2.1 k13
    obtain ⟨q', t1, t2⟩ := sy_fails hb (y := r 3 x) (Or.inr ⟨rfl, ha.1⟩) e1
    rw [t1, cag_e]
    exact ⟨_, rfl, Trn.lag t2⟩
  rw [if_f k13]
  rcases ite_some e with ⟨k14, e⟩ | ⟨k14, e⟩
  · rw [if_t k14]
    obtain ⟨v1, r1, e1, e2⟩ := cag_some e
    cases e2
    have e83 : q 7 0 = r 83 0 := hc.2.2.1
    unfold G_againOrFails G_againOrFails_0 at e1
    unfold H_4_goAgain H_4_goAgain_0
    rcases ite_some e1 with ⟨d, e1⟩ | ⟨d, e1⟩
    · obtain ⟨v2, r2, e3, e4⟩ := cag_some e1
      cases e4
      obtain ⟨q', t1, t2⟩ := sy_fails hb (y := 7) (x := 7) (Or.inr ⟨rfl, by omega⟩) e3
      rw [if_t (by omega), t1, cag_e, cag_e]
      exact ⟨_, rfl, Trn.lag t2⟩
    · obtain ⟨v2, r2, e3, e4⟩ := cag_some e1
      cases e4
      rw [y41] at e3
      obtain ⟨q', t1, t2, t3⟩ := sy_ends hb y55 b11 e3
      rw [if_f (by omega), t1, cag_e, cag_e]
      exact ⟨_, rfl, Trn.p4 t2 t3⟩
  rw [if_f k14]
  rcases ite_some e with ⟨k15, e⟩ | ⟨k15, e⟩
  · rw [if_t k15]
    obtain ⟨v2, r2, e3, e4⟩ := cag_some e
    cases e4
    rw [y41] at e3
    obtain ⟨q', t1, t2, t3⟩ := sy_ends hb y55 b11 e3
    rw [t1, cag_e]
    exact ⟨_, rfl, Trn.p4 t2 t3⟩
  · omega
end PA
