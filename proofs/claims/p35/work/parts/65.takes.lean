/-! the class's player beside the reference's play: one event -/
section TK
variable {pg hs : Rst} {c : Int → Int} {B E n p : Int} {q r : Rst}
theorem P1.zset (h : P1 hs n q r) {j : Nat} {i v : Int} (hj : j = 44) : P1 hs n q (ur r j i v) := by
  subst hj
  unfold P1 SL at *
  simp (disch := omega) only [ur_ne, ur_n]
  exact h
theorem P34.fr {r1 : Rst} (h : P3 q r ∨ P4 q r) (fr : ∀ j : Nat, j = 42 ∨ j = 55 ∨ j = 54 ∨ j = 43 ∨ j = 49 ∨ j = 50 ∨ (72 ≤ j ∧ j ≤ 76) → r1 j = r j) : P3 q r1 ∨ P4 q r1 := by
  unfold P3 P4 OV at *
  rw [fr 42 (by omega), fr 55 (by omega), fr 54 (by omega), fr 43 (by omega), fr 49 (by omega), fr 50 (by omega), fr 72 (by omega), fr 73 (by omega), fr 74 (by omega), fr 76 (by omega)]
  exact h
theorem P34.m (h : P3 q r ∨ P4 q r) : (q 8 0 = 3 ∨ q 8 0 = 4) ∧ q 11 0 = 0 ∧ r 42 0 ≠ 0 ∧ r 55 0 = 0 := by
  rcases h with ⟨a1, a2, a3, a4, a5⟩ | ⟨a1, a2, a3, a4, a5⟩
  · exact ⟨Or.inl a1, a4, by omega, a3⟩
  · exact ⟨Or.inr a1, a4, by omega, a3⟩
theorem sy_takes {D T U S x y v : Int} {r' : Rst} (cs : Cs c hs) (hf : Hf hs E) (hn : 1 ≤ n) (hnE : n < E) (hn8 : n < 80) (hx : hs 1 n = x) (hy : hs 2 n = y) (hk : hs 0 n < 7) (bx : -100000 ≤ x ∧ x ≤ 100000) (bY : -100000 ≤ y ∧ y ≤ 100000) (h : Pe pg hs c B E n q r) (h38 : q 38 0 = 0) (hb : Bd D T U S r) (g : PgR r) (pt : Pt r) (pm : PgM pg r) (hr : r 83 0 ≤ 9) (hD : D + 72 ≤ 5200) (hU : U + 61 ≤ 5200) (hT : T ≤ 50000) (hS : S < 80) (e : G_takes (hs 0 n) x y r = some (v, r')) :
    ∃ q1 q', H_4_hear pg hs (hs 0 n) x y (ur q 18 0 (n + 1)) = some (0, q1) ∧ H_4_goOn pg hs q1 = some (0, q') ∧ Pe pg hs c B E (n + 1) q' r' := by
  have hz : Bd D T U S (ur r 44 0 0) := ⟨hb.1.o44, hb.2.same fun j hj => ur_ne (by omega)⟩
  have z44 : ur r 44 0 0 44 0 = 0 := ur_e rfl rfl
  have q1 : SameQ r (ur r 44 0 0) := SameQ.rf.ur (by omega) (by omega)
  have g1 := g.sameQ q1
  have pt1 := pt.sameQ q1
  have pm1 : PgM pg (ur r 44 0 0) := pm.fr q1
  have hr1 : ur r 44 0 0 83 0 ≤ 9 := by rw [q1 83 (by omega)]; exact hr
  have h1 : (Cm pg hs c B E n 0 q (ur r 44 0 0) ∧ P1 hs n q (ur r 44 0 0)) ∨ ∃ p, p ≤ n ∧ Cm pg hs c B E n p q (ur r 44 0 0) ∧ (P3 q (ur r 44 0 0) ∨ P4 q (ur r 44 0 0)) := by
    rcases h with ⟨_, ⟨a1, a2, _⟩ | ⟨p, a0, a1, a2⟩⟩ | ⟨a, _⟩
    · exact Or.inl ⟨a1.rset (by omega), a2.zset rfl⟩
    · exact Or.inr ⟨p, a0, a1.rset (by omega), P34.fr a2 fun j hj => ur_ne (by omega)⟩
    · omega
  have k0 := hf.2.2.2.2 n (by omega) hnE
  have kn0 := hf.1 n (by omega) hnE
  unfold G_takes G_takes_0 at e
  have e := stg_some e
  generalize ur r 44 0 0 = z at *
  have fin : ∀ q1 r1 D1 T1 S1, Hd pg hs c B E (n + 1) q1 r1 → SameP z r1 → Bd D1 T1 U S1 r1 → D1 ≤ D + 7 → T1 ≤ T + 1 → S1 ≤ S + 1 → G_takes_117 r1 = some (v, r') → ∃ q', H_4_goOn pg hs q1 = some (0, q') ∧ Pe pg hs c B E (n + 1) q' r' := fun q1 r1 D1 T1 S1 hh hs1 hb1 d1 d2 d3 e =>
    sy_tail cs (by omega) (by omega) hb1 (by rw [hs1 44 (by omega)]; exact z44) (g1.same hs1) (pt1.same hs1) (pm1.fr fun j hj => hs1 j (by omega)) (by rw [hs1 83 (by omega)]; exact hr1) (by omega) hU (by omega) (by omega) hh e
  rw [if_f kn0] at e
  unfold H_4_hear H_4_hear_0
  rw [if_f kn0]
  by_cases k4 : hs 0 n = 4
  · rw [if_t k4] at e
    obtain ⟨v1, r1, e1, e2⟩ := cag_some e
    rw [if_f (by omega), if_f (by omega), if_f (by omega), if_t k4]
    obtain ⟨v2, r2, o1, o2, o3, o4⟩ := ok_takesSignal (x := x) (y := y) hz bx.1 bx.2 bY.1 bY.2 hS (by omega)
    rw [o1] at e1
    cases e1
    rcases h1 with ⟨hc, hp⟩ | ⟨p, hp0, hc, hp⟩
    · obtain ⟨q1, t1, t2, t3⟩ := ov_signal cs hf (by omega) hnE hn8 hc hp k4 hx hy o1
      rw [t1, cag_e]
      obtain ⟨q', w1, w2⟩ := fin q1 r1 _ _ _ (Or.inl ⟨t2, Or.inl t3⟩) o2 o4 (by omega) (by omega) (by omega) e2
      exact ⟨q1, q', rfl, w1, w2⟩
    · have m := P34.m hp
      obtain ⟨t1, t2, t3⟩ := ov_signal0 cs (by omega) hn8 hc m.2.1 m.2.2.1 k4 hx hy o1
      rw [t1, cag_e]
      obtain ⟨q', w1, w2⟩ := fin _ r1 _ _ _ (Or.inr (Or.inl ⟨p, by omega, t2, by rw [t3]; exact P34.heard (P34.fr hp fun j hj => psh_n (by omega))⟩)) o2 o4 (by omega) (by omega) (by omega) e2
      exact ⟨_, q', rfl, w1, w2⟩
  rw [if_f k4] at e
  by_cases k6 : hs 0 n = 6
  · rw [if_t k6] at e
    have e := stg_some e
    rw [if_f (by omega), if_f (by omega), if_f (by omega), if_f k4, if_f (by omega), if_t k6]
    have hz2 : Bd D T U S (ur z 47 0 1) := ⟨hz.1.oth (j := 47) rfl, hz.2.same fun j hj => ur_ne (by omega)⟩
    have s2 : SameP z (ur z 47 0 1) := SameP.rf.ur (by decide) (by decide)
    unfold H_4_hearCancel H_4_hearCancel_0
    have z42 : ur z 47 0 1 42 0 = z 42 0 := ur_n (by omega)
    have z55 : ur z 47 0 1 55 0 = z 55 0 := ur_n (by omega)
    have z46 : ur z 47 0 1 46 0 = z 46 0 := ur_n (by omega)
    rw [z42, z55, z46] at e
    rcases h1 with ⟨hc, hp⟩ | ⟨p, hp0, hc, hp⟩
    · have q8 : ur q 18 0 (n + 1) 8 0 = 1 := by rw [ur_n (by omega)]; exact hp.1
      have q13 : ur (ur q 18 0 (n + 1)) 14 0 1 13 0 = z 46 0 := by rw [ur_n (by omega), ur_n (by omega)]; exact hp.2.2.2.2.2.2.2.2.2.1
      have hc2 : Cm pg hs c B E (n + 1) 0 (ur (ur q 18 0 (n + 1)) 14 0 1) (ur z 47 0 1) := ((hc.heard cs (by omega) k4).qset (by omega)).rset (by omega)
      have hp2 : P1 hs (n + 1) (ur (ur q 18 0 (n + 1)) 14 0 1) (ur z 47 0 1) := by
        have := hp.heard
        unfold P1 SL at this ⊢
        simp (disch := omega) only [ur_ne, ur_n, ur_e] at this ⊢
        obtain ⟨a1, a2, a3, a4, a5, a6, a7, a8, a9, a10⟩ := this
        exact ⟨a1, a2, a3, a4, a5, a6, a7, a8, trivial, a10⟩
      rw [if_t hp.2.1, if_f (by have := hp.2.2.1; omega)] at e
      rw [if_t q8, stg_e, q13]
      rcases ite_some e with ⟨c1, e⟩ | ⟨c1, e⟩
      · obtain ⟨v1, r1, e1, e2⟩ := cag_some e
        obtain ⟨v2, r2, o1, o2, o3, o4⟩ := ok_cuts hz2.1 (by omega) (by omega) (by omega)
        rw [o1] at e1
        cases e1
        obtain ⟨q1, t1, t2⟩ := sy_cut hc2 hp2 o1
        rw [if_t c1, t1, cag_e, cag_e]
        obtain ⟨q', w1, w2⟩ := fin q1 r1 _ _ _ (Or.inr (Or.inr ⟨0, by omega, by omega, t2⟩)) (s2.tr o2) o4.1 (by omega) (by omega) (by omega) e2
        exact ⟨q1, q', rfl, w1, w2⟩
      · rw [if_f c1, cag_e]
        obtain ⟨q', w1, w2⟩ := fin _ _ _ _ _ (Or.inl ⟨hc2, Or.inl hp2⟩) s2 hz2 (by omega) (by omega) (by omega) e
        exact ⟨_, q', rfl, w1, w2⟩
    · have m := P34.m hp
      have q8 : ¬ ur q 18 0 (n + 1) 8 0 = 1 := by rw [ur_n (by omega)]; omega
      rw [if_f m.2.2.1] at e
      rw [if_f q8, cag_e]
      obtain ⟨q', w1, w2⟩ := fin _ _ _ _ _ (Or.inr (Or.inl ⟨p, by omega, (hc.heard cs (by omega) k4).rset (by omega), P34.heard (P34.fr hp fun j hj => ur_ne (by omega))⟩)) s2 hz2 (by omega) (by omega) (by omega) e
      exact ⟨_, q', rfl, w1, w2⟩
  rw [if_f k6] at e
  /- nothing becomes of it -/
  have nil : ∀ p, p ≤ n → Cm pg hs c B E n p q z → (P3 q z ∨ P4 q z) → G_takes_117 z = some (v, r') → ∃ q', H_4_goOn pg hs (ur q 18 0 (n + 1)) = some (0, q') ∧ Pe pg hs c B E (n + 1) q' r' := fun p hp0 hc hp e =>
    fin _ _ _ _ _ (Or.inr (Or.inl ⟨p, by omega, hc.heard cs (by omega) k4, P34.heard hp⟩)) SameP.rf hz (by omega) (by omega) (by omega) e
  have q11n : (P3 q z ∨ P4 q z) → ur q 18 0 (n + 1) 11 0 = 0 := fun hp => by rw [ur_n (by omega)]; exact (P34.m hp).2.1
  by_cases k12 : hs 0 n = 1 ∨ hs 0 n = 2
  · have e' : (if z 42 0 = 1 then G_takes_88 (hs 0 n) x y z else G_takes_103 (hs 0 n) x y z) = some (v, r') := by
      rcases k12 with k | k
      · rw [if_t k] at e; exact e
      · rw [if_f (show ¬ hs 0 n = 1 by omega), if_t k] at e; exact e
    have hcl : (∃ l, (hs 0 n = 1 ∧ l = 0 ∨ hs 0 n = 2 ∧ l = 1) ∧ ∀ q0 : Rst, (if hs 0 n = 1 then (if hs 0 n = 2 then H_4_hear_65 pg hs 1 y x q0 else H_4_hear_65 pg hs 0 y x q0) else if hs 0 n = 2 then (if hs 0 n = 2 then H_4_hear_65 pg hs 1 y x q0 else H_4_hear_65 pg hs 0 y x q0) else if hs 0 n = 3 then (cag (H_4_hearTimer pg hs x q0) fun _ q4 => some (0, q4)) else if hs 0 n = 4 then (cag (H_4_hearSignal pg hs x y q0) fun _ q8 => some (0, q8)) else if hs 0 n = 5 then (cag (H_4_hearChild pg hs x y q0) fun _ q12 => some (0, q12)) else if hs 0 n = 6 then (cag (H_4_hearCancel pg hs q0) fun _ q16 => some (0, q16)) else some (0, q0)) = cag (H_4_hearActivity pg hs x y l q0) fun _ q1 => some (0, q1)) := by
      rcases k12 with k | k
      · exact ⟨0, Or.inl ⟨k, rfl⟩, fun q0 => by rw [if_t k, if_f (by omega)]; rfl⟩
      · exact ⟨1, Or.inr ⟨k, rfl⟩, fun q0 => by rw [if_f (by omega), if_t k, if_t k]; rfl⟩
    obtain ⟨l, hl, hcl⟩ := hcl
    rw [hcl]
    rcases h1 with ⟨hc, hp⟩ | ⟨p, hp0, hc, hp⟩
    · rw [if_f (by have := hp.2.1; omega)] at e'
      unfold G_takes_103 at e'
      rw [if_t hp.2.1] at e'
      obtain ⟨v1, r1, e1, e2⟩ := cag_some e'
      obtain ⟨v2, r2, o1, o2, o3, o4⟩ := ok_takesOver (its := hs 0 n) (x := x) (y := y) hz bY.1 bY.2
      rw [o1] at e1
      cases e1
      obtain ⟨q1, t1, t2, t3⟩ := ov_act cs hf (by omega) hnE hc hp hl hx o1
      rw [t1, cag_e]
      obtain ⟨q', w1, w2⟩ := fin q1 r1 _ _ _ (Or.inl ⟨t2, Or.inl t3⟩) o2 o4 (by omega) (by omega) (by omega) e2
      exact ⟨q1, q', rfl, w1, w2⟩
    · have m := P34.m hp
      have hno : ∀ q0 : Rst, q0 11 0 = 0 → H_4_hearActivity_24 pg hs fuel9 x y l 0 q0 = some (0, q0) := fun q0 h0 => ha_none (by omega) fuel9 0 (by omega) (by omega) (fuel_big (by omega)) fun i a b => by omega
      unfold H_4_hearActivity H_4_hearActivity_0
      have q8 : ur q 18 0 (n + 1) 8 0 = q 8 0 := ur_n (by omega)
      have q16 : ur q 18 0 (n + 1) 16 0 = q 16 0 := ur_n (by omega)
      have h103 : G_takes_103 (hs 0 n) x y z = some (v, r') → G_takes_117 z = some (v, r') := fun e => by
        unfold G_takes_103 at e
        rw [if_f m.2.2.1] at e
        exact e
      rw [q8, q16]
      rcases hp with hp | hp
      · rw [if_t hp.2.1] at e'
        unfold G_takes_88 at e'
        rw [if_t hp.1]
        have e16 := hp.2.2.2.2.1
        rcases ite_some e' with ⟨c1, e'⟩ | ⟨c1, e'⟩
        · obtain ⟨v1, r1, e1, e2⟩ := cag_some e'
          obtain ⟨v2, r2, o1, o2, o3, o4⟩ := ok_undoesNext hz.1 hp.2.2.1 hp.2.1 (hz.2.2.2.2.2.1 hp.2.1) (by omega) (by omega) (by omega)
          rw [o1] at e1
          cases e1
          rw [if_t (by omega), stg_e, hno _ (by rw [ur_n (by omega)]; exact q11n (Or.inl hp)), cag_e]
          obtain ⟨q', w1, w2⟩ := fin (ur (ur q 18 0 (n + 1)) 8 0 2) r1 _ _ _ (Or.inr (Or.inr ⟨p, by omega, by omega, z, v1, (hc.heard cs (by omega) k4).qset (by omega), ⟨ur_e rfl rfl, hp.2.1, hp.2.2.1, by rw [ur_n (by omega)]; exact q11n (Or.inl hp), by rw [ur_n (by omega), ur_n (by omega)]; exact hp.2.2.2.2.2⟩, o1⟩)) o2 o4.1 (by omega) (by omega) (by omega) e2
          exact ⟨_, q', rfl, w1, w2⟩
        · rw [if_f (by omega), hno _ (q11n (Or.inl hp)), cag_e]
          obtain ⟨q', w1, w2⟩ := nil p hp0 hc (Or.inl hp) (h103 e')
          exact ⟨_, q', rfl, w1, w2⟩
      · rw [if_f (by have := hp.2.1; omega)] at e'
        rw [if_f (by have := hp.1; omega), hno _ (q11n (Or.inr hp)), cag_e]
        obtain ⟨q', w1, w2⟩ := nil p hp0 hc (Or.inr hp) (h103 e')
        exact ⟨_, q', rfl, w1, w2⟩
  · have k35 : hs 0 n = 3 ∨ hs 0 n = 5 := by omega
    have e' : G_takes_103 (hs 0 n) x y z = some (v, r') := by
      rcases ite_some e with ⟨_, e⟩ | ⟨_, e⟩
      · rw [if_f (by omega), if_f (by omega)] at e; exact e
      · exact e
    rw [if_f (by omega), if_f (by omega)]
    unfold G_takes_103 at e'
    rcases h1 with ⟨hc, hp⟩ | ⟨p, hp0, hc, hp⟩
    · rw [if_t hp.2.1] at e'
      obtain ⟨v1, r1, e1, e2⟩ := cag_some e'
      obtain ⟨v2, r2, o1, o2, o3, o4⟩ := ok_takesOver (its := hs 0 n) (x := x) (y := y) hz bY.1 bY.2
      rw [o1] at e1
      cases e1
      rcases k35 with k | k
      · obtain ⟨q1, t1, t2, t3⟩ := ov_timer cs hf (by omega) hnE hc hp k hx o1
        rw [if_t k, t1, cag_e]
        obtain ⟨q', w1, w2⟩ := fin q1 r1 _ _ _ (Or.inl ⟨t2, Or.inl t3⟩) o2 o4 (by omega) (by omega) (by omega) e2
        exact ⟨q1, q', rfl, w1, w2⟩
      · obtain ⟨q1, t1, t2, t3⟩ := ov_child cs hf (by omega) hnE hc hp k hx o1
        rw [if_f (by omega), if_f k4, if_t k, t1, cag_e]
        obtain ⟨q', w1, w2⟩ := fin q1 r1 _ _ _ (Or.inl ⟨t2, Or.inl t3⟩) o2 o4 (by omega) (by omega) (by omega) e2
        exact ⟨q1, q', rfl, w1, w2⟩
    · have m := P34.m hp
      rw [if_f m.2.2.1] at e'
      obtain ⟨q', w1, w2⟩ := nil p hp0 hc hp e'
      have q11 := q11n hp
      rcases k35 with k | k
      · unfold H_4_hearTimer H_4_hearTimer_0
        rw [if_t k, ht_none (by omega) fuel9 0 (by omega) (by omega) (fuel_big (by omega)) (fun i a b => by omega), cag_e]
        exact ⟨_, q', rfl, w1, w2⟩
      · unfold H_4_hearChild H_4_hearChild_0
        rw [if_f (by omega), if_f k4, if_t k, hc_none (by omega) fuel9 0 (by omega) (by omega) (fuel_big (by omega)) (fun i a b => by omega), cag_e]
        exact ⟨_, q', rfl, w1, w2⟩
end TK
