/-! the class's player beside the reference's play: steps that are waited for begin -/
theorem PgR.fr {r r' : Rst} (h : PgR r) (k : ∀ j : Nat, j < 40 ∨ 76 < j → r' j = r j) : PgR r' := by
  unfold PgR
  rw [k 77 (by omega), k 5 (by omega), k 2 (by omega), k 3 (by omega), k 4 (by omega)]
  exact h
theorem PgM.fr {pg r r' : Rst} (h : PgM pg r) (k : ∀ j : Nat, j < 40 ∨ 76 < j → r' j = r j) : PgM pg r' := by
  unfold PgM
  rw [k 77 (by omega), k 5 (by omega), k 2 (by omega), k 3 (by omega), k 4 (by omega)]
  exact h
section SS
variable {pg hs : Rst} {c : Int → Int} {B E n p : Int}
theorem sy_steps {s K l2 f : Int} {x : G2} (cs : Cs c hs) (hn0 : 0 ≤ n) (hn2 : n ≤ 80) (hK : K ≤ 3) (hs0 : 0 ≤ s) : ∀ (m m2 : Nat) (k l3 : Int) (q r : Rst), 0 ≤ k → k ≤ K → 3 - k < m → 0 ≤ l3 → f + k = s + l3 → K - k = l2 + 1 - l3 → 0 ≤ l2 → l2 ≤ 3 → Cm pg hs c B E n p q r → PgR r → PgM pg r → s + l2 < r 5 (r 77 0) → (∀ i, l3 ≤ i → i ≤ l2 → r 2 (12 * r 77 0 + (s + i)) ≤ 3) → q 11 0 = K → r 55 0 = k → SL hs n k q r → DI k (r 56) (r 58) (r 59) → G_waitsAt_44 G_waitsAt_62 m2 s l2 l3 r = some x →
    ∃ q' r1, H_4_beginSteps_97 pg hs m f k q = some (0, q') ∧ G_waitsAt_62 s l2 r1 = some x ∧ Cm pg hs c B E n p q' r1 ∧ SL hs n K q' r1 ∧ DI K (r1 56) (r1 58) (r1 59) ∧ r1 55 0 = K ∧ (∀ j : Nat, j < 20 → q' j = q j) ∧ (∀ j : Nat, j < 51 ∨ j = 54 ∨ j = 64 ∨ 76 < j → r1 j = r j) := by
  intro m
  induction m with
  | zero => intro m2 k l3 q r h0 h1 h2; omega
  | succ m ih =>
    intro m2 k l3 q r h0 h1 h2 h3 h4 h5 h6 h7 hc g pm h8 h9 h10 h11 sl di e
    cases m2 with
    | zero => cases e
    | succ m2 =>
      rw [G_waitsAt_44] at e
      rw [H_4_beginSteps_97]
      have g12 := g.2.2.2.1
      rcases ite_some e with ⟨c0, e⟩ | ⟨c0, e⟩
      · rw [if_t (by omega)]
        have ek : k = K := by omega
        subst ek
        exact ⟨q, r, rfl, e, hc, sl, di, h11, fun _ _ => rfl, fun _ _ => rfl⟩
      · obtain ⟨g1, e⟩ := chk_some e
        obtain ⟨v1, r1, e1, e2⟩ := cag_some e
        obtain ⟨g2, e2⟩ := chk_some e2
        obtain ⟨q1, k1, k2, k3, k4, k5, k6, k7⟩ := sy_waitsFor cs hn0 hn2 hc g pm (by omega) (by omega) (h9 l3 (by omega) (by omega)) sl di h11 h0 (by omega) e1
        have kf : ∀ j : Nat, j < 40 ∨ 76 < j → r1 j = r j := fun j hj => k7 j (by omega)
        obtain ⟨q', r2, d1, d2, d3, d4, d5, d6, d7, d8⟩ := ih m2 (k + 1) (l3 + 1) q1 r1 (by omega) (by omega) (by omega) (by omega) (by omega) (by omega) h6 h7 k2 (g.fr kf) (pm.fr kf) (by rw [kf 5 (by omega), kf 77 (by omega)]; exact h8) (by rw [kf 2 (by omega), kf 77 (by omega)]; exact fun i a b => h9 i (by omega) b) (by rw [k6 11 (by omega)]; exact h10) k5 k3 k4 e2
        rw [if_f (by omega), chk_t (by omega), chk_t (by omega), h4, k1, cag_e, chk_t (by omega)]
        exact ⟨q', r2, d1, d2, d3, d4, d5, d6, fun j hj => (d7 j hj).trans (k6 j hj), fun j hj => (d8 j hj).trans (k7 j hj)⟩
/-- what comes of steps that were begun: waited for, or all over at once -/
def Aft (pg hs : Rst) (c : Int → Int) (B E n : Int) (q r : Rst) : Prop := (Cm pg hs c B E n 0 q r ∧ P1 hs n q r ∧ ∃ k, 0 ≤ k ∧ k < r 55 0 ∧ r 60 k = 0) ∨ (Cm pg hs c B E n 0 q r ∧ P0 q r) ∨ Lag pg hs c B E n 0 q r
theorem sy_after {q r : Rst} {v : Int} {r' : Rst} (hc : Cm pg hs c B E n 0 q r) (hp : P1 hs n q r) (e : cag (G_areDone r) (fun v7 r6 => if v7 = 0 then some (0, r6) else cag (G_finishes r6) fun _ r10 => some (0, r10)) = some (v, r')) : ∃ q', H_4_settle pg hs q = some (0, q') ∧ Aft pg hs c B E n q' r' := by
  obtain ⟨p1, p2, p3, p4, p5, p6, p7, p8, p9, p10, sl, di⟩ := hp
  obtain ⟨u, hu, hu0, hu1⟩ := f_areDone0 (r := r) (fun k a b => by have := (sl k a b).bits; omega) p4
  rw [hu, cag_e] at e
  rcases ite_some e with ⟨c0, e⟩ | ⟨c0, e⟩
  · cases e
    have hx : ∃ k, 0 ≤ k ∧ k < r 55 0 ∧ r 60 k = 0 := by
      by_cases h : ∃ k, 0 ≤ k ∧ k < r 55 0 ∧ r 60 k = 0
      · exact h
      · exfalso
        have : u = 1 := hu1.mpr fun k a b => by
          have := (sl k a b).bits
          have h2 : r 60 k ≠ 0 := fun e => h ⟨k, a, b, e⟩
          omega
        omega
    exact ⟨q, sy_settle0 (pg := pg) ⟨p1, p2, p3, p4, p5, p6, p7, p8, p9, p10, sl, di⟩ hx, Or.inl ⟨hc, ⟨p1, p2, p3, p4, p5, p6, p7, p8, p9, p10, sl, di⟩, hx⟩⟩
  · obtain ⟨v1, r1, e1, e2⟩ := cag_some e
    cases e2
    obtain ⟨q', k1, k2⟩ := sy_settle1 hc ⟨p1, p2, p3, p4, p5, p6, p7, p8, p9, p10, sl, di⟩ (hu1.mp (by omega)) e1
    exact ⟨q', k1, Or.inr k2⟩
theorem sy_waitsAt {s v : Int} {q r r' : Rst} (cs : Cs c hs) (hn0 : 0 ≤ n) (hn2 : n ≤ 80) (hc : Cm pg hs c B E n 0 q r) (g : PgR r) (pm : PgM pg r) (hs0 : 0 ≤ s) (hs1 : s < r 5 (r 77 0)) (hk : r 2 (12 * r 77 0 + s) ≤ 4) (a1 : q 9 0 = s) (a2 : r 40 0 = s) (a3 : r 42 0 = 0) (a4 : q 12 0 = r 45 0) (a5 : q 14 0 = r 47 0) (a6 : q 13 0 = r 46 0) (e : G_waitsAt s r = some (v, r')) :
    ∃ q1 q', H_4_beginSteps pg hs q = some (0, q1) ∧ H_4_settle pg hs q1 = some (0, q') ∧ Aft pg hs c B E n q' r' := by
  have hg := g.k hs0 hs1
  have gs := g.2.2.2.2 s hs0 hs1
  have g12 := g.2.2.2.1
  have pms := pm.2 s hs0 hs1
  have pm0 := pm.1
  unfold G_waitsAt G_waitsAt_0 G_stepAt G_stepAt_0 at e
  rw [chk_t (by omega), chk_t (by omega), cag_e, chk_t (by omega)] at e
  unfold H_4_beginSteps H_4_beginSteps_0
  rw [a1, chk_t (by omega), pms.1]
  have go : ∀ K l2 l3 f, 1 ≤ K → K ≤ 3 → 0 ≤ l3 → f = s + l3 → K = l2 + 1 - l3 → 0 ≤ l2 → l2 ≤ 3 → s + l2 < r 5 (r 77 0) → (∀ i, l3 ≤ i → i ≤ l2 → r 2 (12 * r 77 0 + (s + i)) ≤ 3) → G_waitsAt_44 G_waitsAt_62 fuel9 s l2 l3 (ur r 55 0 0) = some (v, r') →
      ∃ q1 q', H_4_beginSteps_65 pg hs f K q = some (0, q1) ∧ H_4_settle pg hs q1 = some (0, q') ∧ Aft pg hs c B E n q' r' := by
    intro K l2 l3 f b1 b2 b3 b4 b5 b6 b7 b8 b9 e
    unfold H_4_beginSteps_65
    have e11 : ur q 11 0 K 11 0 = K := ur_e rfl rfl
    rw [chk_t (show iR (pg 3 0 - f) by omega), if_f (show ¬ pg 3 0 - f < K by omega), stg_e, e11, chk_t (by omega), stg_e, stg_e]
    have hq : Cm pg hs c B E n 0 (ur (ur (ur q 11 0 K) 10 0 (f + K)) 8 0 1) (ur r 55 0 0) := (((hc.qset (by omega)).qset (by omega)).qset (by omega)).rset (by omega)
    have fr : ∀ j : Nat, j ≠ 55 → ur r 55 0 0 j = r j := fun j hj => ur_ne hj
    obtain ⟨q1, r1, d1, d2, d3, d4, d5, d6, d7, d8⟩ := sy_steps (x := (v, r')) (K := K) (l2 := l2) (f := f) (s := s) cs hn0 hn2 b2 hs0 fuel9 fuel9 0 l3 _ (ur r 55 0 0) (by omega) (by omega) (fuel_big (by omega)) b3 (by omega) (by omega) b6 b7 hq (g.fr fun j hj => fr j (by omega)) (pm.fr fun j hj => fr j (by omega)) (by rw [fr 5 (by omega), fr 77 (by omega)]; exact b8) (by rw [fr 2 (by omega), fr 77 (by omega)]; exact b9) (by simp (disch := omega) only [ur_n, ur_e]) (ur_e rfl rfl) (fun i a b => by omega) (fun i j a b d => by omega) e
    rw [d1]
    unfold G_waitsAt_62 at d2
    obtain ⟨_, d2⟩ := chk_some d2
    obtain ⟨_, d2⟩ := chk_some d2
    have d2 := stg_some d2
    have hp1 : P1 hs n q1 (ur r1 64 0 (s + l2 + 1)) := by
      unfold P1 SL
      rw [d7 8 (by omega), d7 11 (by omega), d7 9 (by omega), d7 10 (by omega), d7 12 (by omega), d7 14 (by omega), d7 13 (by omega)]
      simp (disch := omega) only [ur_n, ur_e, ur_ne]
      rw [d8 42 (by omega), d8 40 (by omega), d8 45 (by omega), d8 47 (by omega), d8 46 (by omega), fr 42 (by omega), fr 40 (by omega), fr 45 (by omega), fr 47 (by omega), fr 46 (by omega), d6]
      refine ⟨trivial, a3, by omega, b2, rfl, by omega, by omega, a4, a5, a6, d4, d5⟩
    obtain ⟨q', k1, k2⟩ := sy_after (d3.rset (j := 64) (by omega)) hp1 d2
    exact ⟨q1, q', rfl, k1, k2⟩
  rcases ite_some e with ⟨c4, e⟩ | ⟨c4, e⟩
  · rw [if_t c4]
    rw [chk_t (by omega), chk_t (by omega), cag_e, chk_t (by omega)] at e
    have g4 := gs.2.2.2.2.2.2.2.2.2.2.1 c4
    unfold G_waitsAt_28 at e
    have e := (ite_some (stg_some e)).resolve_left (fun hh => by omega)
    unfold H_4_beginSteps_21 H_4_beginSteps_39
    rw [if_f (by decide), a1, chk_t (by omega), if_f (by decide), chk_t (by omega), pms.2.1, if_f (by omega)]
    exact go _ _ 1 _ (by omega) (by omega) (by omega) rfl (by omega) (by omega) (by omega) (by omega) (fun i x y => g4.2.2.2 i x y) e.2
  · rw [if_f c4]
    unfold G_waitsAt_28 at e
    have e := (ite_some (stg_some e)).resolve_right (fun hh => by omega)
    unfold H_4_beginSteps_21 H_4_beginSteps_39
    rw [if_t rfl, if_t rfl, a1]
    exact go 1 0 0 s (by omega) (by omega) (by omega) (by omega) (by omega) (by omega) (by omega) (by omega) (fun i x y => by
      have : i = 0 := by omega
      subst this
      rw [Int.add_zero]; omega) e.2
end SS
