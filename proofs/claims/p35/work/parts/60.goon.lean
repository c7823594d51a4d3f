/-! the class's player beside the reference's play: going on -/
section GO
variable {pg hs : Rst} {c : Int → Int} {B E n p : Int}
theorem Ds.q38 {q r : Rst} (h : Ds hs B E q r) : q 38 0 = 0 ∨ q 38 0 = 1 ∧ Mis r := by
  rcases h.2 with ⟨a1, a2, a3, a4, a5, a6, a7, a8, a9, h⟩ | ⟨a1, a2, a3, a4, a5, a6, h⟩
  · rcases h with h | h
    · exact Or.inl h.1
    · exact Or.inr h
  · exact Or.inl a3
/-- how it is between events -/
def Pe (pg hs : Rst) (c : Int → Int) (B E n : Int) (q r : Rst) : Prop := (q 38 0 = 0 ∧ ((Cm pg hs c B E n 0 q r ∧ P1 hs n q r ∧ ∃ k, 0 ≤ k ∧ k < r 55 0 ∧ r 60 k = 0) ∨ ∃ p, p ≤ n ∧ Cm pg hs c B E n p q r ∧ (P3 q r ∨ P4 q r))) ∨ (q 38 0 = 1 ∧ Mis r)
theorem Pe.p1 {q r : Rst} (h : Cm pg hs c B E n 0 q r) (hp : P1 hs n q r) (hx : ∃ k, 0 ≤ k ∧ k < r 55 0 ∧ r 60 k = 0) : Pe pg hs c B E n q r := by
  rcases h.2.2.2.2.2.2.2.q38 with a | a
  · exact Or.inl ⟨a, Or.inl ⟨h, hp, hx⟩⟩
  · exact Or.inr a
theorem Pe.p34 {q r : Rst} (h : Cm pg hs c B E n p q r) (hn : p ≤ n) (hp : P3 q r ∨ P4 q r) : Pe pg hs c B E n q r := by
  rcases h.2.2.2.2.2.2.2.q38 with a | a
  · exact Or.inl ⟨a, Or.inr ⟨p, hn, h, hp⟩⟩
  · exact Or.inr a
theorem und_inv {v : Int} {r r' : Rst} (h : G_undoesNext r = some (v, r')) : Made r r' ∧ r' 19 = r 19 ∧ r' 20 = r 20 ∧ r' 21 = r 21 ∧ r' 78 = r 78 ∧ r' 79 = r 79 ∧ r' 80 = r 80 := by
  have en : ∀ x y v r', G_ends x y r = some (v, r') → Made r r' ∧ r' 19 = r 19 ∧ r' 20 = r 20 ∧ r' 21 = r 21 ∧ r' 78 = r 78 ∧ r' 79 = r 79 ∧ r' 80 = r 80 := fun x y v r' h => by
    unfold G_ends G_ends_0 at h
    obtain ⟨v1, r1, e1, e2⟩ := cag_some (stg_some (stg_some (stg_some h)))
    obtain ⟨hc, rfl, rfl⟩ := dec_inv e1
    cases e2
    refine ⟨(((Made.rf.ur (by decide) (by decide) (by decide) (by decide)).ur (by decide) (by decide) (by decide) (by decide)).ur (by decide) (by decide) (by decide) (by decide)).tr gdec_made, ?_⟩
    simp (disch := omega) only [gdec_n, ur_ne]
    simp only [and_self]
  unfold G_undoesNext G_undoesNext_0 at h
  rcases ite_some h with ⟨c0, h⟩ | ⟨c0, h⟩
  · rcases ite_some h with ⟨c1, h⟩ | ⟨c1, h⟩
    · obtain ⟨v1, r1, e1, e2⟩ := cag_some h
      cases e2
      exact en _ _ _ _ e1
    · obtain ⟨v1, r1, e1, e2⟩ := cag_some h
      cases e2
      exact en _ _ _ _ e1
  · obtain ⟨_, h⟩ := chk_some h
    obtain ⟨_, h⟩ := chk_some (stg_some (stg_some h))
    obtain ⟨_, h⟩ := chk_some (stg_some h)
    obtain ⟨_, h⟩ := chk_some h
    obtain ⟨v1, r1, e1, e2⟩ := cag_some h
    obtain ⟨hc, rfl, rfl⟩ := dec_inv e1
    cases e2
    refine ⟨(((Made.rf.ur (by decide) (by decide) (by decide) (by decide)).ur (by decide) (by decide) (by decide) (by decide)).ur (by decide) (by decide) (by decide) (by decide)).tr gdec_made, ?_⟩
    simp (disch := omega) only [gdec_n, ur_ne]
    simp only [and_self]
theorem go_still {q : Rst} (m : Nat) (l1 : Int) (h : q 38 0 ≠ 0 ∨ (q 8 0 ≠ 0 ∧ q 8 0 ≠ 2)) : H_4_goOn_6 pg hs (m + 1) l1 q = some (0, q) := by
  rw [H_4_goOn_6]
  by_cases c0 : 61 < l1
  · rw [if_t c0]
  · rw [if_f c0]
    unfold H_4_isMoving H_4_isMoving_0
    by_cases c1 : q 38 0 = 0
    · rw [if_t c1, if_f (by omega), if_f (by omega), boolG_e (Or.inl rfl), cag_e, if_t rfl]
    · rw [if_f c1, boolG_e (Or.inl rfl), cag_e, if_t rfl]
/-- the class backs out in its next turn -/
theorem lag_go {q r : Rst} (h : Lag pg hs c B E n p q r) (hp : p < 80) (hn : p + 1 ≤ n) : r 42 0 ≠ 0 ∧ ∀ (m : Nat) (l1 : Int), l1 ≤ 61 → 0 ≤ l1 → ∃ q', H_4_goOn_6 pg hs (m + 2) l1 q = some (0, q') ∧ Pe pg hs c B E n q' r := by
  obtain ⟨r1, v, h1, h2, h3⟩ := h
  have hi := und_inv h3
  have r42 : r 42 0 ≠ 0 := by
    obtain ⟨q', k1, k2, k3⟩ := sy_undo h1 h2 hp h3
    rcases k3 with k | k
    · have := k.2.1; omega
    · have := k.2.1; omega
  refine ⟨r42, fun m l1 hl hl0 => ?_⟩
  rcases h1.2.2.2.2.2.2.2.q38 with a | a
  · have go : ∀ s0, s0 = 0 ∨ s0 = 1 → ∃ q', H_4_goOn_32 pg hs (H_4_goOn_6 pg hs (m + 1)) l1 s0 q = some (0, q') ∧ Pe pg hs c B E n q' r := by
      intro s0 hs0
      unfold H_4_goOn_32
      have h2' : P2 (ur q 13 0 s0) r1 := by
        unfold P2
        simp (disch := omega) only [ur_n]
        exact h2
      obtain ⟨q', k1, k2, k3⟩ := sy_undo (h1.qset (j := 13) (i := 0) (v := s0) (by omega)) h2' hp h3
      rw [chk_t hs0, stg_e, if_t h2'.1, k1, cag_e]
      unfold H_4_goOn_197
      have s8 : q' 8 0 ≠ 0 ∧ q' 8 0 ≠ 2 ∧ q' 8 0 ≠ 1 := by
        rcases k3 with k | k
        · have := k.1; omega
        · have := k.1; omega
      rw [settle_id s8.2.2, cag_e, chk_t (by omega), go_still m (l1 + 1) (Or.inr ⟨s8.1, s8.2.1⟩)]
      exact ⟨q', rfl, Pe.p34 k2 hn k3⟩
    rw [H_4_goOn_6, if_f (by omega)]
    unfold H_4_isMoving H_4_isMoving_0
    rw [if_t a, if_f (by have := h2.1; omega), if_t h2.1, boolG_e (Or.inr rfl), cag_e, if_f (by decide)]
    by_cases c1 : q 12 0 ≤ 0
    · rw [if_t c1]; exact go 0 (Or.inl rfl)
    · rw [if_f c1]; exact go 1 (Or.inr rfl)
  · rw [go_still (m + 1) l1 (Or.inl (by omega))]
    exact ⟨q, rfl, Or.inr ⟨a.1, a.2.keep hi.1 hi.2.1 hi.2.2.1 hi.2.2.2.1 hi.2.2.2.2.1 hi.2.2.2.2.2.1 hi.2.2.2.2.2.2⟩⟩
theorem sy_goOn0 {D T U S : Int} (cs : Cs c hs) (hn0 : 1 ≤ n) (hn2 : n ≤ 80) (hD : D + 64 ≤ 5200) (hU : U + 61 ≤ 5200) (hT : T ≤ 70000) (hS : S ≤ 80) : ∀ (m m2 : Nat) (q r r' : Rst) (v : Int), 0 ≤ r 44 0 → r 44 0 ≤ 60 → 64 - r 44 0 < m → 62 - r 44 0 < m2 → PgR r → Pt r → PgM pg r → r 83 0 ≤ 9 → (r 42 0 = 0 → r 55 0 = 0 → Bd (D + r 44 0) (T + 4 * r 44 0) (U + r 44 0) S r) → ((r 42 0 ≠ 0 ∨ r 55 0 ≠ 0) → Bd (D + 64) (T + 244) (U + 61) S r) → Trn pg hs c B E n q r → G_goesOn_0 m2 r = some (v, r') → ∃ q', H_4_goOn_6 pg hs m (r 44 0) q = some (0, q') ∧ Pe pg hs c B E n q' r' := by
  intro m
  induction m with
  | zero => intro m2 q r r' v h1 h2 h3; omega
  | succ m ih =>
    intro m2 q r r' v h1 h2 h3 h4 g pt pm hr hA hB ht e
    obtain ⟨m2', rfl⟩ : ∃ k, m2 = k + 1 := ⟨m2 - 1, by omega⟩
    obtain ⟨m', rfl⟩ : ∃ k, m = k + 1 := ⟨m - 1, by omega⟩
    have stop : (r 42 0 ≠ 0 ∨ r 55 0 ≠ 0) → r' = r := fun hh => by
      rw [go_stop hh] at e
      cases e
      rfl
    rcases ht with ht | ⟨hc, hp⟩
    · rcases ht with ⟨hc, hp, hx⟩ | ⟨hc, hp⟩ | hl
      · rw [stop (Or.inr (by have := hp.2.2.1; omega)), go_still (m' + 1) _ (Or.inr (by have := hp.1; omega))]
        exact ⟨q, rfl, Pe.p1 hc hp hx⟩
      · /- it goes on -/
        obtain ⟨b8, b42, b55, b11, b9, b12, b14⟩ := hp
        have hb := hA b42 b55
        have hz := hb.1
        have hat := hb.2.2.1 b42 b55
        have h45 := hz.2.2.2.2.2.2.2.1
        rcases hc.2.2.2.2.2.2.2.q38 with a | a
        · have okall := ok_goesOn0 (D := D) (T := T) (U := U) (S := S) hD hU hT hS (m2' + 1) r h1 h2 h4 g pt hA hB
          obtain ⟨k2, hk2⟩ : ∃ k, m2' = k + 1 := ⟨m2' - 1, by omega⟩
          subst hk2
          rw [G_goesOn_0, if_t b42, if_t b55] at e
          rw [H_4_goOn_6, if_f (by omega)]
          unfold H_4_isMoving H_4_isMoving_0
          rw [if_t a, if_t b8, boolG_e (Or.inr rfl), cag_e, if_f (by decide)]
          /- cut, or failing, after which the class needs one more turn -/
          have lagged : ∀ q1 r1 v1, Lag pg hs c B E n 0 q1 r1 → G_goesOn_0 (k2 + 1) r1 = some (v1, r') → ∃ q', H_4_goOn_197 pg hs (H_4_goOn_6 pg hs (m' + 1)) (r 44 0) q1 = some (0, q') ∧ Pe pg hs c B E n q' r' := by
            intro q1 r1 v1 hl e
            obtain ⟨l1, l2⟩ := lag_go hl (by omega) (by omega)
            rw [go_stop (Or.inl l1)] at e
            cases e
            unfold H_4_goOn_197
            have h8 : q1 8 0 ≠ 1 := by
              obtain ⟨r2, v2, y1, y2, y3⟩ := hl
              have := y2.1; omega
            obtain ⟨k, hk⟩ : ∃ k, m' = k + 1 := ⟨m' - 1, by omega⟩
            subst hk
            rw [settle_id h8, cag_e, chk_t (by omega)]
            exact l2 k (r 44 0 + 1) (by omega) (by omega)
          /- it does not get cut -/
          have run : ∀ s0, (s0 = 0 ∧ r 45 0 = 0 ∨ s0 = 1 ∧ 0 < r 45 0) → G_goesOn_36 (G_goesOn_0 (k2 + 1)) r = some (v, r') → ∃ q', H_4_goOn_71 pg hs (H_4_goOn_6 pg hs (m' + 1)) (r 44 0) (ur q 13 0 s0) = some (0, q') ∧ Pe pg hs c B E n q' r' := by
            intro s0 hs0 e
            unfold G_goesOn_36 at e
            unfold H_4_goOn_71 H_4_goOn_92
            have hcq : Cm pg hs c B E n 0 (ur q 13 0 s0) r := hc.qset (by omega)
            have x9 : ur q 13 0 s0 9 0 = r 40 0 := by rw [ur_n (by omega)]; exact b9
            have x11 : ur q 13 0 s0 11 0 = 0 := by rw [ur_n (by omega)]; exact b11
            have x12 : ur q 13 0 s0 12 0 = r 45 0 := by rw [ur_n (by omega)]; exact b12
            have pm0 := pm.1
            have g12 := g.2.2.2.1
            obtain ⟨_, e⟩ := chk_some e
            rw [x9, if_f (by omega)]
            rcases ite_some e with ⟨d1, e⟩ | ⟨d1, e⟩
            · obtain ⟨v1, r1, e1, e2⟩ := cag_some e
              rw [if_f (by omega)]
              have hv : ur q 13 0 s0 2 0 = r 41 0 := hcq.2.1
              rw [← hv] at e1
              obtain ⟨q1, k1, k2', k3⟩ := sy_ends hcq b55 x11 e1
              rw [go_stop (Or.inl (by have := k3.2.1; omega))] at e2
              cases e2
              rw [k1, cag_e]
              unfold H_4_goOn_197
              rw [settle_id (by have := k3.1; omega), cag_e, chk_t (by omega), go_still m' _ (Or.inr (by have := k3.1; omega))]
              exact ⟨q1, rfl, Pe.p34 k2' (by omega) (Or.inr k3)⟩
            · rw [if_t (by omega)]
              rcases ite_some e with ⟨d2, e⟩ | ⟨d2, e⟩
              · obtain ⟨v1, r1, e1, e2⟩ := cag_some e
                rw [if_f (by omega)]
                obtain ⟨q1, k1, k2'⟩ := sy_fails hcq (y := 9) (x := 9) (Or.inr ⟨rfl, by omega⟩) e1
                rw [k1, cag_e]
                exact lagged q1 r1 _ k2' e2
              · rw [if_t (by omega), chk_t (by omega), stg_e]
                have emax : (if 0 < (ur q 13 0 s0 12 0 - 1) then (ur q 13 0 s0 12 0 - 1) else 0) = r 45 0 - s0 := by
                  rw [x12]; split <;> omega
                rw [emax]
                have y9 : ur (ur q 13 0 s0) 12 0 (r 45 0 - s0) 9 0 = r 40 0 := by rw [ur_n (by omega)]; exact x9
                rw [y9, chk_t (by omega)]
                have pms := pm.2 (r 40 0) hat.1 (by omega)
                rw [pms.1]
                /- the reference's side -/
                obtain ⟨_, e⟩ := chk_some e
                have e := stg_some e
                have e' : cag (G_passes (r 40 0) (ur (ur (ur r 44 0 (r 44 0 + 1)) 46 0 s0) 45 0 (r 45 0 - s0))) (fun _ r5 => G_goesOn_0 (k2 + 1) r5) = some (v, r') := by
                  have z45 : ur r 44 0 (r 44 0 + 1) 45 0 = r 45 0 := ur_n (by omega)
                  have z46 : ∀ x, ur (ur r 44 0 (r 44 0 + 1)) 46 0 x 46 0 = x := fun x => ur_e rfl rfl
                  have z45' : ∀ x, ur (ur r 44 0 (r 44 0 + 1)) 46 0 x 45 0 = r 45 0 := fun x => by simp (disch := omega) only [ur_n]
                  have z40 : ∀ x y, ur (ur (ur r 44 0 (r 44 0 + 1)) 46 0 x) 45 0 y 40 0 = r 40 0 := fun x y => by simp (disch := omega) only [ur_n]
                  rw [z45] at e
                  unfold G_goesOn_106 G_goesOn_126 at e
                  rcases hs0 with ⟨rfl, h⟩ | ⟨rfl, h⟩
                  · rw [if_t (by omega), chk_t (by omega), stg_e, z46, if_t rfl, z45'] at e
                    have e := stg_some (chk_some e).2
                    rw [z40] at e
                    exact e
                  · rw [if_f (by omega), chk_t (by omega), stg_e, z46, if_f (by decide), z45'] at e
                    have e := stg_some (chk_some e).2
                    rw [z40] at e
                    exact e
                obtain ⟨v1, r1, e1, e2⟩ := cag_some e'
                have hq : SameQ r (ur (ur (ur r 44 0 (r 44 0 + 1)) 46 0 s0) 45 0 (r 45 0 - s0)) := ((SameQ.rf.ur (by omega) (by omega)).ur (by omega) (by omega)).ur (by omega) (by omega)
                have hz2 : Bz (D + r 44 0) (T + 4 * r 44 0) (U + r 44 0) S (ur (ur (ur r 44 0 (r 44 0 + 1)) 46 0 s0) 45 0 (r 45 0 - s0)) := ((hz.o44).oth (j := 46) rfl).v45 (by omega) (by omega)
                have hcz : Cm pg hs c B E n 0 (ur (ur q 13 0 s0) 12 0 (r 45 0 - s0)) (ur (ur (ur r 44 0 (r 44 0 + 1)) 46 0 s0) 45 0 (r 45 0 - s0)) := (((hcq.qset (by omega)).rset (by omega)).rset (by omega)).rset (by omega)
                have w44 : ur (ur (ur r 44 0 (r 44 0 + 1)) 46 0 s0) 45 0 (r 45 0 - s0) 44 0 = r 44 0 + 1 := by simp (disch := omega) only [ur_n, ur_e]
                have w40 : ur (ur (ur r 44 0 (r 44 0 + 1)) 46 0 s0) 45 0 (r 45 0 - s0) 40 0 = r 40 0 := by simp (disch := omega) only [ur_n]
                have w42 : ur (ur (ur r 44 0 (r 44 0 + 1)) 46 0 s0) 45 0 (r 45 0 - s0) 42 0 = 0 := by simp (disch := omega) only [ur_n]; exact b42
                have w45 : ur (ur (ur r 44 0 (r 44 0 + 1)) 46 0 s0) 45 0 (r 45 0 - s0) 45 0 = r 45 0 - s0 := ur_e rfl rfl
                have w46 : ur (ur (ur r 44 0 (r 44 0 + 1)) 46 0 s0) 45 0 (r 45 0 - s0) 46 0 = s0 := by simp (disch := omega) only [ur_n, ur_e]
                have w47 : ur (ur (ur r 44 0 (r 44 0 + 1)) 46 0 s0) 45 0 (r 45 0 - s0) 47 0 = r 47 0 := by simp (disch := omega) only [ur_n]
                have w55 : ur (ur (ur r 44 0 (r 44 0 + 1)) 46 0 s0) 45 0 (r 45 0 - s0) 55 0 = 0 := by simp (disch := omega) only [ur_n]; exact b55
                have v8 : ur (ur q 13 0 s0) 12 0 (r 45 0 - s0) 8 0 = 0 := by simp (disch := omega) only [ur_n]; exact b8
                have v11 : ur (ur q 13 0 s0) 12 0 (r 45 0 - s0) 11 0 = 0 := by simp (disch := omega) only [ur_n]; exact b11
                have v12 : ur (ur q 13 0 s0) 12 0 (r 45 0 - s0) 12 0 = r 45 0 - s0 := ur_e rfl rfl
                have v13 : ur (ur q 13 0 s0) 12 0 (r 45 0 - s0) 13 0 = s0 := by simp (disch := omega) only [ur_n, ur_e]
                have v14 : ur (ur q 13 0 s0) 12 0 (r 45 0 - s0) 14 0 = r 47 0 := by simp (disch := omega) only [ur_n]; exact b14
                have v38 : ur (ur q 13 0 s0) 12 0 (r 45 0 - s0) 38 0 = 0 := by simp (disch := omega) only [ur_n]; exact a
                generalize ur (ur (ur r 44 0 (r 44 0 + 1)) 46 0 s0) 45 0 (r 45 0 - s0) = z at *
                generalize ur (ur q 13 0 s0) 12 0 (r 45 0 - s0) = y at *
                have gz := g.sameQ hq
                have pz := pt.sameQ hq
                have pmz : PgM pg z := pm.fr hq
                have z5 : z 5 = r 5 := hq 5 (by omega)
                have z77 : z 77 = r 77 := hq 77 (by omega)
                have z2 : z 2 = r 2 := hq 2 (by omega)
                have z3 : z 3 = r 3 := hq 3 (by omega)
                have z4 : z 4 = r 4 := hq 4 (by omega)
                have z83 : z 83 0 = r 83 0 := by rw [hq 83 (by omega)]
                /- what the reference's turn leaves -/
                obtain ⟨u1, r1', o1, o2, o3, o4, o5⟩ := ok_passes hz2 gz pz hat.1 (by rw [z5, z77]; omega) w42 w55 (by omega) (by omega) (by omega) hS
                rw [o1] at e1
                cases e1
                have e44' : r1 44 0 = r 44 0 + 1 := by rw [o2 44 (by omega)]; exact w44
                have z76 := hz2.1
                /- both go on with what is left -/
                have nxt : ∀ q2, Trn pg hs c B E n q2 r1 → ∃ q', H_4_goOn_6 pg hs (m' + 1) (r 44 0 + 1) q2 = some (0, q') ∧ Pe pg hs c B E n q' r' := by
                  intro q2 ht
                  have := ih (k2 + 1) q2 r1 r' v (by omega) (by omega) (by omega) (by omega) (gz.same o2) (pz.same o2) (pmz.fr fun j hj => o2 j (by omega)) (by rw [o2 83 (by omega)]; omega) (fun a b => by
                    have h76 : r1 76 0 ≤ z 76 0 + 1 := by omega
                    rw [e44']
                    exact ⟨(o4.1.tight (D2 := D + (r 44 0 + 1)) (by omega)).mono (by omega) (by omega) (by omega) (by omega), o4.2⟩) (fun a => ⟨(o4.1.tight (D2 := D + 64) (by omega)).mono (by omega) (by omega) (by omega) (by omega), o4.2⟩) ht e2
                  rw [e44'] at this
                  exact this
                rcases (show 4 < r 2 (12 * r 77 0 + r 40 0) ∨ r 2 (12 * r 77 0 + r 40 0) ≤ 4 by omega) with kk | kk
                · rw [if_f (by omega), chk_t (by omega), chk_t (by omega), chk_t (by omega)]
                  obtain ⟨q1, k1, q2, k2', k3⟩ := sy_pass hcz gz pmz hat.1 (by rw [z5, z77]; omega) (by rw [z2, z77]; omega) v38 (by omega) v8 v11 y9 w42 w55 (by omega) (by omega) o1
                  rw [z2, z3, z4, z77] at k1
                  rw [pms.2.1, pms.2.2, k1, cag_e]
                  unfold H_4_goOn_197
                  rw [k2', cag_e, chk_t (by omega)]
                  exact nxt q2 k3
                · rw [if_t kk]
                  have gk := g.k hat.1 (s := r 40 0) (by omega)
                  unfold G_passes G_passes_0 G_stepAt G_stepAt_0 at o1
                  rw [z77, chk_t (by omega), chk_t (by omega), cag_e, chk_t (by omega)] at o1
                  have o1 := stg_some o1
                  have y2 : ur z 40 0 (r 40 0 + 1) 2 = r 2 := by rw [ur_ne (by omega)]; exact z2
                  rw [y2, chk_t (by omega), if_f (by omega), if_f (by omega), if_f (by omega), if_f (by omega), if_f (by omega), if_f (by omega), if_f (by omega), if_f (by omega), if_f (by omega), if_f (by omega), if_f (by omega)] at o1
                  obtain ⟨v3, r3, e3, e4⟩ := cag_some (stg_some o1)
                  cases e4
                  have fz : ∀ j : Nat, j ≠ 40 → ur (ur z 40 0 (r 40 0 + 1)) 40 0 (r 40 0) j = z j := fun j hj => by rw [ur_ne hj, ur_ne hj]
                  obtain ⟨q1, q2, k1, k2', k3⟩ := sy_waitsAt cs (by omega) hn2 ((hcz.rset (j := 40) (i := 0) (v := r 40 0 + 1) (by omega)).rset (j := 40) (i := 0) (v := r 40 0) (by omega)) (gz.fr fun j hj => fz j (by omega)) (pmz.fr fun j hj => fz j (by omega)) hat.1 (by rw [fz 5 (by omega), fz 77 (by omega), z5, z77]; omega) (by rw [fz 2 (by omega), fz 77 (by omega), z2, z77]; omega) y9 (ur_e rfl rfl) (by rw [fz 42 (by omega)]; exact w42) (by rw [fz 45 (by omega)]; omega) (by rw [fz 47 (by omega)]; omega) (by rw [fz 46 (by omega)]; omega) e3
                  rw [k1, cag_e]
                  unfold H_4_goOn_197
                  rw [k2', cag_e, chk_t (by omega)]
                  exact nxt q2 (Or.inl k3)
          have go32 : ∀ s0, (s0 = 0 ∧ r 45 0 = 0 ∨ s0 = 1 ∧ 0 < r 45 0) → ∃ q', H_4_goOn_32 pg hs (H_4_goOn_6 pg hs (m' + 1)) (r 44 0) s0 q = some (0, q') ∧ Pe pg hs c B E n q' r' := by
            intro s0 hs0
            unfold H_4_goOn_32
            have x8 : ur q 13 0 s0 8 0 = 0 := by rw [ur_n (by omega)]; exact b8
            have x14 : ur q 13 0 s0 14 0 = r 47 0 := by rw [ur_n (by omega)]; exact b14
            have x13 : ur q 13 0 s0 13 0 = s0 := ur_e rfl rfl
            rw [chk_t (by omega), stg_e, if_f (by omega), x14, x13]
            rcases ite_some e with ⟨d1, e⟩ | ⟨d1, e⟩
            · rw [if_t d1]
              exact run s0 hs0 e
            · rw [if_f d1]
              rcases ite_some e with ⟨d2, e⟩ | ⟨d2, e⟩
              · obtain ⟨v1, r1, e1, e2⟩ := cag_some e
                obtain ⟨q1, k1, k2'⟩ := sy_cut0 (hc.qset (j := 13) (i := 0) (v := s0) (by omega)) (by rw [ur_n (by omega)]; exact b11) e1
                rw [if_t (by omega), k1, cag_e]
                exact lagged q1 r1 _ k2' e2
              · rw [if_f (by omega)]
                exact run s0 hs0 e
          by_cases c1 : q 12 0 ≤ 0
          · rw [if_t c1]; exact go32 0 (Or.inl ⟨rfl, by omega⟩)
          · rw [if_f c1]; exact go32 1 (Or.inr ⟨rfl, by omega⟩)
        · obtain ⟨v1, r1, o1, o2, o3, o4⟩ := ok_goesOn0 (D := D) (T := T) (U := U) (S := S) hD hU hT hS (m2' + 1) r h1 h2 h4 g pt hA hB
          rw [o1] at e
          cases e
          rw [go_still (m' + 1) _ (Or.inl (by omega))]
          exact ⟨q, rfl, Or.inr ⟨a.1, a.2.keep o3 (o2 19 (by omega)) (o2 20 (by omega)) (o2 21 (by omega)) (o2 78 (by omega)) (o2 79 (by omega)) (o2 80 (by omega))⟩⟩
      · obtain ⟨l1, l2⟩ := lag_go hl (by omega) (by omega)
        rw [stop (Or.inl l1)]
        exact l2 m' (r 44 0) (by omega) h1
    · rw [stop (Or.inl (by have := hp.2.1; omega)), go_still (m' + 1) _ (Or.inr (by have := hp.1; omega))]
      exact ⟨q, rfl, Pe.p34 hc (by omega) (Or.inr hp)⟩
end GO
