/-! the class's player beside the reference's play: when all that is waited for is over -/
section SE
variable {pg hs : Rst} {c : Int → Int} {B E n p : Int} {q r : Rst}
theorem Sl1.bits {a1 t1 d1 k ac ti ch wh re ov lo kd sg fo tm dn ls rs hr : Int} (h : Sl1 hs n a1 t1 d1 k ac ti ch wh re ov lo kd sg fo tm dn ls rs hr) : k = kd ∧ ov = dn ∧ lo = ls ∧ (dn = 0 ∨ dn = 1) ∧ (ls = 0 ∨ ls = 1) ∧ (hr = 0 ∨ hr = 1) ∧ (dn = 1 → (hr = 1 ∧ ls = 0 ∧ kd ≠ 1 ∧ re = rs) ∨ (hr = 0 ∧ (ls = 1 ∨ kd = 1))) := by
  obtain ⟨a1, a2, a3, a4, a5, a6, a7, a8, a9, b1, b2, b3, b4, b5, b6, b7⟩ := h
  exact ⟨a1, b1, b2, b3, b4, b5, b6⟩
/-- the class's look at its places: not all of them are over -/
theorem se_not {k77 : Int → Int → Rst → Option G2} (hq : q 11 0 ≤ 3) : ∀ (m : Nat) (l1 l2 l3 : Int), 0 ≤ l3 → 3 - l3 < m → (∃ k, l3 ≤ k ∧ k < q 11 0 ∧ q 56 k = 0) → H_4_settle_18 pg hs k77 m l1 l2 l3 q = some (0, q) := by
  intro m
  induction m with
  | zero => intro l1 l2 l3 h0 h1 ⟨k, h2, h3, h4⟩; omega
  | succ m ih =>
    intro l1 l2 l3 h0 h1 ⟨k, h2, h3, h4⟩
    rw [H_4_settle_18, if_f (by omega), chk_t (by omega)]
    by_cases c0 : q 56 l3 = 0
    · rw [if_t c0]
    · have hk : ∃ k, l3 + 1 ≤ k ∧ k < q 11 0 ∧ q 56 k = 0 := ⟨k, by have : k ≠ l3 := fun e => c0 (e ▸ h4); omega, h3, h4⟩
      rw [if_f c0]
      by_cases c1 : q 57 l3 = 0
      · by_cases c2 : q 50 l3 = 1
        · rw [if_t c1, if_t c2, chk_t (by omega)]; exact ih _ _ _ (by omega) (by omega) hk
        · rw [if_t c1, if_f c2, chk_t (by omega)]; exact ih _ _ _ (by omega) (by omega) hk
      · rw [if_f c1, chk_t (by omega)]; exact ih _ _ _ (by omega) (by omega) hk
/-- all of them are over: the class and the reference let the results go to the register -/
theorem se_all (hs' : Rst) (hk : ∀ i, 0 ≤ i → i < q 11 0 → q 56 i ≠ 0 ∧ (q 57 i = 0 ∨ q 57 i = 1) ∧ (r 63 i = 0 ∨ r 63 i = 1) ∧ q 57 i = r 61 i ∧ (r 63 i = 1 → q 57 i = 0 ∧ q 50 i ≠ 1 ∧ q 55 i = r 62 i) ∧ (r 63 i = 0 → q 57 i = 1 ∨ q 50 i = 1)) (hw : q 11 0 ≤ 3) : ∀ (m m2 : Nat) (l1 l2 l3 : Int) (r1 : Rst) (x : G2), 0 ≤ l3 → l3 ≤ 3 → 3 - l3 < m → (l1 = 0 ∨ l1 = 1) → r1 = ur r 41 0 l2 → q 11 0 = r 55 0 → G_finishes_4 G_finishes_63 m2 l1 l3 r1 = some x →
    ∃ l1' l2', (l1' = 0 ∨ l1' = 1) ∧ G_finishes_63 l1' (ur r 41 0 l2') = some x ∧ H_4_settle_18 pg hs' (H_4_settle_77 pg hs') m l1 l2 l3 q = H_4_settle_77 pg hs' l1' l2' q := by
  intro m
  induction m with
  | zero => intro m2 l1 l2 l3 r1 x h0 h00 h1; omega
  | succ m ih =>
    intro m2 l1 l2 l3 r1 x h0 h00 h1 h2 h3 h4 e
    subst h3
    cases m2 with
    | zero => cases e
    | succ m2 =>
      rw [G_finishes_4] at e
      rw [H_4_settle_18]
      simp (disch := omega) only [ur_n] at e
      rcases ite_some e with ⟨c0, e⟩ | ⟨c0, e⟩
      · rw [if_t (by omega)]
        exact ⟨l1, l2, h2, e, rfl⟩
      · obtain ⟨g, e⟩ := chk_some e
        have k := hk l3 h0 (by omega)
        rw [if_f (by omega), chk_t (by omega), if_f k.1]
        have uu : ∀ a, ur (ur r 41 0 l2) 41 0 a = ur r 41 0 a := fun a => by
          funext b d
          by_cases cc : b = 41 ∧ d = 0
          · rw [ur_e cc.1 cc.2, ur_e cc.1 cc.2]
          · rw [ur_n (by omega), ur_n (by omega), ur_n (by omega)]
        have go : ∀ s0, (r 63 l3 = 0 → s0 = l2) → (r 63 l3 = 1 → s0 = r 62 l3) → G_finishes_35 (G_finishes_4 G_finishes_63 m2) l1 l3 s0 (ur r 41 0 l2) = some x → ∃ l1' l2', (l1' = 0 ∨ l1' = 1) ∧ G_finishes_63 l1' (ur r 41 0 l2') = some x ∧ (if q 57 l3 = 0 then (if q 50 l3 = 1 then chk9 (iR (l3 + 1)) (H_4_settle_18 pg hs' (H_4_settle_77 pg hs') m l1 l2 (l3 + 1) q) else chk9 (iR (l3 + 1)) (H_4_settle_18 pg hs' (H_4_settle_77 pg hs') m l1 (q 55 l3) (l3 + 1) q)) else chk9 (iR (l3 + 1)) (H_4_settle_18 pg hs' (H_4_settle_77 pg hs') m 1 l2 (l3 + 1) q)) = H_4_settle_77 pg hs' l1' l2' q := by
          intro s0 hA hB e
          unfold G_finishes_35 at e
          have e := stg_some e
          rw [uu] at e
          simp (disch := omega) only [ur_n] at e
          have e' : (if l1 = 0 ∧ r 61 l3 = 0 then G_finishes_4 G_finishes_63 m2 0 (l3 + 1) (ur r 41 0 s0) else G_finishes_4 G_finishes_63 m2 1 (l3 + 1) (ur r 41 0 s0)) = some x := by
            rcases ite_some e with ⟨c1, e⟩ | ⟨c1, e⟩
            · obtain ⟨_, e⟩ := chk_some e
              rcases ite_some e with ⟨c2, e⟩ | ⟨c2, e⟩
              · rw [if_t ⟨c1, c2⟩]; exact (chk_some e).2
              · rw [if_f (fun hh => c2 hh.2)]; exact (chk_some e).2
            · rw [if_f (fun hh => c1 hh.1)]; exact (chk_some e).2
          rw [chk_t (by omega), chk_t (by omega), chk_t (by omega)]
          by_cases cl : q 57 l3 = 0
          · rw [if_t cl]
            have er : r 61 l3 = 0 := by omega
            have e2 : G_finishes_4 G_finishes_63 m2 l1 (l3 + 1) (ur r 41 0 s0) = some x := by
              rcases h2 with h2 | h2
              · rw [if_t ⟨h2, er⟩] at e'; rw [h2]; exact e'
              · rw [if_f (by omega)] at e'; rw [h2]; exact e'
            rcases k.2.2.1 with k3 | k3
            · rw [if_t (by omega)]
              rw [hA k3] at e2
              exact ih m2 l1 l2 (l3 + 1) _ x (by omega) (by omega) (by omega) h2 rfl h4 e2
            · rw [if_f (by omega), (k.2.2.2.2.1 k3).2.2]
              rw [hB k3] at e2
              exact ih m2 l1 (r 62 l3) (l3 + 1) _ x (by omega) (by omega) (by omega) h2 rfl h4 e2
          · rw [if_f cl]
            have er : ¬ (l1 = 0 ∧ r 61 l3 = 0) := by omega
            rw [if_f er] at e'
            rcases k.2.2.1 with k3 | k3
            · rw [hA k3] at e'
              exact ih m2 1 l2 (l3 + 1) _ x (by omega) (by omega) (by omega) (Or.inr rfl) rfl h4 e'
            · exact absurd (k.2.2.2.2.1 k3).1 cl
        rcases ite_some e with ⟨c1, e⟩ | ⟨c1, e⟩
        · have e41 : ur r 41 0 l2 41 0 = l2 := ur_e rfl rfl
          rw [e41] at e
          exact go l2 (fun _ => rfl) (fun h => by omega) e
        · obtain ⟨_, e⟩ := chk_some e
          exact go (r 62 l3) (fun h => by omega) (fun _ => rfl) e
/-- the class settles as the reference does -/
theorem sy_settle0 (h : P1 hs n q r) (hn : ∃ k, 0 ≤ k ∧ k < r 55 0 ∧ r 60 k = 0) : H_4_settle pg hs q = some (0, q) := by
  obtain ⟨p1, p2, p3, p4, p5, p6, p7, p8, p9, p10, sl, di⟩ := h
  obtain ⟨k, k0, k1, k2⟩ := hn
  unfold H_4_settle H_4_settle_0
  rw [if_t p1]
  exact se_not (by omega) fuel9 0 (q 2 0) 0 (by omega) (fuel_big (by omega)) ⟨k, k0, by omega, by have := (sl k k0 k1).bits; omega⟩
theorem sy_settle1 {v : Int} {r' : Rst} (h : Cm pg hs c B E n 0 q r) (hp : P1 hs n q r) (ha : ∀ k, 0 ≤ k → k < r 55 0 → r 60 k = 1) (e : G_finishes r = some (v, r')) : ∃ q', H_4_settle pg hs q = some (0, q') ∧ (Cm pg hs c B E n 0 q' r' ∧ P0 q' r' ∨ Lag pg hs c B E n 0 q' r') := by
  obtain ⟨p1, p2, p3, p4, p5, p6, p7, p8, p9, p10, sl, di⟩ := hp
  unfold G_finishes G_finishes_0 at e
  have hv := h.2.1
  have eu : ur r 41 0 (q 2 0) = r := by
    rw [hv]
    funext a b
    by_cases cc : a = 41 ∧ b = 0
    · rw [ur_e cc.1 cc.2, cc.1, cc.2]
    · rw [ur_n (by omega)]
  obtain ⟨l1, l2, hl, e1, e2⟩ := se_all (pg := pg) (q := q) (r := r) hs (fun i h0 h1 => by
    have := (sl i h0 (by omega)).bits
    have := ha i h0 (by omega)
    omega) (by omega) fuel9 fuel9 0 (q 2 0) 0 r (v, r') (by omega) (by omega) (fuel_big (by omega)) (Or.inl rfl) eu.symm p5 e
  unfold H_4_settle H_4_settle_0
  rw [if_t p1, e2]
  unfold G_finishes_63 at e1
  unfold H_4_settle_77
  have e1 := stg_some (stg_some e1)
  have hb := ((h.val (v := l2)).rset (j := 55) (i := 0) (v := 0) (by omega)).rset (j := 40) (i := 0) (v := ur (ur r 41 0 l2) 55 0 0 64 0) (by omega)
  rcases ite_some e1 with ⟨c1, e1⟩ | ⟨c1, e1⟩
  · cases e1
    rw [stg_e, if_t c1, stg_e, stg_e, stg_e]
    refine ⟨_, rfl, Or.inl ⟨((hb.qset (by omega)).qset (by omega)).qset (by omega), ?_⟩⟩
    unfold P0
    simp (disch := omega) only [ur_n, ur_e]
    exact ⟨trivial, p2, trivial, trivial, p7, p8, p9⟩
  · obtain ⟨v1, r1, e3, e4⟩ := cag_some e1
    cases e4
    obtain ⟨q', k1, k2⟩ := sy_fails hb (y := 1) (x := 1) (Or.inr ⟨rfl, by omega⟩) e3
    rw [stg_e, if_f c1, k1, cag_e]
    exact ⟨q', rfl, Or.inr k2⟩
end SE
