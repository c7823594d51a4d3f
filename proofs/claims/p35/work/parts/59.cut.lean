/-! the class's player beside the reference's play: cutting -/
section CU
variable {pg hs : Rst} {c : Int → Int} {B E n : Int}
/-- the class's loop skips what is not to be taken off -/
theorem cu_skip {k62 : Int → Rst → Option G2} {q : Rst} {X : Option G2} {k : Int} (hK : q 11 0 ≤ 3) (hk : k ≤ q 11 0) (h : ∀ m : Nat, 3 - k < m → H_4_cut_2 pg hs k62 m k q = X) : ∀ (d : Nat) (j : Int), 0 ≤ j → j + d = k → (∀ i, j ≤ i → i < k → q 51 i = -1 ∨ q 56 i ≠ 0) → ∀ m : Nat, 3 - j < m → H_4_cut_2 pg hs k62 m j q = X := by
  intro d
  induction d with
  | zero => intro j h0 h1 h2 m hm; have : j = k := by omega
            subst this; exact h m hm
  | succ d ih =>
    intro j h0 h1 h2 m hm
    cases m with
    | zero => omega
    | succ m =>
      have nx := ih (j + 1) (by omega) (by omega) (fun i a b => h2 i (by omega) b) m (by omega)
      rw [H_4_cut_2, if_f (by omega), chk_t (by omega), chk_t (by omega), chk_t (by omega), chk_t (by omega)]
      rcases h2 j (by omega) (by omega) with a | a
      · rw [if_t a]; exact nx
      · by_cases a2 : q 51 j = -1
        · rw [if_t a2]; exact nx
        · rw [if_f a2, if_f a]; exact nx
theorem cu_skip2 {k62 : Rst → Option G2} {q : Rst} {X : Option G2} {k : Int} (hK : q 11 0 ≤ 3) (hk : k ≤ q 11 0) (h : ∀ m : Nat, 3 - k < m → H_4_cut_62 pg hs k62 m k q = X) : ∀ (d : Nat) (j : Int), 0 ≤ j → j + d = k → (∀ i, j ≤ i → i < k → q 52 i = -1 ∨ q 56 i ≠ 0) → ∀ m : Nat, 3 - j < m → H_4_cut_62 pg hs k62 m j q = X := by
  intro d
  induction d with
  | zero => intro j h0 h1 h2 m hm; have : j = k := by omega
            subst this; exact h m hm
  | succ d ih =>
    intro j h0 h1 h2 m hm
    cases m with
    | zero => omega
    | succ m =>
      have nx := ih (j + 1) (by omega) (by omega) (fun i a b => h2 i (by omega) b) m (by omega)
      rw [H_4_cut_62, if_f (by omega), chk_t (by omega), chk_t (by omega), chk_t (by omega), chk_t (by omega)]
      rcases h2 j (by omega) (by omega) with a | a
      · rw [if_t a]; exact nx
      · by_cases a2 : q 52 j = -1
        · rw [if_t a2]; exact nx
        · rw [if_f a2, if_f a]; exact nx
/-- where both loops stand: the places ahead of j are those that were met -/
def Cu (pg hs : Rst) (c : Int → Int) (B E n : Int) (q0 r0 : Rst) (A : Int → Prop) (f : Int → Int) (t k j : Int) (q r : Rst) : Prop := Cm pg hs c B E n 0 q r ∧ Dec r0 r ∧ (∀ i : Nat, i < 20 ∨ 49 < i → q i = q0 i) ∧ 0 ≤ j ∧ j ≤ r0 55 0 ∧ ∀ i, 0 ≤ i → i < r0 55 0 → A i → (i < j ↔ (f i < t ∨ f i = t ∧ i < k))
theorem cu_in {q0 r0 : Rst} {k62 k2 : Int → Rst → Option G2} {t : Int} {x : G2} (hp : P1 hs n q0 r0) (ht : 0 ≤ t) : ∀ (m2 : Nat) (k j : Int) (q r : Rst), 0 ≤ k → k ≤ r0 55 0 → Cu pg hs c B E n q0 r0 (fun i => r0 56 i = 0 ∧ r0 60 i = 0) (r0 58) t k j q r → G_cuts_12 k2 m2 t k r = some x →
    ∃ j1 q1 r1, Cu pg hs c B E n q0 r0 (fun i => r0 56 i = 0 ∧ r0 60 i = 0) (r0 58) (t + 1) 0 j1 q1 r1 ∧ k2 (t + 1) r1 = some x ∧ ∀ X, (∀ m : Nat, 3 - j1 < m → H_4_cut_2 pg hs k62 m j1 q1 = X) → ∀ m : Nat, 3 - j < m → H_4_cut_2 pg hs k62 m j q = X := by
  obtain ⟨p1, p2, p3, p4, p5, p6, p7, p8, p9, p10, sl, di⟩ := hp
  intro m2
  induction m2 with
  | zero => intro k j q r h0 h1 h2 e; cases e
  | succ m2 ih =>
    intro k j q r h0 h1 hu e
    obtain ⟨hc, hd, hf, j0, j1, hA⟩ := hu
    rw [G_cuts_12, hd 55 (by omega), hd 56 (by omega), hd 60 (by omega), hd 58 (by omega)] at e
    rcases ite_some e with ⟨c0, e⟩ | ⟨c0, e⟩
    · refine ⟨j, q, r, ⟨hc, hd, hf, j0, j1, fun i a b d => ?_⟩, (chk_some e).2, fun X hX => hX⟩
      have := hA i a b d
      rw [this]; omega
    · obtain ⟨_, e⟩ := chk_some e
      have q11 : q 11 0 = r0 55 0 := by rw [hf 11 (by omega)]; exact p5
      have slk := sl k h0 (by omega)
      have miss : ¬ ((r0 56 k = 0 ∧ r0 60 k = 0) ∧ r0 58 k = t) → ∀ e' : G_cuts_12 k2 m2 t (k + 1) r = some x, ∃ j1 q1 r1, Cu pg hs c B E n q0 r0 (fun i => r0 56 i = 0 ∧ r0 60 i = 0) (r0 58) (t + 1) 0 j1 q1 r1 ∧ k2 (t + 1) r1 = some x ∧ ∀ X, (∀ m : Nat, 3 - j1 < m → H_4_cut_2 pg hs k62 m j1 q1 = X) → ∀ m : Nat, 3 - j < m → H_4_cut_2 pg hs k62 m j q = X := by
        intro hno e'
        refine ih (k + 1) j q r (by omega) (by omega) ⟨hc, hd, hf, j0, j1, fun i a b d => ?_⟩ e'
        have := hA i a b d
        rw [this]
        by_cases ei : i = k
        · subst ei
          have : r0 58 i ≠ t := fun h => hno ⟨d, h⟩
          omega
        · omega
      rcases ite_some e with ⟨d1, e⟩ | ⟨d1, e⟩
      · obtain ⟨_, e⟩ := chk_some e
        rcases ite_some e with ⟨d2, e⟩ | ⟨d2, e⟩
        · obtain ⟨_, e⟩ := chk_some e
          rcases ite_some e with ⟨d3, e⟩ | ⟨d3, e⟩
          · obtain ⟨v1, r1, e1, e2⟩ := cag_some e
            obtain ⟨hc7, rfl, rfl⟩ := dec_inv e1
            obtain ⟨_, e2⟩ := chk_some e2
            have hkj := hA k h0 (by omega) ⟨d1, d2⟩
            have kj : j ≤ k := by omega
            obtain ⟨k1, k2'⟩ := cm_put (k := 9) (x := t) (y := 0) hc hc7.2 (by omega)
            have b := slk.bits
            have a51 := slk.2.2.1 d1
            obtain ⟨j2, q2, r2, g1, g2, g3⟩ := ih (k + 1) (k + 1) (hput hs 9 t 0 q) (gdec 9 t 0 r) (by omega) (by omega) ⟨k2', hd.tr (fun i hi => gdec_n hi), fun i hi => by rw [hput_n (by omega)]; exact hf i hi, by omega, by omega, fun i a b d => by
              have h1 := hA i a b d
              rcases Int.lt_trichotomy i k with l | l | l
              · have h2 := (di i k a l (by omega)).1 d.1 d1
                omega
              · subst l; omega
              · have h2 := (di k i h0 l b).1 d1 d.1
                omega⟩ e2
            refine ⟨j2, q2, r2, g1, g2, fun X hX => ?_⟩
            refine cu_skip (k := k) (by omega) (by omega) (fun m hm => ?_) (k - j).toNat j j0 (by omega) (fun i a b => ?_)
            · cases m with
              | zero => omega
              | succ m =>
                have q51 : q 51 k = r0 58 k := by rw [hf 51 (by omega)]; omega
                have q56 : q 56 k = 0 := by rw [hf 56 (by omega)]; omega
                rw [H_4_cut_2, if_f (by omega), chk_t (by omega), if_f (by omega), chk_t (by omega), if_t q56, chk_t (by omega), q51, d3, k1, cag_e, chk_t (by omega)]
                exact g3 X hX m (by omega)
            · rw [hf 51 (by omega), hf 56 (by omega)]
              have sb := (sl i (by omega) (by omega))
              have sbb := sb.bits
              by_cases hi : r0 56 i = 0 ∧ r0 60 i = 0
              · exfalso
                have h1 := hA i (by omega) (by omega) hi
                have h2 := (di i k (by omega) b (by omega)).1 hi.1 d1
                omega
              · by_cases h56 : r0 56 i = 0
                · exact Or.inr (by omega)
                · exact Or.inl (sb.2.2.2.1 h56)
          · exact miss (fun h => d3 h.2) (chk_some e).2
        · exact miss (fun h => d2 h.1.2) (chk_some e).2
      · exact miss (fun h => d1 h.1.1) (chk_some e).2
theorem cu_out {q0 r0 : Rst} {k62 k70 : Int → Rst → Option G2} {x : G2} (hp : P1 hs n q0 r0) : ∀ (m2 : Nat) (t j : Int) (q r : Rst), 0 ≤ t → Cu pg hs c B E n q0 r0 (fun i => r0 56 i = 0 ∧ r0 60 i = 0) (r0 58) t 0 j q r → G_cuts_2 k70 m2 t r = some x →
    ∃ q1 r1, Cm pg hs c B E n 0 q1 r1 ∧ Dec r0 r1 ∧ (∀ i : Nat, i < 20 ∨ 49 < i → q1 i = q0 i) ∧ k70 0 r1 = some x ∧ ∀ m : Nat, 3 - j < m → H_4_cut_2 pg hs k62 m j q = k62 0 q1 := by
  intro m2
  induction m2 with
  | zero => intro t j q r h0 h1 e; cases e
  | succ m2 ih =>
    intro t j q r h0 hu e
    rw [G_cuts_2, hu.2.1 51 (by omega)] at e
    rcases ite_some e with ⟨c0, e⟩ | ⟨c0, e⟩
    · obtain ⟨hc, hd, hf, j0, j1, hA⟩ := hu
      obtain ⟨p1, p2, p3, p4, p5, p6, p7, p8, p9, p10, sl, di⟩ := hp
      have q11 : q 11 0 = r0 55 0 := by rw [hf 11 (by omega)]; exact p5
      refine ⟨q, r, hc, hd, hf, e, ?_⟩
      refine cu_skip (k := r0 55 0) (by omega) (by omega) (fun m hm => ?_) (r0 55 0 - j).toNat j j0 (by omega) (fun i a b => ?_)
      · cases m with
        | zero => omega
        | succ m => rw [H_4_cut_2, if_t (by omega)]
      · rw [hf 51 (by omega), hf 56 (by omega)]
        have sb := (sl i (by omega) (by omega))
        have sbb := sb.bits
        by_cases hi : r0 56 i = 0 ∧ r0 60 i = 0
        · exfalso
          have h1 := hA i (by omega) (by omega) hi
          have h2 := sb.2.2.1 hi.1
          omega
        · by_cases h56 : r0 56 i = 0
          · exact Or.inr (by omega)
          · exact Or.inl (sb.2.2.2.1 h56)
    · have p3 := hp.2.2.1
      obtain ⟨j1, q1, r1, g1, g2, g3⟩ := cu_in (k62 := k62) hp h0 fuel9 0 j q r (by omega) (by omega) hu e
      obtain ⟨q2, r2, d1, d2, d3, d4, d5⟩ := ih (t + 1) j1 q1 r1 (by omega) g1 g2
      exact ⟨q2, r2, d1, d2, d3, d4, fun m hm => g3 _ d5 m hm⟩
theorem cu_in2 {q0 r0 : Rst} {k62 : Rst → Option G2} {k2 : Int → Rst → Option G2} {t : Int} {x : G2} (hp : P1 hs n q0 r0) (ht : 0 ≤ t) : ∀ (m2 : Nat) (k j : Int) (q r : Rst), 0 ≤ k → k ≤ r0 55 0 → Cu pg hs c B E n q0 r0 (fun i => r0 60 i = 0 ∧ 0 ≤ r0 59 i) (r0 59) t k j q r → G_cuts_80 k2 m2 t k r = some x →
    ∃ j1 q1 r1, Cu pg hs c B E n q0 r0 (fun i => r0 60 i = 0 ∧ 0 ≤ r0 59 i) (r0 59) (t + 1) 0 j1 q1 r1 ∧ k2 (t + 1) r1 = some x ∧ ∀ X, (∀ m : Nat, 3 - j1 < m → H_4_cut_62 pg hs k62 m j1 q1 = X) → ∀ m : Nat, 3 - j < m → H_4_cut_62 pg hs k62 m j q = X := by
  obtain ⟨p1, p2, p3, p4, p5, p6, p7, p8, p9, p10, sl, di⟩ := hp
  intro m2
  induction m2 with
  | zero => intro k j q r h0 h1 h2 e; cases e
  | succ m2 ih =>
    intro k j q r h0 h1 hu e
    obtain ⟨hc, hd, hf, j0, j1, hA⟩ := hu
    rw [G_cuts_80, hd 55 (by omega), hd 60 (by omega), hd 59 (by omega)] at e
    rcases ite_some e with ⟨c0, e⟩ | ⟨c0, e⟩
    · refine ⟨j, q, r, ⟨hc, hd, hf, j0, j1, fun i a b d => ?_⟩, (chk_some e).2, fun X hX => hX⟩
      have := hA i a b d
      rw [this]; omega
    · obtain ⟨_, e⟩ := chk_some e
      have q11 : q 11 0 = r0 55 0 := by rw [hf 11 (by omega)]; exact p5
      have slk := sl k h0 (by omega)
      have miss : ¬ ((r0 60 k = 0 ∧ 0 ≤ r0 59 k) ∧ r0 59 k = t) → ∀ e' : G_cuts_80 k2 m2 t (k + 1) r = some x, ∃ j1 q1 r1, Cu pg hs c B E n q0 r0 (fun i => r0 60 i = 0 ∧ 0 ≤ r0 59 i) (r0 59) (t + 1) 0 j1 q1 r1 ∧ k2 (t + 1) r1 = some x ∧ ∀ X, (∀ m : Nat, 3 - j1 < m → H_4_cut_62 pg hs k62 m j1 q1 = X) → ∀ m : Nat, 3 - j < m → H_4_cut_62 pg hs k62 m j q = X := by
        intro hno e'
        refine ih (k + 1) j q r (by omega) (by omega) ⟨hc, hd, hf, j0, j1, fun i a b d => ?_⟩ e'
        have := hA i a b d
        rw [this]
        by_cases ei : i = k
        · subst ei
          have : r0 59 i ≠ t := fun h => hno ⟨d, h⟩
          omega
        · omega
      rcases ite_some e with ⟨d2, e⟩ | ⟨d2, e⟩
      · obtain ⟨_, e⟩ := chk_some e
        rcases ite_some e with ⟨d3, e⟩ | ⟨d3, e⟩
        · obtain ⟨v1, r1, e1, e2⟩ := cag_some e
          obtain ⟨hc7, rfl, rfl⟩ := dec_inv e1
          obtain ⟨_, e2⟩ := chk_some e2
          have d1 : 0 ≤ r0 59 k := by omega
          have hkj := hA k h0 (by omega) ⟨d2, d1⟩
          have kj : j ≤ k := by omega
          obtain ⟨k1, k2'⟩ := cm_put (k := 11) (x := t) (y := 0) hc hc7.2 (by omega)
          have b := slk.bits
          have a52 := slk.2.2.2.2.2.2.1
          obtain ⟨j2, q2, r2, g1, g2, g3⟩ := ih (k + 1) (k + 1) (hput hs 11 t 0 q) (gdec 11 t 0 r) (by omega) (by omega) ⟨k2', hd.tr (fun i hi => gdec_n hi), fun i hi => by rw [hput_n (by omega)]; exact hf i hi, by omega, by omega, fun i a b d => by
            have h1 := hA i a b d
            rcases Int.lt_trichotomy i k with l | l | l
            · have h2 := (di i k a l (by omega)).2.2 d.2 d1
              omega
            · subst l; omega
            · have h2 := (di k i h0 l b).2.2 d1 d.2
              omega⟩ e2
          refine ⟨j2, q2, r2, g1, g2, fun X hX => ?_⟩
          refine cu_skip2 (k := k) (by omega) (by omega) (fun m hm => ?_) (k - j).toNat j j0 (by omega) (fun i a b => ?_)
          · cases m with
            | zero => omega
            | succ m =>
              have q52 : q 52 k = r0 59 k := by rw [hf 52 (by omega)]; omega
              have q56 : q 56 k = 0 := by rw [hf 56 (by omega)]; omega
              rw [H_4_cut_62, if_f (by omega), chk_t (by omega), if_f (by omega), chk_t (by omega), if_t q56, chk_t (by omega), q52, d3, k1, cag_e, chk_t (by omega)]
              exact g3 X hX m (by omega)
          · rw [hf 52 (by omega), hf 56 (by omega)]
            have sb := (sl i (by omega) (by omega))
            have sbb := sb.bits
            have s52 := sb.2.2.2.2.2.2.1
            by_cases hi : r0 60 i = 0 ∧ 0 ≤ r0 59 i
            · exfalso
              have h1 := hA i (by omega) (by omega) hi
              have h2 := (di i k (by omega) b (by omega)).2.2 hi.2 d1
              omega
            · omega
        · exact miss (fun h => d3 h.2) (chk_some e).2
      · exact miss (fun h => d2 h.1.1) (chk_some e).2
theorem cu_out2 {q0 r0 : Rst} {k62 : Rst → Option G2} {k70 : Rst → Option G2} {x : G2} (hp : P1 hs n q0 r0) : ∀ (m2 : Nat) (t j : Int) (q r : Rst), 0 ≤ t → Cu pg hs c B E n q0 r0 (fun i => r0 60 i = 0 ∧ 0 ≤ r0 59 i) (r0 59) t 0 j q r → G_cuts_70 k70 m2 t r = some x →
    ∃ q1 r1, Cm pg hs c B E n 0 q1 r1 ∧ Dec r0 r1 ∧ (∀ i : Nat, i < 20 ∨ 49 < i → q1 i = q0 i) ∧ k70 r1 = some x ∧ ∀ m : Nat, 3 - j < m → H_4_cut_62 pg hs k62 m j q = k62 q1 := by
  intro m2
  induction m2 with
  | zero => intro t j q r h0 h1 e; cases e
  | succ m2 ih =>
    intro t j q r h0 hu e
    rw [G_cuts_70, hu.2.1 52 (by omega)] at e
    rcases ite_some e with ⟨c0, e⟩ | ⟨c0, e⟩
    · obtain ⟨hc, hd, hf, j0, j1, hA⟩ := hu
      obtain ⟨p1, p2, p3, p4, p5, p6, p7, p8, p9, p10, sl, di⟩ := hp
      have q11 : q 11 0 = r0 55 0 := by rw [hf 11 (by omega)]; exact p5
      refine ⟨q, r, hc, hd, hf, e, ?_⟩
      refine cu_skip2 (k := r0 55 0) (by omega) (by omega) (fun m hm => ?_) (r0 55 0 - j).toNat j j0 (by omega) (fun i a b => ?_)
      · cases m with
        | zero => omega
        | succ m => rw [H_4_cut_62, if_t (by omega)]
      · rw [hf 52 (by omega), hf 56 (by omega)]
        have sb := (sl i (by omega) (by omega))
        have sbb := sb.bits
        have s52 := sb.2.2.2.2.2.2.1
        by_cases hi : r0 60 i = 0 ∧ 0 ≤ r0 59 i
        · exfalso
          have h1 := hA i (by omega) (by omega) hi
          omega
        · omega
    · have p3 := hp.2.2.1
      obtain ⟨j1, q1, r1, g1, g2, g3⟩ := cu_in2 (k62 := k62) hp h0 fuel9 0 j q r (by omega) (by omega) hu e
      obtain ⟨q2, r2, d1, d2, d3, d4, d5⟩ := ih (t + 1) j1 q1 r1 (by omega) g1 g2
      exact ⟨q2, r2, d1, d2, d3, d4, fun m hm => g3 _ d5 m hm⟩
/-- a run that waits is cut, on both sides -/
theorem sy_cut {q r r' : Rst} {v : Int} (hc : Cm pg hs c B E n 0 q r) (hp : P1 hs n q r) (e : G_cuts r = some (v, r')) : ∃ q', H_4_cut pg hs q = some (0, q') ∧ Lag pg hs c B E n 0 q' r' := by
  unfold G_cuts G_cuts_0 at e
  unfold H_4_cut H_4_cut_0
  have hp' := hp
  obtain ⟨p1, p2, p3, p4, p5, p6, p7, p8, p9, p10, sl, di⟩ := hp'
  obtain ⟨q1, r1, a1, a2, a3, a4, a5⟩ := cu_out (k62 := H_4_cut_62 pg hs (H_4_cut_120 pg hs) fuel9) hp fuel9 0 0 q r (by omega) ⟨hc, Dec.rf, fun _ _ => rfl, by omega, by omega, fun i h0 h1 h2 => by
    have := (sl i h0 h1).2.2.1 h2.1
    omega⟩ e
  have hp1 : P1 hs n q1 r1 := by
    unfold P1 SL
    rw [a3 8 (by omega), a3 11 (by omega), a3 9 (by omega), a3 10 (by omega), a3 12 (by omega), a3 14 (by omega), a3 13 (by omega), a3 50 (by omega), a3 51 (by omega), a3 52 (by omega), a3 53 (by omega), a3 54 (by omega), a3 55 (by omega), a3 56 (by omega), a3 57 (by omega), a2 42 (by omega), a2 55 (by omega), a2 40 (by omega), a2 64 (by omega), a2 45 (by omega), a2 47 (by omega), a2 46 (by omega), a2 51 (by omega), a2 52 (by omega), a2 53 (by omega), a2 56 (by omega), a2 57 (by omega), a2 58 (by omega), a2 59 (by omega), a2 60 (by omega), a2 61 (by omega), a2 62 (by omega), a2 63 (by omega)]
    exact hp
  obtain ⟨q2, r2, b1, b2, b3, b4, b5⟩ := cu_out2 (k62 := H_4_cut_120 pg hs) hp1 fuel9 0 0 q1 r1 (by omega) ⟨a1, Dec.rf, fun _ _ => rfl, by omega, by rw [a2 55 (by omega)]; omega, fun i h0 h1 h2 => by omega⟩ a4
  rw [a5 fuel9 (fuel_big (by omega)), b5 fuel9 (fuel_big (by omega))]
  unfold G_cuts_127 at b4
  obtain ⟨v1, r3, e1, e2⟩ := cag_some b4
  cases e2
  unfold H_4_cut_120
  obtain ⟨q', t1, t2⟩ := sy_fails b1 (y := 0) (x := -1) (Or.inl ⟨rfl, rfl⟩) e1
  rw [t1, cag_e]
  exact ⟨q', rfl, t2⟩
/-- a run that goes on is cut: there is nothing to take off -/
theorem sy_cut0 {q r r' : Rst} {v : Int} (hc : Cm pg hs c B E n 0 q r) (h11 : q 11 0 = 0) (e : G_fails (-1) r = some (v, r')) : ∃ q', H_4_cut pg hs q = some (0, q') ∧ Lag pg hs c B E n 0 q' r' := by
  unfold H_4_cut H_4_cut_0
  obtain ⟨k, hk⟩ : ∃ k, fuel9 = k + 1 := ⟨fuel9 - 1, by have := fuel9_ge; omega⟩
  rw [hk, H_4_cut_2, if_t (by omega), H_4_cut_62, if_t (by omega)]
  unfold H_4_cut_120
  obtain ⟨q', t1, t2⟩ := sy_fails hc (y := 0) (x := -1) (Or.inl ⟨rfl, rfl⟩) e
  rw [t1, cag_e]
  exact ⟨q', rfl, t2⟩
end CU
