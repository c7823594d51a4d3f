/-! the class looks ahead for the next DECIDED, and for what follows it -/
section LA
variable {pg hs : Rst} {E : Int}
theorem la_74 (hE : hs 3 0 = E) (hE8 : E ≤ 80) : ∀ (m : Nat) (q : Rst), 0 ≤ q 41 0 → E - q 41 0 < m → 0 < m → ∃ b, q 41 0 ≤ b ∧ (b ≤ E ∨ b = q 41 0) ∧ (∀ j, q 41 0 ≤ j → j < b → 7 < hs 0 j) ∧ (b < E → hs 0 b ≤ 7) ∧ H_1_lookAhead_74 pg hs m q = some (0, ur q 41 0 b) := by
  intro m
  induction m with
  | zero => intro q h0 h1 h2; omega
  | succ m ih =>
    intro q h0 h1 h2
    rw [H_1_lookAhead_74]
    have es : ur q 41 0 (q 41 0) = q := ur_same rfl
    by_cases c0 : hs 3 0 ≤ q 41 0
    · rw [if_t c0]
      exact ⟨q 41 0, Int.le_refl _, Or.inr rfl, fun j a b => by omega, fun h => by omega, by rw [es]⟩
    · rw [if_f c0, if_f (by omega), chk_t (by omega)]
      by_cases c1 : hs 0 (q 41 0) ≤ 7
      · rw [if_t c1]
        exact ⟨q 41 0, Int.le_refl _, Or.inr rfl, fun j a b => by omega, fun _ => c1, by rw [es]⟩
      · rw [if_f c1, chk_t (by omega), stg_e]
        have e41 : ur q 41 0 (q 41 0 + 1) 41 0 = q 41 0 + 1 := ur_e rfl rfl
        obtain ⟨b, b1, b2, b3, b4, b5⟩ := ih (ur q 41 0 (q 41 0 + 1)) (by omega) (by omega) (by omega)
        rw [e41] at b1 b2 b3
        rw [ur_ur] at b5
        refine ⟨b, by omega, by omega, fun j a d => ?_, b4, b5⟩
        by_cases ej : j = q 41 0
        · rw [ej]; omega
        · exact b3 j (by omega) d
theorem la_2 {k39 : Int → Rst → Option G2} {q : Rst} (hE : hs 3 0 = E) (hE8 : E ≤ 80) : ∀ (m : Nat) (i : Int), 0 ≤ i → E - i < m → 0 < m → ∃ d, i ≤ d ∧ (d ≤ E ∨ d = i) ∧ (∀ j, i ≤ j → j < d → hs 0 j ≠ 7) ∧ (d < E → hs 0 d = 7) ∧ H_1_lookAhead_2 pg hs k39 m i q = k39 d q := by
  intro m
  induction m with
  | zero => intro i h0 h1 h2; omega
  | succ m ih =>
    intro i h0 h1 h2
    rw [H_1_lookAhead_2]
    by_cases c0 : hs 3 0 ≤ i
    · rw [if_t c0]
      exact ⟨i, Int.le_refl _, Or.inr rfl, fun j a b => by omega, fun h => by omega, rfl⟩
    · rw [if_f c0, if_f (by omega), chk_t (by omega)]
      by_cases c1 : hs 0 i = 7
      · rw [if_t c1]
        exact ⟨i, Int.le_refl _, Or.inr rfl, fun j a b => by omega, fun _ => c1, rfl⟩
      · rw [if_f c1, chk_t (by omega)]
        obtain ⟨d, d1, d2, d3, d4, d5⟩ := ih (i + 1) (by omega) (by omega) (by omega)
        refine ⟨d, by omega, by omega, fun j a b => ?_, d4, d5⟩
        by_cases ej : j = i
        · rw [ej]; exact c1
        · exact d3 j (by omega) b
/-- what looking ahead from a place finds -/
theorem la_ok {q : Rst} {a : Int} (hE : hs 3 0 = E) (hE8 : E ≤ 80) (ha : 0 ≤ a) (ha2 : a ≤ E) : ∃ d b, a ≤ d ∧ d ≤ E ∧ (∀ j, a ≤ j → j < d → hs 0 j ≠ 7) ∧ (d < E → hs 0 d = 7) ∧ d + 1 ≤ b ∧ (b ≤ E ∨ b = d + 1) ∧ (∀ j, d + 1 ≤ j → j < b → 7 < hs 0 j) ∧ (b < E → hs 0 b ≤ 7) ∧ H_1_lookAhead pg hs a q = some (0, ur (ur (ur q 37 0 (if d < E then 1 else 0)) 40 0 (d + 1)) 41 0 b) := by
  have f9 := fuel9_ge
  unfold H_1_lookAhead H_1_lookAhead_0
  obtain ⟨d, d1, d2, d3, d4, d5⟩ := la_2 (pg := pg) (k39 := H_1_lookAhead_39 pg hs) (q := q) hE hE8 fuel9 a ha (by omega) (by omega)
  rw [d5]
  unfold H_1_lookAhead_39 H_1_lookAhead_56
  have go : ∀ s0, s0 = 0 ∨ s0 = 1 → ∃ b, d + 1 ≤ b ∧ (b ≤ E ∨ b = d + 1) ∧ (∀ j, d + 1 ≤ j → j < b → 7 < hs 0 j) ∧ (b < E → hs 0 b ≤ 7) ∧ (chk9 (s0 = 0 ∨ s0 = 1) <| stg (ur q 37 0 s0) fun q2 => chk9 (iR (d + 1)) <| stg (ur q2 40 0 (d + 1)) fun q6 => stg (ur q6 41 0 (q6 40 0)) fun q9 => H_1_lookAhead_74 pg hs fuel9 q9) = some (0, ur (ur (ur q 37 0 s0) 40 0 (d + 1)) 41 0 b) := by
    intro s0 hs0
    have e40 : ur (ur q 37 0 s0) 40 0 (d + 1) 40 0 = d + 1 := ur_e rfl rfl
    have e41 : ur (ur (ur q 37 0 s0) 40 0 (d + 1)) 41 0 (d + 1) 41 0 = d + 1 := ur_e rfl rfl
    rw [chk_t hs0, stg_e, chk_t (by omega), stg_e, stg_e, e40]
    obtain ⟨b, b1, b2, b3, b4, b5⟩ := la_74 (pg := pg) hE hE8 fuel9 (ur (ur (ur q 37 0 s0) 40 0 (d + 1)) 41 0 (d + 1)) (by omega) (by omega) (by omega)
    rw [e41] at b1 b2 b3
    rw [ur_ur] at b5
    exact ⟨b, b1, b2, b3, b4, b5⟩
  by_cases c0 : hs 3 0 ≤ d
  · obtain ⟨b, b1, b2, b3, b4, b5⟩ := go 0 (Or.inl rfl)
    rw [if_t c0]
    refine ⟨d, b, d1, by omega, d3, d4, b1, b2, b3, b4, ?_⟩
    rw [if_f (show ¬ d < E by omega)]
    exact b5
  · obtain ⟨b, b1, b2, b3, b4, b5⟩ := go 1 (Or.inr rfl)
    rw [if_f c0]
    refine ⟨d, b, d1, by omega, d3, d4, b1, b2, b3, b4, ?_⟩
    rw [if_t (show d < E by omega)]
    exact b5
end LA
