/-! the reference: whether it is as told, and where what is told ends -/
def Mat (r : Rst) (k : Int) : Prop := r 72 k = r 19 (r 78 0 + k) ∧ r 73 k = r 20 (r 78 0 + k) ∧ r 74 k = r 21 (r 78 0 + k)
theorem f_told24 {r : Rst} (h0 : 0 ≤ r 78 0) (h1 : r 78 0 + r 76 0 ≤ 7200) (h2 : r 76 0 ≤ 5200) : ∀ (m : Nat) (l1 l2 : Int), 0 ≤ l2 → (l2 ≤ r 76 0 ∨ l1 = 0) → r 76 0 - l2 < m → 0 < m → (l1 = 0 ∨ l1 = 1) → ∃ v, G_isAsTold_24 m l1 l2 r = some (v, r) ∧ (v = 0 ∨ v = 1) ∧ (v = 1 ↔ l1 = 1 ∧ ∀ k, l2 ≤ k → k < r 76 0 → Mat r k) := by
  intro m
  induction m with
  | zero => intro l1 l2 g0 g1 g2 g3; omega
  | succ m ih =>
    intro l1 l2 g0 g1 g2 g3 g4
    rw [G_isAsTold_24]
    by_cases c0 : r 76 0 ≤ l2
    · rw [if_t c0]
      exact ⟨l1, rfl, g4, fun h => ⟨h, fun k a b => by omega⟩, fun h => h.1⟩
    · rw [if_f c0]
      by_cases c1 : l1 = 0
      · rw [if_t c1]
        exact ⟨l1, rfl, g4, fun h => by omega, fun h => h.1⟩
      · have no : ¬ Mat r l2 → ∃ v, G_isAsTold_24 m 0 (l2 + 1) r = some (v, r) ∧ (v = 0 ∨ v = 1) ∧ (v = 1 ↔ l1 = 1 ∧ ∀ k, l2 ≤ k → k < r 76 0 → Mat r k) := fun hn => by
          obtain ⟨v, e, hv0, hv⟩ := ih 0 (l2 + 1) (by omega) (Or.inr rfl) (by omega) (by omega) (Or.inl rfl)
          refine ⟨v, e, hv0, ?_⟩
          rw [hv]
          exact ⟨fun h => absurd h.1 (by decide), fun h => absurd (h.2 l2 (Int.le_refl _) (by omega)) hn⟩
        rw [if_f c1, chk_t (by omega), chk_t (by omega), chk_t (by omega)]
        by_cases d1 : r 72 l2 = r 19 (r 78 0 + l2)
        · rw [if_t d1, chk_t (by omega), chk_t (by omega), chk_t (by omega)]
          by_cases d2 : r 73 l2 = r 20 (r 78 0 + l2)
          · rw [if_t d2, chk_t (by omega), chk_t (by omega), chk_t (by omega)]
            by_cases d3 : r 74 l2 = r 21 (r 78 0 + l2)
            · rw [if_t d3, chk_t (by omega)]
              obtain ⟨v, e, hv0, hv⟩ := ih 1 (l2 + 1) (by omega) (Or.inl (by omega)) (by omega) (by omega) (Or.inr rfl)
              refine ⟨v, e, hv0, ?_⟩
              rw [hv]
              refine ⟨fun h => ⟨by omega, fun k a b => ?_⟩, fun h => ⟨rfl, fun k a b => h.2 k (by omega) b⟩⟩
              by_cases ek : k = l2
              · rw [ek]; exact ⟨d1, d2, d3⟩
              · exact h.2 k (by omega) b
            · rw [if_f d3, chk_t (by omega)]
              exact no fun h => d3 h.2.2
          · rw [if_f d2, chk_t (by omega)]
            exact no fun h => d2 h.2.1
        · rw [if_f d1, chk_t (by omega)]
          exact no fun h => d1 h.1
theorem f_told {r : Rst} (h0 : 0 ≤ r 78 0) (h76 : 0 ≤ r 76 0) (h2 : r 76 0 ≤ 5200) (h3 : r 79 0 ≤ 7200) (h4 : r 78 0 ≤ 8000) (h5 : -1000 ≤ r 79 0) : ∃ v, G_isAsTold r = some (v, r) ∧ (v = 0 ∨ v = 1) ∧ (v = 1 ↔ r 76 0 = r 79 0 - r 78 0 ∧ ∀ k, 0 ≤ k → k < r 76 0 → Mat r k) := by
  have f9 := fuel9_ge
  unfold G_isAsTold G_isAsTold_0
  rw [chk_t (by omega)]
  by_cases c0 : r 76 0 = r 79 0 - r 78 0
  · obtain ⟨v, e, hv0, hv⟩ := f_told24 h0 (by omega) h2 fuel9 1 0 (by omega) (by omega) (by omega) (by omega) (Or.inr rfl)
    rw [if_t c0, e, boolG_e hv0]
    refine ⟨v, rfl, hv0, ?_⟩
    rw [hv]
    exact ⟨fun h => ⟨c0, h.2⟩, fun h => ⟨rfl, h.2⟩⟩
  · rw [if_f c0]
    obtain ⟨k, hk⟩ : ∃ k, fuel9 = k + 1 := ⟨fuel9 - 1, by omega⟩
    have e : G_isAsTold_24 fuel9 0 0 r = some (0, r) := by
      rw [hk, G_isAsTold_24]
      by_cases c1 : r 76 0 ≤ 0
      · rw [if_t c1]
      · rw [if_f c1, if_t rfl]
    rw [e, boolG_e (Or.inl rfl)]
    exact ⟨0, rfl, Or.inl rfl, fun h => by omega, fun h => absurd h.1 c0⟩
/-- where what is told ends -/
theorem f_end4 {r : Rst} {H : Int} (hH : H ≤ 7200) : ∀ (m : Nat) (i : Int), 0 ≤ i → H - i < m → 0 < m → ∃ b, i ≤ b ∧ (b ≤ H ∨ b = i) ∧ (∀ j, i ≤ j → j < b → 7 < r 19 j) ∧ (b < H → r 19 b ≤ 7) ∧ G_endOf_4 m H i r = some (b, r) := by
  intro m
  induction m with
  | zero => intro i h0 h1 h2; omega
  | succ m ih =>
    intro i h0 h1 h2
    rw [G_endOf_4]
    by_cases c0 : H ≤ i
    · rw [if_t c0]
      exact ⟨i, Int.le_refl _, Or.inr rfl, fun j a b => by omega, fun h => by omega, rfl⟩
    · rw [if_f c0, chk_t (by omega)]
      by_cases c1 : r 19 i ≤ 7
      · rw [if_t c1]
        exact ⟨i, Int.le_refl _, Or.inr rfl, fun j a b => by omega, fun _ => c1, rfl⟩
      · rw [if_f c1, chk_t (by omega)]
        obtain ⟨b, b1, b2, b3, b4, b5⟩ := ih (i + 1) (by omega) (by omega) (by omega)
        refine ⟨b, by omega, by omega, fun j a d => ?_, b4, b5⟩
        by_cases ej : j = i
        · rw [ej]; omega
        · exact b3 j (by omega) d
theorem f_end {r : Rst} {H i : Int} (hH : H ≤ 7200) (h0 : 0 ≤ i) (h1 : i < H) : ∃ b, i + 1 ≤ b ∧ b ≤ H ∧ (∀ j, i + 1 ≤ j → j < b → 7 < r 19 j) ∧ (b < H → r 19 b ≤ 7) ∧ G_endOf i H r = some (b, r) := by
  have f9 := fuel9_ge
  unfold G_endOf G_endOf_0
  rw [chk_t (by omega)]
  obtain ⟨b, b1, b2, b3, b4, b5⟩ := f_end4 (r := r) hH fuel9 (i + 1) (by omega) (by omega) (by omega)
  exact ⟨b, b1, by omega, b3, b4, b5⟩
