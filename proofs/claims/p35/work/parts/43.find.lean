/-! the reference's searches: what they find; nothing is changed -/
theorem f_untaken (l1 : Int) (r : Rst) : ∀ (n : Nat) (l2 l3 : Int), -1 ≤ l3 → l3 < 80 → l3 + 1 < n → ∃ v, G_untaken_9 n l1 l2 l3 r = some (v, r) ∧ (v = l2 ∧ (∀ k, 0 ≤ k → k ≤ l3 → ¬ (r 65 k = l1 ∧ r 67 k = 0)) ∨ (0 ≤ v ∧ v ≤ l3) ∧ (r 65 v = l1 ∧ r 67 v = 0) ∧ ∀ k, 0 ≤ k → k < v → ¬ (r 65 k = l1 ∧ r 67 k = 0)) := by
  intro n
  induction n with
  | zero => intro l2 l3 h1 h2 h3; omega
  | succ n ih =>
    intro l2 l3 h1 h2 h3
    rw [G_untaken_9]
    by_cases c : l3 < 0
    · rw [if_t c]
      exact ⟨l2, rfl, Or.inl ⟨rfl, fun k _ _ => by omega⟩⟩
    · rw [if_f c]
      by_cases c1 : r 65 l3 = l1
      · by_cases c2 : r 67 l3 = 0
        · obtain ⟨v, e, hv⟩ := ih l3 (l3 + -1) (by omega) (by omega) (by omega)
          refine ⟨v, by simp (disch := omega) only [chk_t, if_t]; exact e, Or.inr ?_⟩
          rcases hv with ⟨rfl, hv⟩ | ⟨hv1, hv2, hv3⟩
          · exact ⟨⟨by omega, by omega⟩, ⟨c1, c2⟩, fun k hk hk2 => hv k hk (by omega)⟩
          · exact ⟨⟨by omega, by omega⟩, hv2, hv3⟩
        · obtain ⟨v, e, hv⟩ := ih l2 (l3 + -1) (by omega) (by omega) (by omega)
          refine ⟨v, by simp (disch := omega) only [chk_t, if_t, if_f]; exact e, ?_⟩
          rcases hv with ⟨rfl, hv⟩ | ⟨hv1, hv2, hv3⟩
          · refine Or.inl ⟨rfl, fun k hk hk2 => ?_⟩
            by_cases e2 : k = l3
            · rw [e2]; exact fun h => c2 h.2
            · exact hv k hk (by omega)
          · exact Or.inr ⟨⟨by omega, by omega⟩, hv2, hv3⟩
      · obtain ⟨v, e, hv⟩ := ih l2 (l3 + -1) (by omega) (by omega) (by omega)
        refine ⟨v, by simp (disch := omega) only [chk_t, if_f]; exact e, ?_⟩
        rcases hv with ⟨rfl, hv⟩ | ⟨hv1, hv2, hv3⟩
        · refine Or.inl ⟨rfl, fun k hk hk2 => ?_⟩
          by_cases e2 : k = l3
          · rw [e2]; exact fun h => c1 h.1
          · exact hv k hk (by omega)
        · exact Or.inr ⟨⟨by omega, by omega⟩, hv2, hv3⟩
theorem fuel_big {x : Int} (h : x < 100000) : x < (fuel9 : Nat) := by
  have := fuel9_ge
  omega
theorem f_untaken0 {l1 : Int} {r : Rst} (h0 : 0 ≤ r 68 0) (h1 : r 68 0 ≤ 80) : ∃ v, G_untaken l1 r = some (v, r) ∧ (v = -1 ∧ (∀ k, 0 ≤ k → k < r 68 0 → ¬ (r 65 k = l1 ∧ r 67 k = 0)) ∨ (0 ≤ v ∧ v < r 68 0) ∧ (r 65 v = l1 ∧ r 67 v = 0) ∧ ∀ k, 0 ≤ k → k < v → ¬ (r 65 k = l1 ∧ r 67 k = 0)) := by
  unfold G_untaken G_untaken_0
  obtain ⟨v, e, hv⟩ := f_untaken l1 r fuel9 (-1) (r 68 0 - 1) (by omega) (by omega) (fuel_big (by omega))
  refine ⟨v, by simp (disch := omega) only [chk_t]; exact e, ?_⟩
  rcases hv with ⟨rfl, hv⟩ | ⟨hv1, hv2, hv3⟩
  · exact Or.inl ⟨rfl, fun k hk hk2 => hv k hk (by omega)⟩
  · exact Or.inr ⟨⟨by omega, by omega⟩, hv2, hv3⟩
theorem f_areDone (r : Rst) (hb : ∀ k, 0 ≤ k → k < r 55 0 → r 60 k = 0 ∨ r 60 k = 1) (hw : r 55 0 ≤ 3) : ∀ (n : Nat) (l1 l2 : Int), 0 ≤ l2 → l2 ≤ 3 → 3 - l2 < n → (l1 = 0 ∨ l1 = 1) → ∃ v, G_areDone_4 n l1 l2 r = some (v, r) ∧ (v = 0 ∨ v = 1) ∧ (v = 1 ↔ l1 = 1 ∧ ∀ k, l2 ≤ k → k < r 55 0 → r 60 k = 1) := by
  intro n
  induction n with
  | zero => intro l1 l2 h1 h2 h3; omega
  | succ n ih =>
    intro l1 l2 h1 h2 h3 hl
    rw [G_areDone_4]
    by_cases c : r 55 0 ≤ l2
    · rw [if_t c]
      exact ⟨l1, rfl, hl, fun h => ⟨h, fun k _ _ => by omega⟩, fun h => h.1⟩
    · rw [if_f c]
      by_cases c1 : l1 = 0
      · obtain ⟨v, e, hv0, hv⟩ := ih 0 (l2 + 1) (by omega) (by omega) (by omega) (Or.inl rfl)
        refine ⟨v, by simp (disch := omega) only [chk_t, if_t]; exact e, hv0, ?_⟩
        rw [hv]
        exact ⟨fun h => absurd h.1 (by decide), fun h => by omega⟩
      · by_cases c2 : r 60 l2 = 0
        · obtain ⟨v, e, hv0, hv⟩ := ih 0 (l2 + 1) (by omega) (by omega) (by omega) (Or.inl rfl)
          refine ⟨v, by simp (disch := omega) only [chk_t, if_t, if_f]; exact e, hv0, ?_⟩
          rw [hv]
          refine ⟨fun h => absurd h.1 (by decide), fun h => ?_⟩
          have := h.2 l2 (by omega) (by omega)
          omega
        · obtain ⟨v, e, hv0, hv⟩ := ih 1 (l2 + 1) (by omega) (by omega) (by omega) (Or.inr rfl)
          refine ⟨v, by simp (disch := omega) only [chk_t, if_f]; exact e, hv0, ?_⟩
          rw [hv]
          refine ⟨fun h => ⟨by omega, fun k hk hk2 => ?_⟩, fun h => ⟨rfl, fun k hk hk2 => h.2 k (by omega) hk2⟩⟩
          by_cases e2 : k = l2
          · rw [e2]; have := hb l2 h1 (by omega); omega
          · exact h.2 k (by omega) hk2
theorem f_areDone0 {r : Rst} (hb : ∀ k, 0 ≤ k → k < r 55 0 → r 60 k = 0 ∨ r 60 k = 1) (hw : r 55 0 ≤ 3) : ∃ v, G_areDone r = some (v, r) ∧ (v = 0 ∨ v = 1) ∧ (v = 1 ↔ ∀ k, 0 ≤ k → k < r 55 0 → r 60 k = 1) := by
  obtain ⟨v, e, hv0, hv⟩ := f_areDone r hb hw fuel9 1 0 (by omega) (by omega) (fuel_big (by omega)) (Or.inr rfl)
  refine ⟨v, ?_, hv0, ?_⟩
  · unfold G_areDone G_areDone_0
    rw [e]
    exact boolG_e hv0
  · rw [hv]
    exact ⟨fun h => h.2, fun h => ⟨rfl, h⟩⟩
/-- a search upwards that keeps the last one found -/
theorem f_waiting (l1 l2 : Int) (r : Rst) (hw : r 55 0 ≤ 3) : ∀ (n : Nat) (l3 l4 : Int), 0 ≤ l4 → l4 ≤ 3 → 3 - l4 < n → ∃ v, G_waiting_5 n l1 l2 l3 l4 r = some (v, r) ∧ (v = l3 ∧ (∀ k, l4 ≤ k → k < r 55 0 → ¬ (r 56 k = l1 ∧ r 58 k = l2 ∧ r 60 k = 0)) ∨ (l4 ≤ v ∧ v < r 55 0) ∧ r 56 v = l1 ∧ r 58 v = l2 ∧ r 60 v = 0) := by
  intro n
  induction n with
  | zero => intro l3 l4 h1 h2 h3; omega
  | succ n ih =>
    intro l3 l4 h1 h2 h3
    rw [G_waiting_5]
    by_cases c : r 55 0 ≤ l4
    · rw [if_t c]
      exact ⟨l3, rfl, Or.inl ⟨rfl, fun k _ _ => by omega⟩⟩
    · rw [if_f c]
      by_cases c0 : r 56 l4 = l1 ∧ r 58 l4 = l2 ∧ r 60 l4 = 0
      · obtain ⟨v, e, hv⟩ := ih l4 (l4 + 1) (by omega) (by omega) (by omega)
        refine ⟨v, by simp (disch := omega) only [chk_t, if_t]; exact e, Or.inr ?_⟩
        rcases hv with ⟨rfl, hv⟩ | ⟨hv1, hv2⟩
        · exact ⟨⟨by omega, by omega⟩, c0⟩
        · exact ⟨⟨by omega, by omega⟩, hv2⟩
      · obtain ⟨v, e, hv⟩ := ih l3 (l4 + 1) (by omega) (by omega) (by omega)
        refine ⟨v, ?_, ?_⟩
        · by_cases c1 : r 56 l4 = l1
          · by_cases c2 : r 58 l4 = l2
            · by_cases c3 : r 60 l4 = 0
              · exact absurd ⟨c1, c2, c3⟩ c0
              · simp (disch := omega) only [chk_t, if_t, if_f]; exact e
            · simp (disch := omega) only [chk_t, if_t, if_f]; exact e
          · simp (disch := omega) only [chk_t, if_f]; exact e
        · rcases hv with ⟨rfl, hv⟩ | ⟨hv1, hv2⟩
          · refine Or.inl ⟨rfl, fun k hk hk2 => ?_⟩
            by_cases e2 : k = l4
            · rw [e2]; exact c0
            · exact hv k (by omega) hk2
          · exact Or.inr ⟨⟨by omega, by omega⟩, hv2⟩
theorem f_waiting0 {l1 l2 : Int} {r : Rst} (hw : r 55 0 ≤ 3) : ∃ v, G_waiting l1 l2 r = some (v, r) ∧ (v = -1 ∧ (∀ k, 0 ≤ k → k < r 55 0 → ¬ (r 56 k = l1 ∧ r 58 k = l2 ∧ r 60 k = 0)) ∨ (0 ≤ v ∧ v < r 55 0) ∧ r 56 v = l1 ∧ r 58 v = l2 ∧ r 60 v = 0) :=
  f_waiting l1 l2 r hw fuel9 (-1) 0 (by omega) (by omega) (fuel_big (by omega))
theorem f_waitingT (l1 : Int) (r : Rst) (hw : r 55 0 ≤ 3) : ∀ (n : Nat) (l3 l4 : Int), 0 ≤ l4 → l4 ≤ 3 → 3 - l4 < n → ∃ v, G_waitingTimer_4 n l1 l3 l4 r = some (v, r) ∧ (v = l3 ∧ (∀ k, l4 ≤ k → k < r 55 0 → ¬ (r 59 k = l1 ∧ r 60 k = 0)) ∨ (l4 ≤ v ∧ v < r 55 0) ∧ r 59 v = l1 ∧ r 60 v = 0) := by
  intro n
  induction n with
  | zero => intro l3 l4 h1 h2 h3; omega
  | succ n ih =>
    intro l3 l4 h1 h2 h3
    rw [G_waitingTimer_4]
    by_cases c : r 55 0 ≤ l4
    · rw [if_t c]
      exact ⟨l3, rfl, Or.inl ⟨rfl, fun k _ _ => by omega⟩⟩
    · rw [if_f c]
      by_cases c0 : r 59 l4 = l1 ∧ r 60 l4 = 0
      · obtain ⟨v, e, hv⟩ := ih l4 (l4 + 1) (by omega) (by omega) (by omega)
        refine ⟨v, by simp (disch := omega) only [chk_t, if_t]; exact e, Or.inr ?_⟩
        rcases hv with ⟨rfl, hv⟩ | ⟨hv1, hv2⟩
        · exact ⟨⟨by omega, by omega⟩, c0⟩
        · exact ⟨⟨by omega, by omega⟩, hv2⟩
      · obtain ⟨v, e, hv⟩ := ih l3 (l4 + 1) (by omega) (by omega) (by omega)
        refine ⟨v, ?_, ?_⟩
        · by_cases c2 : r 59 l4 = l1
          · by_cases c3 : r 60 l4 = 0
            · exact absurd ⟨c2, c3⟩ c0
            · simp (disch := omega) only [chk_t, if_t, if_f]; exact e
          · simp (disch := omega) only [chk_t, if_f]; exact e
        · rcases hv with ⟨rfl, hv⟩ | ⟨hv1, hv2⟩
          · refine Or.inl ⟨rfl, fun k hk hk2 => ?_⟩
            by_cases e2 : k = l4
            · rw [e2]; exact c0
            · exact hv k (by omega) hk2
          · exact Or.inr ⟨⟨by omega, by omega⟩, hv2⟩
theorem f_waitingT0 {l1 : Int} {r : Rst} (hw : r 55 0 ≤ 3) : ∃ v, G_waitingTimer l1 r = some (v, r) ∧ (v = -1 ∧ (∀ k, 0 ≤ k → k < r 55 0 → ¬ (r 59 k = l1 ∧ r 60 k = 0)) ∨ (0 ≤ v ∧ v < r 55 0) ∧ r 59 v = l1 ∧ r 60 v = 0) :=
  f_waitingT l1 r hw fuel9 (-1) 0 (by omega) (by omega) (fuel_big (by omega))
theorem f_waitingS (l1 : Int) (r : Rst) : ∀ (n : Nat) (l2 l3 : Int), -1 ≤ l3 → l3 < 3 → l3 + 1 < n → ∃ v, G_waitingSignal_9 n l1 l2 l3 r = some (v, r) ∧ (v = l2 ∧ (∀ k, 0 ≤ k → k ≤ l3 → ¬ (r 56 k = 2 ∧ r 57 k = l1 ∧ r 60 k = 0)) ∨ (0 ≤ v ∧ v ≤ l3) ∧ (r 56 v = 2 ∧ r 57 v = l1 ∧ r 60 v = 0) ∧ ∀ k, 0 ≤ k → k < v → ¬ (r 56 k = 2 ∧ r 57 k = l1 ∧ r 60 k = 0)) := by
  intro n
  induction n with
  | zero => intro l2 l3 h1 h2 h3; omega
  | succ n ih =>
    intro l2 l3 h1 h2 h3
    rw [G_waitingSignal_9]
    by_cases c : l3 < 0
    · rw [if_t c]
      exact ⟨l2, rfl, Or.inl ⟨rfl, fun k _ _ => by omega⟩⟩
    · rw [if_f c]
      by_cases c0 : r 56 l3 = 2 ∧ r 57 l3 = l1 ∧ r 60 l3 = 0
      · obtain ⟨v, e, hv⟩ := ih l3 (l3 + -1) (by omega) (by omega) (by omega)
        refine ⟨v, by simp (disch := omega) only [chk_t, if_t]; exact e, Or.inr ?_⟩
        rcases hv with ⟨rfl, hv⟩ | ⟨hv1, hv2, hv3⟩
        · exact ⟨⟨by omega, by omega⟩, c0, fun k hk hk2 => hv k hk (by omega)⟩
        · exact ⟨⟨by omega, by omega⟩, hv2, hv3⟩
      · obtain ⟨v, e, hv⟩ := ih l2 (l3 + -1) (by omega) (by omega) (by omega)
        refine ⟨v, ?_, ?_⟩
        · by_cases c1 : r 56 l3 = 2
          · by_cases c2 : r 57 l3 = l1
            · by_cases c3 : r 60 l3 = 0
              · exact absurd ⟨c1, c2, c3⟩ c0
              · simp (disch := omega) only [chk_t, if_t, if_f]; exact e
            · simp (disch := omega) only [chk_t, if_t, if_f]; exact e
          · simp (disch := omega) only [chk_t, if_f]; exact e
        · rcases hv with ⟨rfl, hv⟩ | ⟨hv1, hv2, hv3⟩
          · refine Or.inl ⟨rfl, fun k hk hk2 => ?_⟩
            by_cases e2 : k = l3
            · rw [e2]; exact c0
            · exact hv k hk (by omega)
          · exact Or.inr ⟨⟨by omega, by omega⟩, hv2, hv3⟩
theorem f_waitingS0 {l1 : Int} {r : Rst} (h0 : 0 ≤ r 55 0) (hw : r 55 0 ≤ 3) : ∃ v, G_waitingSignal l1 r = some (v, r) ∧ (v = -1 ∧ (∀ k, 0 ≤ k → k < r 55 0 → ¬ (r 56 k = 2 ∧ r 57 k = l1 ∧ r 60 k = 0)) ∨ (0 ≤ v ∧ v < r 55 0) ∧ (r 56 v = 2 ∧ r 57 v = l1 ∧ r 60 v = 0) ∧ ∀ k, 0 ≤ k → k < v → ¬ (r 56 k = 2 ∧ r 57 k = l1 ∧ r 60 k = 0)) := by
  unfold G_waitingSignal G_waitingSignal_0
  obtain ⟨v, e, hv⟩ := f_waitingS l1 r fuel9 (-1) (r 55 0 - 1) (by omega) (by omega) (fuel_big (by omega))
  refine ⟨v, by simp (disch := omega) only [chk_t]; exact e, ?_⟩
  rcases hv with ⟨rfl, hv⟩ | ⟨hv1, hv2, hv3⟩
  · exact Or.inl ⟨rfl, fun k hk hk2 => hv k hk (by omega)⟩
  · exact Or.inr ⟨⟨by omega, by omega⟩, hv2, hv3⟩
