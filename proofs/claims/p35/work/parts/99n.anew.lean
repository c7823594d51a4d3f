/-! one call on both sides: registerAnew -/
section RA
variable {cd : Int → Int} {N : Int} {r r' : Rst} {m m' : Mem} {w ver : Int}
theorem plays_none {l4 l5 : Int} : ∀ (d n : Nat) (l6 : Int) (z : Rst), l4 - l6 = d → 0 ≤ l6 → l4 ≤ 7200 → (d : Int) < n → (∀ i, l6 ≤ i → i < l4 → z 19 i ≠ 7) → G_plays_58 n l4 l5 l6 z = some (l5, z) := by
  intro d
  induction d with
  | zero =>
    intro n l6 z c0 c1 c2 c3 c4
    obtain ⟨n, rfl⟩ : ∃ k, n = k + 1 := ⟨n - 1, by omega⟩
    rw [G_plays_58, if_t (by omega)]
  | succ d ih =>
    intro n l6 z c0 c1 c2 c3 c4
    obtain ⟨n, rfl⟩ : ∃ k, n = k + 1 := ⟨n - 1, by omega⟩
    rw [G_plays_58, if_f (by omega), if_f (c4 l6 (by omega) (by omega)), chk_t (by omega), chk_t (by omega)]
    exact ih n (l6 + 1) z (by omega) (by omega) c2 (by omega) fun i a b => c4 i (by omega) b
theorem any_loop {row E : Int} (r0 : 0 ≤ row ∧ row < 90) (hE : E = r 18 row) (h8 : E ≤ 80) : ∀ (d n : Nat) (l2 l4 : Int), E - l4 = d → 0 ≤ l4 → (d : Int) < n → (l2 = 0 ∨ l2 = 1) → ∃ v, G_isAny_11 n l2 row l4 r = some (v, r) ∧ (v = 0 ∨ v = 1) ∧ (v = 0 → l2 = 0 ∧ ∀ i, l4 ≤ i → i < E → r 19 (80 * row + i) ≠ 7) := by
  intro d
  induction d with
  | zero =>
    intro n l2 l4 c0 c1 c2 c3
    obtain ⟨n, rfl⟩ : ∃ k, n = k + 1 := ⟨n - 1, by omega⟩
    rw [G_isAny_11, chk_t (by omega), if_t (by omega)]
    exact ⟨l2, rfl, c3, fun h => ⟨h, fun i a b => by omega⟩⟩
  | succ d ih =>
    intro n l2 l4 c0 c1 c2 c3
    obtain ⟨n, rfl⟩ : ∃ k, n = k + 1 := ⟨n - 1, by omega⟩
    rw [G_isAny_11, chk_t (by omega), if_f (by omega)]
    rcases c3 with rfl | rfl
    · rw [if_t rfl]
      by_cases c : r 19 (80 * row + l4) = 7
      · rw [if_t c]
        repeat rw [chk_t (by omega)]
        obtain ⟨v, y1, y2, y3⟩ := ih n 1 (l4 + 1) (by omega) (by omega) (by omega) (Or.inr rfl)
        exact ⟨v, y1, y2, fun hv => absurd (y3 hv).1 (by decide)⟩
      · rw [if_f c]
        repeat rw [chk_t (by omega)]
        obtain ⟨v, y1, y2, y3⟩ := ih n 0 (l4 + 1) (by omega) (by omega) (by omega) (Or.inl rfl)
        refine ⟨v, y1, y2, fun hv => ⟨rfl, fun i a b => ?_⟩⟩
        by_cases e : i = l4
        · rw [e]; exact c
        · exact (y3 hv).2 i (by omega) b
    · rw [if_f (show ¬ (1 : Int) = 0 by decide)]
      repeat rw [chk_t (by omega)]
      obtain ⟨v, y1, y2, y3⟩ := ih n 1 (l4 + 1) (by omega) (by omega) (by omega) (Or.inr rfl)
      exact ⟨v, y1, y2, fun hv => absurd (y3 hv).1 (by decide)⟩
/-- the player's own fields change alone -/
theorem GI.fr3 (h : GI N r) (e : ∀ j : Nat, 1 ≤ j → j < 40 → r' j = r j) (fp : Fb r' ∧ Pt r') : GI N r' := by
  obtain ⟨c1, c2, c3, c4, c5, c6, c7, c8, c9⟩ := h
  refine ⟨by rw [e 16 (by omega) (by omega)]; exact c1, ?_, fp, ?_, ?_, fun w a b => ?_, ?_, ?_, ?_⟩
  · unfold GP StC PgR at *
    simp (disch := omega) only [ur_ne, ur_e] at c2 ⊢
    rw [e 2 (by omega) (by omega), e 3 (by omega) (by omega), e 4 (by omega) (by omega), e 5 (by omega) (by omega), e 6 (by omega) (by omega)]
    exact c2
  · unfold GW at *
    rw [e 16 (by omega) (by omega), e 7 (by omega) (by omega), e 8 (by omega) (by omega), e 12 (by omega) (by omega)]
    exact c4
  · unfold GU at *
    rw [e 16 (by omega) (by omega), e 12 (by omega) (by omega), e 13 (by omega) (by omega), e 18 (by omega) (by omega)]
    exact c5
  · rw [e 16 (by omega) (by omega)] at b
    have e9 : ∀ w, rw9 r' w = rw9 r w := fun w => by unfold rw9; rw [e 12 (by omega) (by omega)]
    exact (c6 w a b).fr (by rw [e 12 (by omega) (by omega)]) (by rw [e 18 (by omega) (by omega)]) (fun j i c d _ _ => by rw [e j (by omega) (by omega)]) (by rw [e 22 (by omega) (by omega)]) (by rw [e 30 (by omega) (by omega)]) (by rw [e 32 (by omega) (by omega)]) (Or.inl (by rw [e 17 (by omega) (by omega)])) (fun n c d g => by rw [e 23 (by omega) (by omega)]; exact g) (fun n c d => by rw [e 33 (by omega) (by omega)]) (fun n c d g k => by rw [e9, e 17 (by omega) (by omega)]; exact k)
  · unfold GC at *
    rw [e 16 (by omega) (by omega), e 32 (by omega) (by omega), e 33 (by omega) (by omega), e 9 (by omega) (by omega), e 10 (by omega) (by omega), e 11 (by omega) (by omega), e 12 (by omega) (by omega)]
    exact c7
  · unfold GK at *
    rw [e 38 (by omega) (by omega), e 39 (by omega) (by omega), e 23 (by omega) (by omega), e 16 (by omega) (by omega), e 22 (by omega) (by omega), e 25 (by omega) (by omega), e 26 (by omega) (by omega), e 27 (by omega) (by omega), e 1 (by omega) (by omega)]
    exact c8
  · unfold GN at *
    rw [e 1 (by omega) (by omega), e 29 (by omega) (by omega), e 36 (by omega) (by omega), e 37 (by omega) (by omega)]
    exact c9
/-- a play leaves the relation -/
theorem RelC.played (h : RelC N r m) (pl : Pl m') (fr : FrH m m') (e : ∀ j : Nat, 1 ≤ j → j < 40 → r' j = r j) (fp : Fb r' ∧ Pt r') : RelC N r' m' := by
  have g := h.2.2.rg
  have em : ∀ i, i < 100 ∨ 139 < i → m' i = m i := fun i hi => by
    funext j
    exact fr i hi j
  refine ⟨h.1.fr g pl (fun i hi => em i (by omega)) e, fun w a b => ?_, h.2.2.fr3 e fp⟩
  rw [e 16 (by omega) (by omega)] at b
  have s1 := (g.2.2 w a b).1
  have eR : Rl r w = 100000 * (w + 1) + 10000 * r 12 w := rfl
  have eRl : Rl r' w = Rl r w := by unfold Rl; rw [e 12 (by omega) (by omega)]
  have k := h.2.1 w a b
  unfold CaW hk rw9 at *
  rw [eRl, em _ (by omega), e 12 (by omega) (by omega), e 18 (by omega) (by omega), e 19 (by omega) (by omega)]
  exact k
end RA
