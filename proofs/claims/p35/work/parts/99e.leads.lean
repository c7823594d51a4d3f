/-! one call on both sides: release, what leads on -/
section PL
variable {cd : Int → Int} {N : Int} {r r' : Rst} {m m' : Mem} {w n q k t a b x P s C : Int}
/-- a step leads within its program -/
def LdP (r : Rst) (x s : Int) : Prop := (r 2 (12 * x + s) = 5 ∨ r 2 (12 * x + s) = 10 → s + 1 + r 4 (12 * x + s) ≤ r 5 x) ∧ (r 2 (12 * x + s) = 6 → 0 ≤ s - r 4 (12 * x + s)) ∧ (r 2 (12 * x + s) = 4 → s + r 3 (12 * x + s) < r 5 x ∧ ∀ i, 1 ≤ i → i ≤ r 3 (12 * x + s) → r 2 (12 * x + (s + i)) ≤ 3)
theorem ld_loop (h : Pm r m P x) (hP : 0 < P) (hx : 0 ≤ x ∧ x < 15) (hC : r 5 x ≤ 12) (s0 : 0 ≤ s) (s1 : s < r 5 x) (k4 : r 2 (12 * x + s) = 4) (ha : 1 ≤ r 3 (12 * x + s) ∧ r 3 (12 * x + s) ≤ 3) : ∀ (d t1 t2 : Nat) (i : Int), r 3 (12 * x + s) + 1 - i = d → 1 ≤ i → (d : Int) < t1 → (d : Int) + 1 < t2 → ∃ v, X5_canBeginTogether_2 t1 P (s + 1) (r 3 (12 * x + s)) (s + i) m = some (v, m) ∧ G_leads_91 t2 x s (12 * x + s) 1 i r = some (v, r) ∧ (v = 0 ∨ v = 1) ∧ (v = 1 → ∀ j, i ≤ j → j ≤ r 3 (12 * x + s) → s + j < r 5 x ∧ r 2 (12 * x + (s + j)) ≤ 3) := by
  intro d
  induction d with
  | zero =>
    intro t1 t2 i c0 c1 c2 c3
    obtain ⟨t1, rfl⟩ : ∃ k, t1 = k + 1 := ⟨t1 - 1, by omega⟩
    obtain ⟨t2, rfl⟩ : ∃ k, t2 = k + 1 := ⟨t2 - 1, by omega⟩
    rw [X5_canBeginTogether_2, G_leads_91, if_t (show s + 1 + r 3 (12 * x + s) ≤ s + i by omega), if_t k4, if_t (show r 3 (12 * x + s) < i by omega)]
    repeat rw [chk_t (by omega)]
    exact ⟨1, rfl, rfl, Or.inr rfl, fun _ j a b => by omega⟩
  | succ d ih =>
    intro t1 t2 i c0 c1 c2 c3
    obtain ⟨t1, rfl⟩ : ∃ k, t1 = k + 1 := ⟨t1 - 1, by omega⟩
    obtain ⟨t2, rfl⟩ : ∃ k, t2 = k + 2 := ⟨t2 - 2, by omega⟩
    have z : ∀ (i : Int), G_leads_91 (t2 + 1) x s (12 * x + s) 0 i r = some (0, r) := fun i => by
      rw [G_leads_91, if_t k4]
      repeat rw [chk_t (by omega)]
      by_cases l : r 3 (12 * x + s) < i
      · rw [if_t l]
      · rw [if_f l, if_t rfl]
    rw [X5_canBeginTogether_2, show t2 + 2 = (t2 + 1) + 1 from rfl, G_leads_91, h.1.1, h.1.2.2.2, if_f (show ¬ s + 1 + r 3 (12 * x + s) ≤ s + i by omega), if_t k4, if_f (show ¬ r 3 (12 * x + s) < i by omega), if_f (show ¬ (1 : Int) = 0 by decide)]
    repeat rw [chk_t (by omega)]
    by_cases e : r 5 x ≤ s + i
    · rw [if_t e, if_t e, z]
      repeat rw [chk_t (by omega)]
      exact ⟨0, rfl, rfl, Or.inl rfl, fun hh => by omega⟩
    · have hk := (h.2 (s + i) (by omega) (by omega)).1
      rw [if_f e, if_f e, if_f (show ¬ 12 ≤ s + i by omega), hk, show 12 * x + s + i = 12 * x + (s + i) by omega]
      repeat rw [chk_t (by omega)]
      by_cases f : r 2 (12 * x + (s + i)) ≤ 3
      · rw [if_t f, if_f (show ¬ 3 < r 2 (12 * x + (s + i)) by omega), show s + i + 1 = s + (i + 1) by omega]
        repeat rw [chk_t (by omega)]
        obtain ⟨v, y1, y2, y3, y4⟩ := ih t1 (t2 + 1) (i + 1) (by omega) (by omega) (by omega) (by omega)
        refine ⟨v, y1, y2, y3, fun hv j a b => ?_⟩
        by_cases l : j = i
        · rw [l]; exact ⟨by omega, f⟩
        · exact y4 hv j (by omega) b
      · rw [if_f f, if_t (show 3 < r 2 (12 * x + (s + i)) by omega), z]
        repeat rw [chk_t (by omega)]
        exact ⟨0, rfl, rfl, Or.inl rfl, fun hh => by omega⟩
theorem leads_e (h : Pm r m P x) (hP : 0 < P) (hx : 0 ≤ x ∧ x < 15) (hC : r 5 x ≤ 12) (s0 : 0 ≤ s) (s1 : s < r 5 x) (st : StC r) : ∃ v, X5_leadsWithin P s (r 3 (12 * x + s)) (r 4 (12 * x + s)) m = some (v, m) ∧ G_leads x s r = some (v, r) ∧ (v = 0 ∨ v = 1) ∧ (v = 1 → LdP r x s) := by
  have f9 := fuel9_ge
  have hs := h.2 s s0 s1
  have bs := st (12 * x + s) (by omega) (by omega)
  have k0 := hs.1
  have z : ∀ v : Int, r 2 (12 * x + s) ≠ 4 → G_leads_91 fuel9 x s (12 * x + s) v 1 r = some (v, r) := fun v hv => by
    obtain ⟨t1, ht⟩ : ∃ k, fuel9 = k + 1 := ⟨fuel9 - 1, by omega⟩
    rw [ht, G_leads_91, if_f hv]
    repeat rw [chk_t (by omega)]
  unfold X5_leadsWithin X5_leadsWithin_0 G_leads G_leads_0 G_leads_34 G_leads_62
  rw [h.1.1, k0, h.1.2.2.2]
  repeat rw [chk_t (by omega)]
  by_cases e4 : r 2 (12 * x + s) = 4
  · obtain ⟨v, y1, y2, y3, y4⟩ := ld_loop h hP hx hC s0 s1 e4 (bs.2.2.2.2.2.2.1 e4) (r 3 (12 * x + s)).toNat fuel9 fuel9 1 (by have := bs.2.2.2.2.2.2.1 e4; omega) (by omega) (by omega) (by omega)
    rw [if_t e4]
    repeat rw [chk_t (by omega)]
    unfold X5_canBeginTogether X5_canBeginTogether_0
    rw [y1, boolR_e y3, cal_e, boolR_e y3, if_f (show ¬ r 2 (12 * x + s) = 6 by omega), if_f (show ¬ (1 : Int) = 0 by decide), if_f (show ¬ r 2 (12 * x + s) = 5 by omega), if_f (show ¬ r 2 (12 * x + s) = 10 by omega), y2]
    repeat rw [chk_t (by omega)]
    rw [boolG_e y3]
    refine ⟨v, rfl, rfl, y3, fun hv => ⟨fun hh => by omega, fun hh => by omega, fun _ => ⟨?_, fun i a b => (y4 hv i a b).2⟩⟩⟩
    have b4 := bs.2.2.2.2.2.2.1 e4
    exact (y4 hv (r 3 (12 * x + s)) (by omega) (by omega)).1
  · rw [if_f e4]
    by_cases e5 : r 2 (12 * x + s) = 5
    · rw [if_t e5, if_f (show ¬ r 2 (12 * x + s) = 6 by omega), if_f (show ¬ (1 : Int) = 0 by decide), if_t e5]
      repeat rw [chk_t (by omega)]
      by_cases l : r 5 x < s + 1 + r 4 (12 * x + s)
      · rw [if_t l, if_t l, z 0 e4]
        repeat rw [chk_t (by omega)]
        rw [boolR_e (Or.inl rfl), boolG_e (Or.inl rfl)]
        exact ⟨0, rfl, rfl, Or.inl rfl, fun hh => by omega⟩
      · rw [if_f l, if_f l, z 1 e4]
        repeat rw [chk_t (by omega)]
        rw [boolR_e (Or.inr rfl), boolG_e (Or.inr rfl)]
        exact ⟨1, rfl, rfl, Or.inr rfl, fun _ => ⟨fun _ => by omega, fun hh => by omega, fun hh => by omega⟩⟩
    · rw [if_f e5]
      by_cases e6 : r 2 (12 * x + s) = 6
      · rw [if_t e6, if_t e6]
        repeat rw [chk_t (by omega)]
        by_cases l : s - r 4 (12 * x + s) < 0
        · rw [if_t l, if_t l, if_t rfl, z 0 e4]
          repeat rw [chk_t (by omega)]
          rw [boolR_e (Or.inl rfl), boolG_e (Or.inl rfl)]
          exact ⟨0, rfl, rfl, Or.inl rfl, fun hh => by omega⟩
        · rw [if_f l, if_f l, if_f (show ¬ (1 : Int) = 0 by decide), if_f e5, if_f (show ¬ r 2 (12 * x + s) = 10 by omega), z 1 e4]
          repeat rw [chk_t (by omega)]
          rw [boolR_e (Or.inr rfl), boolG_e (Or.inr rfl)]
          exact ⟨1, rfl, rfl, Or.inr rfl, fun _ => ⟨fun _ => by omega, fun hh => by omega, fun hh => by omega⟩⟩
      · rw [if_f e6, if_f e6, if_f (show ¬ (1 : Int) = 0 by decide), if_f e5]
        repeat rw [chk_t (by omega)]
        by_cases e10 : r 2 (12 * x + s) = 10
        · rw [if_f (show ¬ r 2 (12 * x + s) = 7 by omega), if_f (show ¬ r 2 (12 * x + s) = 8 by omega), if_f (show ¬ r 2 (12 * x + s) = 9 by omega), if_t e10, if_t e10]
          repeat rw [chk_t (by omega)]
          by_cases l : r 5 x < s + 1 + r 4 (12 * x + s)
          · rw [if_t l, if_t l, z 0 e4]
            repeat rw [chk_t (by omega)]
            rw [boolR_e (Or.inl rfl), boolG_e (Or.inl rfl)]
            exact ⟨0, rfl, rfl, Or.inl rfl, fun hh => by omega⟩
          · rw [if_f l, if_f l, z 1 e4]
            repeat rw [chk_t (by omega)]
            rw [boolR_e (Or.inr rfl), boolG_e (Or.inr rfl)]
            exact ⟨1, rfl, rfl, Or.inr rfl, fun _ => ⟨fun _ => by omega, fun hh => by omega, fun hh => by omega⟩⟩
        · rw [if_f e10, if_f e10, z 1 e4, boolG_e (Or.inr rfl)]
          have e1 : ∀ c d e : Prop, ∀ [Decidable c] [Decidable d] [Decidable e], (if c then some ((1 : Int), m) else if d then some (1, m) else if e then some (1, m) else some (1, m)) = some (1, m) := fun c d e => by
            intros
            split
            · rfl
            · split
              · rfl
              · split <;> rfl
          rw [e1]
          repeat rw [chk_t (by omega)]
          rw [boolR_e (Or.inr rfl)]
          exact ⟨1, rfl, rfl, Or.inr rfl, fun _ => ⟨fun _ => by omega, fun hh => by omega, fun hh => by omega⟩⟩
end PL
