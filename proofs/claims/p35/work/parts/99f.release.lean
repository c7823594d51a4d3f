/-! one call on both sides: release -/
section PR
variable {cd : Int → Int} {N : Int} {r r' : Rst} {m m' : Mem} {w n q k t a b x P s C : Int}
theorem whole_loop {k68 : Int → Int → Int → Rst → Option G2} (h : Pm r m P (5 * t + 4)) (hP : 0 < P) (t0 : 0 ≤ t) (t3 : t < 3) (hC : 0 < r 5 (5 * t + 4) ∧ r 5 (5 * t + 4) ≤ 12) (st : StC r) : ∀ (d t1 t2 : Nat) (s : Int), r 5 (5 * t + 4) - s = d → 0 ≤ s → (d : Int) < t1 → (d : Int) + 1 < t2 → ∃ v, X5_isWhole_2 X5_isWhole_44 t1 P s m = some (v, m) ∧ G_release_31 k68 t2 t 1 1 s r = k68 t 1 v r ∧ (v = 0 ∨ v = 1) ∧ (v = 1 → ∀ j, s ≤ j → j < r 5 (5 * t + 4) → LdP r (5 * t + 4) j) := by
  have ro : G_rowOf t 5 r = some (5 * t + 4, r) := by
    rw [g_rowOf t0 t3 (by omega) (by omega), show 5 * t + 5 - 1 = 5 * t + 4 by omega]
  have h3 := h.1.2.2.2
  intro d
  induction d with
  | zero =>
    intro t1 t2 s c0 c1 c2 c3
    obtain ⟨t1, rfl⟩ : ∃ k, t1 = k + 1 := ⟨t1 - 1, by omega⟩
    obtain ⟨t2, rfl⟩ : ∃ k, t2 = k + 1 := ⟨t2 - 1, by omega⟩
    rw [X5_isWhole_2, G_release_31, h3, if_t (show r 5 (5 * t + 4) ≤ s by omega), if_f (show ¬ (1 : Int) = 0 by decide), ro, cag_e, if_t (show r 5 (5 * t + 4) ≤ s by omega)]
    unfold X5_isWhole_44
    rw [h3, if_f (show ¬ r 5 (5 * t + 4) ≤ 0 by omega)]
    repeat rw [chk_t (by omega)]
    exact ⟨1, rfl, rfl, Or.inr rfl, fun _ j a b => by omega⟩
  | succ d ih =>
    intro t1 t2 s c0 c1 c2 c3
    obtain ⟨t1, rfl⟩ : ∃ k, t1 = k + 1 := ⟨t1 - 1, by omega⟩
    obtain ⟨t2, rfl⟩ : ∃ k, t2 = k + 2 := ⟨t2 - 2, by omega⟩
    obtain ⟨v, y1, y2, y3, y4⟩ := leads_e (s := s) h hP (by omega) hC.2 c1 (by omega) st
    have hs := h.2 s c1 (by omega)
    rw [X5_isWhole_2, show t2 + 2 = (t2 + 1) + 1 from rfl, G_release_31, h3, h.1.2.1, h.1.2.2.1, if_f (show ¬ r 5 (5 * t + 4) ≤ s by omega), if_f (show ¬ 12 ≤ s by omega), if_f (show ¬ (1 : Int) = 0 by decide), ro, cag_e, if_f (show ¬ r 5 (5 * t + 4) ≤ s by omega), ro, cag_e, y2, cag_e, hs.2.1, hs.2.2, y1, cal_e]
    repeat rw [chk_t (by omega)]
    rcases y3 with rfl | rfl
    · rw [if_t rfl, G_release_31, if_t rfl]
      exact ⟨0, rfl, rfl, Or.inl rfl, fun hh => by omega⟩
    · rw [if_f (show ¬ (1 : Int) = 0 by decide)]
      obtain ⟨v, z1, z2, z3, z4⟩ := ih t1 (t2 + 1) (s + 1) (by omega) (by omega) (by omega) (by omega)
      rw [z1, z2]
      refine ⟨v, rfl, rfl, z3, fun hv j a b => ?_⟩
      by_cases l : j = s
      · rw [l]; exact y4 rfl
      · exact z4 hv j (by omega) b
theorem copy_loop {k217 : Int → Int → Int → Rst → Option G2} {l1 l4 l5 : Int} (a0 : 0 ≤ l4 ∧ l4 < 15) (b0 : 0 ≤ l5 ∧ l5 < 15) (ne : l4 ≠ l5) : ∀ (d t2 : Nat) (l6 : Int) (r : Rst), 12 - l6 = d → 0 ≤ l6 → (d : Int) < t2 → ∃ r', G_release_126 k217 t2 l1 l4 l5 l6 r = k217 l1 l4 l5 r' ∧ (∀ (j : Nat) i, ¬ (2 ≤ j ∧ j ≤ 4 ∧ 12 * l5 + l6 ≤ i ∧ i < 12 * l5 + 12) → r' j i = r j i) ∧ ∀ (j : Nat) i, 2 ≤ j → j ≤ 4 → l6 ≤ i → i < 12 → r' j (12 * l5 + i) = r j (12 * l4 + i) := by
  intro d
  induction d with
  | zero =>
    intro t2 l6 r c0 c1 c2
    obtain ⟨t2, rfl⟩ : ∃ k, t2 = k + 1 := ⟨t2 - 1, by omega⟩
    rw [G_release_126, if_t (by omega)]
    exact ⟨r, rfl, fun _ _ _ => rfl, fun j i a b c e => by omega⟩
  | succ d ih =>
    intro t2 l6 r c0 c1 c2
    obtain ⟨t2, rfl⟩ : ∃ k, t2 = k + 1 := ⟨t2 - 1, by omega⟩
    have e3 : ur r 2 (12 * l5 + l6) (r 2 (12 * l4 + l6)) 3 (12 * l4 + l6) = r 3 (12 * l4 + l6) := by rw [ur_n (by omega)]
    have e4 : ur (ur r 2 (12 * l5 + l6) (r 2 (12 * l4 + l6))) 3 (12 * l5 + l6) (r 3 (12 * l4 + l6)) 4 (12 * l4 + l6) = r 4 (12 * l4 + l6) := by rw [ur_n (by omega), ur_n (by omega)]
    rw [G_release_126, if_f (by omega)]
    repeat rw [chk_t (by omega)]
    rw [stg_e]
    repeat rw [chk_t (by omega)]
    rw [stg_e, e3]
    repeat rw [chk_t (by omega)]
    rw [stg_e, e4, chk_t (by omega)]
    obtain ⟨r', z1, z2, z3⟩ := ih t2 (l6 + 1) (ur (ur (ur r 2 (12 * l5 + l6) (r 2 (12 * l4 + l6))) 3 (12 * l5 + l6) (r 3 (12 * l4 + l6))) 4 (12 * l5 + l6) (r 4 (12 * l4 + l6))) (by omega) (by omega) (by omega)
    refine ⟨r', z1, fun j i hj => ?_, fun j i a b c e => ?_⟩
    · rw [z2 j i (by omega), ur_n (by omega), ur_n (by omega), ur_n (by omega)]
    · by_cases l : i = l6
      · rw [l, z2 j _ (by omega)]
        have hj : j = 2 ∨ j = 3 ∨ j = 4 := by omega
        rcases hj with rfl | rfl | rfl
        · rw [ur_n (by omega), ur_n (by omega), ur_e rfl rfl]
        · rw [ur_n (by omega), ur_e rfl rfl]
        · rw [ur_e rfl rfl]
      · rw [z3 j i a b (by omega) e, ur_n (by omega), ur_n (by omega), ur_n (by omega)]
theorem alo_row {i ty z : Int} (h : k ≠ i) (h1 : k ≠ -1) (h2 : k ≠ -2) : alo9 m i ty z k = m k := by
  funext c
  unfold alo9
  rw [if_f h, if_f (fun hh => h1 hh.1), if_f (fun hh => h2 hh.1), if_f (fun hh => h2 hh.1)]
theorem alo_z {i ty z : Int} : alo9 m i ty z i k = 0 := by
  unfold alo9
  rw [if_t rfl]
theorem alo_t {i ty z : Int} (hi : 0 < i) : alo9 m i ty z (-1) k = if k = i then ty else m (-1) k := by
  unfold alo9
  rw [if_f (by omega)]
  by_cases c : k = i
  · rw [if_t ⟨rfl, c⟩, if_t c]
  · rw [if_f (fun hh => c hh.2), if_f (by omega), if_f (by omega), if_f c]
theorem alo_c {i ty z : Int} (hi : 0 < i) : alo9 m i ty z (-2) 0 = m (-2) 0 + 1 ∧ alo9 m i ty z (-2) 1 = m (-2) 1 + z := by
  unfold alo9
  refine ⟨?_, ?_⟩
  · rw [if_f (by omega), if_f (by omega), if_t ⟨rfl, rfl⟩]
  · rw [if_f (by omega), if_f (by omega), if_f (by omega), if_t ⟨rfl, rfl⟩]
/-- a new program, empty -/
theorem x_newProg {Q : Int} (hQ : 0 < Q) (fr : ∀ i, Q ≤ i → i ≤ Q + 3 → m (-1) i = 0) : ∃ m', X5_init Q (alo9 m Q 15 4) = some (0, m') ∧ (∀ i, ¬ (Q ≤ i ∧ i ≤ Q + 3) → i ≠ -1 → i ≠ -2 → m' i = m i) ∧ (∀ i, ¬ (Q ≤ i ∧ i ≤ Q + 3) → m' (-1) i = m (-1) i) ∧ (m' (-2) 0 = m (-2) 0 + 4 ∧ m' (-2) 1 = m (-2) 1 + 40) ∧ (m' Q 0 = Q + 1 ∧ m' Q 1 = Q + 2 ∧ m' Q 2 = Q + 3 ∧ m' Q 3 = 0) := by
  unfold X5_init X5_init_0
  have f1 : alo9 m Q 15 4 (-1) (Q + 1) = 0 := by rw [alo_t hQ, if_f (by omega)]; exact fr _ (by omega) (by omega)
  rw [chk_t hQ, show ∀ {α : Type} (v : Int) (k : Int → Option α), vl9 v k = k v from fun v k => rfl, chk_t ⟨by omega, f1⟩, st_e, st_e]
  have f2 : upd9 (alo9 (alo9 m Q 15 4) (Q + 1) 100012 12) Q 0 (Q + 1) (-1) (Q + 2) = 0 := by rw [upd9_n (by omega), alo_t (by omega), if_f (by omega), alo_t hQ, if_f (by omega)]; exact fr _ (by omega) (by omega)
  rw [show ∀ {α : Type} (v : Int) (k : Int → Option α), vl9 v k = k v from fun v k => rfl, chk_t ⟨by omega, f2⟩, st_e, st_e]
  have f3 : upd9 (alo9 (upd9 (alo9 (alo9 m Q 15 4) (Q + 1) 100012 12) Q 0 (Q + 1)) (Q + 2) 100012 12) Q 1 (Q + 2) (-1) (Q + 3) = 0 := by rw [upd9_n (by omega), alo_t (by omega), if_f (by omega), upd9_n (by omega), alo_t (by omega), if_f (by omega), alo_t hQ, if_f (by omega)]; exact fr _ (by omega) (by omega)
  rw [show ∀ {α : Type} (v : Int) (k : Int → Option α), vl9 v k = k v from fun v k => rfl, chk_t ⟨by omega, f3⟩, st_e, st_e]
  refine ⟨_, rfl, fun i a b c => ?_, fun i a => ?_, ⟨?_, ?_⟩, ?_, ?_, ?_, ?_⟩
  · rw [upd9_row (by omega), alo_row (by omega) b c, upd9_row (by omega), alo_row (by omega) b c, upd9_row (by omega), alo_row (by omega) b c, alo_row (by omega) b c]
  · rw [upd9_n (by omega), alo_t (by omega), if_f (by omega), upd9_n (by omega), alo_t (by omega), if_f (by omega), upd9_n (by omega), alo_t (by omega), if_f (by omega), alo_t hQ, if_f (by omega)]
  · rw [upd9_n (by omega), (alo_c (by omega)).1, upd9_n (by omega), (alo_c (by omega)).1, upd9_n (by omega), (alo_c (by omega)).1, (alo_c hQ).1]; omega
  · rw [upd9_n (by omega), (alo_c (by omega)).2, upd9_n (by omega), (alo_c (by omega)).2, upd9_n (by omega), (alo_c (by omega)).2, (alo_c hQ).2]; omega
  · rw [upd9_n (by omega), alo_row (by omega) (by omega) (by omega), upd9_n (by omega), alo_row (by omega) (by omega) (by omega), upd9_e rfl rfl]
  · rw [upd9_n (by omega), alo_row (by omega) (by omega) (by omega), upd9_e rfl rfl]
  · rw [upd9_e rfl rfl]
  · rw [upd9_n (by omega), alo_row (by omega) (by omega) (by omega), upd9_n (by omega), alo_row (by omega) (by omega) (by omega), upd9_n (by omega), alo_row (by omega) (by omega) (by omega), alo_z]
end PR
