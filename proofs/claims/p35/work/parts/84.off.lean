/-! an activity is taken off, on both sides -/
section OF
variable {r : Rst} {m : Mem} {w n x : Int}
/-- whoever has it has nothing any more: the reference -/
theorem g_off14 (hx : 0 ≤ x ∧ x < 800) (hw : 0 ≤ w ∧ w < 10) (hn : 0 ≤ n ∧ n < 80) (ex : x = 80 * w + n) : ∀ (t : Nat) (l : Int) (r : Rst), 0 ≤ l → l ≤ 4 → 4 - l < t → ∃ r', G_takesOff_14 t w n l r = some (0, r') ∧ (∀ j : Nat, j ≠ 39 → r' j = r j) ∧ (∀ i, i < 0 ∨ 4 ≤ i → r' 39 i = r 39 i) ∧ ∀ i, 0 ≤ i → i < 4 → r' 39 i = if l ≤ i ∧ r 39 i = x then -1 else r 39 i := by
  intro t
  induction t with
  | zero => intro l r h0 h1 h2; omega
  | succ t ih =>
    intro l r h0 h1 h2
    rw [G_takesOff_14]
    by_cases c : 4 ≤ l
    · rw [if_t c]
      exact ⟨r, rfl, fun _ _ => rfl, fun _ _ => rfl, fun i a b => by rw [if_f (by omega)]⟩
    · rw [if_f c, chk_t (by omega), chk_t (by omega), chk_t (by omega)]
      have go : ∀ v, (r 39 l = x → v = -1) → (r 39 l ≠ x → v = r 39 l) → ∃ r', G_takesOff_14 t w n (l + 1) (ur r 39 l v) = some (0, r') ∧ (∀ j : Nat, j ≠ 39 → r' j = r j) ∧ (∀ i, i < 0 ∨ 4 ≤ i → r' 39 i = r 39 i) ∧ ∀ i, 0 ≤ i → i < 4 → r' 39 i = if l ≤ i ∧ r 39 i = x then -1 else r 39 i := fun v v1 v2 => by
        obtain ⟨r', k1, k2, k3, k4⟩ := ih (l + 1) (ur r 39 l v) (by omega) (by omega) (by omega)
        refine ⟨r', k1, fun j hj => by rw [k2 j hj, ur_ne hj], fun i hi => by rw [k3 i hi, ur_n (by omega)], fun i a b => ?_⟩
        rw [k4 i a b]
        by_cases d : i = l
        · rw [if_f (by omega), d, ur_e rfl rfl]
          by_cases e : r 39 l = x
          · rw [if_t ⟨Int.le_refl _, e⟩, v1 e]
          · rw [if_f (fun h => e h.2), v2 e]
        · rw [ur_n (by omega)]
          by_cases e : l + 1 ≤ i ∧ r 39 i = x
          · rw [if_t e, if_t ⟨by omega, e.2⟩]
          · rw [if_f e, if_f (fun h => e ⟨by omega, h.2⟩)]
      by_cases e : r 39 l = 80 * w + n
      · rw [if_t e, chk_t (by omega), stg_e, chk_t (by omega)]
        exact go (-1) (fun _ => rfl) (fun h => absurd (by omega) h)
      · rw [if_f e, chk_t (by omega), chk_t (by omega), stg_e, chk_t (by omega)]
        exact go _ (fun h => absurd (by omega) e) (fun _ => rfl)
theorem g_takesOff (hw : 0 ≤ w ∧ w < 10) (hn : 0 ≤ n ∧ n < 80) : ∃ r', G_takesOff w n r = some (0, r') ∧ (∀ j : Nat, j ≠ 39 → j ≠ 23 → r' j = r j) ∧ (∀ i, i ≠ 80 * w + n → r' 23 i = r 23 i) ∧ r' 23 (80 * w + n) = 0 ∧ (∀ i, i < 0 ∨ 4 ≤ i → r' 39 i = r 39 i) ∧ ∀ i, 0 ≤ i → i < 4 → r' 39 i = if r 39 i = 80 * w + n then -1 else r 39 i := by
  have f9 := fuel9_ge
  unfold G_takesOff G_takesOff_0
  rw [chk_t (by omega), chk_t (by omega), chk_t (by omega), stg_e]
  obtain ⟨r', k1, k2, k3, k4⟩ := g_off14 (x := 80 * w + n) (by omega) hw hn rfl fuel9 0 (ur r 23 (80 * w + n) 0) (by omega) (by omega) (by omega)
  refine ⟨r', k1, fun j a b => by rw [k2 j a, ur_ne b], fun i hi => by rw [k2 23 (by omega), ur_n (by omega)], by rw [k2 23 (by omega), ur_e rfl rfl], fun i hi => by rw [k3 i hi, ur_n (by omega)], fun i a b => ?_⟩
  rw [k4 i a b, ur_n (by omega)]
  by_cases e : r 39 i = 80 * w + n
  · rw [if_t ⟨a, e⟩, if_t e]
  · rw [if_f (fun h => e h.2), if_f e]
/-- the same, the class -/
theorem x_free2 {A : Int} (hA : 0 < A) : ∀ (t : Nat) (l : Int) (m : Mem), 0 ≤ l → l ≤ 4 → 4 - l < t → m 1 3 = 5 → (∀ q, 0 ≤ q → q < 4 → m 5 q = 5100 + q) → ∃ m', X11_freeHandsOf_2 t 1 A l m = some (0, m') ∧ (∀ i, ¬ (5100 ≤ i ∧ i < 5104) → m' i = m i) ∧ ∀ q, 0 ≤ q → q < 4 → m' (5100 + q) 0 = m (5100 + q) 0 ∧ m' (5100 + q) 1 = if l ≤ q ∧ m (5100 + q) 1 = A then 0 else m (5100 + q) 1 := by
  intro t
  induction t with
  | zero => intro l m h0 h1 h2; omega
  | succ t ih =>
    intro l m h0 h1 h2 h3 h5
    rw [X11_freeHandsOf_2]
    by_cases c : 4 ≤ l
    · rw [if_t c]
      exact ⟨m, rfl, fun _ _ => rfl, fun q a b => ⟨rfl, by rw [if_f (by omega)]⟩⟩
    · have e5 := h5 l h0 (by omega)
      rw [if_f c, chk_t (by omega), h3, chk_t (by omega), e5, chk_t (by omega)]
      by_cases e : m (5100 + l) 1 = A
      · rw [if_t e, chk_t (by omega), st_e, chk_t (by omega)]
        obtain ⟨m', k1, k2, k3⟩ := ih (l + 1) (upd9 m (5100 + l) 1 0) (by omega) (by omega) (by omega) (by rw [upd9_n (by omega)]; exact h3) (fun q a b => by rw [upd9_n (by omega)]; exact h5 q a b)
        refine ⟨m', k1, fun i hi => by rw [k2 i hi, upd9_row (by omega)], fun q a b => ?_⟩
        obtain ⟨k4, k5⟩ := k3 q a b
        refine ⟨by rw [k4, upd9_n (by omega)], ?_⟩
        rw [k5]
        by_cases d : q = l
        · rw [if_f (by omega), if_t ⟨by omega, by rw [d]; exact e⟩, upd9_e (by omega) rfl]
        · rw [upd9_n (by omega)]
          by_cases f : l + 1 ≤ q ∧ m (5100 + q) 1 = A
          · rw [if_t f, if_t ⟨by omega, f.2⟩]
          · rw [if_f f, if_f (fun h => f ⟨by omega, h.2⟩)]
      · rw [if_f e, chk_t (by omega)]
        obtain ⟨m', k1, k2, k3⟩ := ih (l + 1) m (by omega) (by omega) (by omega) h3 h5
        refine ⟨m', k1, k2, fun q a b => ?_⟩
        obtain ⟨k4, k5⟩ := k3 q a b
        refine ⟨k4, ?_⟩
        rw [k5]
        by_cases d : q = l
        · rw [if_f (by omega), if_f (fun h => e (by rw [← d]; exact h.2))]
        · by_cases f : l + 1 ≤ q ∧ m (5100 + q) 1 = A
          · rw [if_t f, if_t ⟨by omega, f.2⟩]
          · rw [if_f f, if_f (fun h => f ⟨by omega, h.2⟩)]
/-- what a worker has is this one, on both sides or on none -/
theorem Wk.is {q : Int} (h : Wk r m q) (g : Rg r) (w0 : 0 ≤ w) (w1 : w < r 16 0) (n0 : 0 ≤ n) (n1 : n < r 22 w) : m (5100 + q) 1 = Rl r w + 100 + n ↔ r 39 q = 80 * w + n := by
  have s := (g.2.2 w w0 w1)
  have s3 := s.2.2.1.2
  have b10 := g.1.2
  have eR : Rl r w = 100000 * (w + 1) + 10000 * r 12 w := rfl
  have s1 := s.1
  have s2 := s.2.1
  rcases h.2.2 with ⟨a, b⟩ | ⟨w', n', a1, a2, a3, a4, a5, a6⟩
  · rw [a, b]
    exact ⟨fun h => by omega, fun h => by omega⟩
  · have s' := g.2.2 w' a1 a2
    have s3' := s'.2.2.1.2
    have s1' := s'.1
    have s2' := s'.2.1
    have eR' : Rl r w' = 100000 * (w' + 1) + 10000 * r 12 w' := rfl
    rw [a5, a6]
    refine ⟨fun h => ?_, fun h => ?_⟩
    · have : w' = w := by omega
      subst this
      omega
    · have : w' = w := by omega
      subst this
      omega
/-- an activity is taken off, on both sides -/
theorem rel_off (h : RelM r m) (g : Rg r) (w0 : 0 ≤ w) (w1 : w < r 16 0) (n0 : 0 ≤ n) (n1 : n < r 22 w) : ∃ m' r', X11_takeOff 1 (Rl r w + 100 + n) m = some (0, m') ∧ G_takesOff w n r = some (0, r') ∧ RelM r' m' ∧ (∀ i, (i < 5100 ∨ 5104 ≤ i) → i ≠ Rl r w + 100 + n → m' i = m i) ∧ (∀ j, j ≠ 6 → m' (Rl r w + 100 + n) j = m (Rl r w + 100 + n) j) ∧ (∀ j : Nat, j ≠ 39 → j ≠ 23 → r' j = r j) ∧ (∀ i, i ≠ 80 * w + n → r' 23 i = r 23 i) ∧ r' 23 (80 * w + n) = 0 ∧ (∀ i, i < 0 ∨ 4 ≤ i → r' 39 i = r 39 i) ∧ ∀ i, 0 ≤ i → i < 4 → r' 39 i = if r 39 i = 80 * w + n then -1 else r 39 i := by
  have f9 := fuel9_ge
  have s := g.2.2 w w0 w1
  have s3 := s.2.2.1.2
  have s1 := s.1
  have s2 := s.2.1
  have b10 := g.1.2
  have eR : Rl r w = 100000 * (w + 1) + 10000 * r 12 w := rfl
  obtain ⟨r', t1, t2, t3, t4, t5, t6⟩ := g_takesOff (r := r) (w := w) (n := n) (by omega) (by omega)
  have z5 : ∀ q, 0 ≤ q → q < 4 → upd9 m (Rl r w + 100 + n) 6 3 5 q = 5100 + q := fun q a b => by
    rw [upd9_n (by omega)]
    exact (h.2.2.2.2.1 q a b).1
  obtain ⟨m', k1, k2, k3⟩ := x_free2 (A := Rl r w + 100 + n) (by omega) fuel9 0 (upd9 m (Rl r w + 100 + n) 6 3) (by omega) (by omega) (by omega) (by rw [upd9_n (by omega)]; exact h.1.1.2.2.2.1) z5
  have em : ∀ i, i < 5100 ∨ 5104 ≤ i → i ≠ Rl r w + 100 + n → m' i = m i := fun i a b => by rw [k2 i (by omega), upd9_row b]
  have eA : ∀ j, j ≠ 6 → m' (Rl r w + 100 + n) j = m (Rl r w + 100 + n) j := fun j hj => by rw [k2 _ (by omega), upd9_n (by omega)]
  have eA6 : m' (Rl r w + 100 + n) 6 = 3 := by rw [k2 _ (by omega), upd9_e rfl rfl]
  refine ⟨m', r', ?_, t1, ?_, em, eA, t2, t3, t4, t5, t6⟩
  · unfold X11_takeOff X11_takeOff_0 X11_freeHandsOf X11_freeHandsOf_0
    rw [chk_t (by omega), st_e, chk_t (by omega), k1, cal_e]
  · /- first the activity, then the workers -/
    have ea : RelM (ur r 23 (80 * w + n) 0) (upd9 m (Rl r w + 100 + n) 6 3) := by
      refine rel_act h g w0 w1 n0 n1 (fun i hi => upd9_row hi) ?_ (fun j i hi => ur_n (by omega))
      have ac := ((h.2.2.2.2.2.1 w w0 w1).2.2.2.1 n n0 n1).2
      unfold ActC Rl at *
      simp (disch := omega) only [ur_n, ur_e, upd9_n, upd9_e]
      exact ⟨ac.1, Or.inr (Or.inr (Or.inr ⟨trivial, trivial⟩))⟩
    have g2 : Rg (ur r 23 (80 * w + n) 0) := by
      unfold Rg Sz at *
      simp (disch := omega) only [ur_ne]
      exact g
    refine rel_wk ea g2 k2 (fun j a b => ?_) (fun q a b => ?_)
    · by_cases c : j = 23
      · subst c
        funext i
        by_cases d : i = 80 * w + n
        · rw [d, t4, ur_e rfl rfl]
        · rw [t3 i d, ur_n (by omega)]
      · rw [t2 j b c, ur_ne c]
    · have wk := h.2.2.2.2.1 q a b
      have iw := wk.is g w0 w1 n0 n1
      obtain ⟨k4, k5⟩ := k3 q a b
      refine ⟨by rw [k2 5 (by omega), upd9_n (by omega)]; exact wk.1, by rw [k4, upd9_n (by omega), t2 38 (by omega) (by omega)]; exact wk.2.1, ?_⟩
      rw [upd9_n (by omega)] at k5
      rw [t6 q a b, k5, t2 16 (by omega) (by omega), t2 22 (by omega) (by omega)]
      by_cases c : r 39 q = 80 * w + n
      · rw [if_t c, if_t ⟨a, iw.mpr c⟩]
        exact Or.inl ⟨rfl, rfl⟩
      · rw [if_f c, if_f (fun hh => c (iw.mp hh.2))]
        unfold Rl
        rw [t2 12 (by omega) (by omega)]
        exact wk.2.2
end OF
