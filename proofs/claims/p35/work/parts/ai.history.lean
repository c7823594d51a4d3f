/-! p35's law: what it asks of a history -/
def p6 (k : Int) : Bool := decide (k = 6)
section HIS
variable {N : Int} {r : Rst} {m : Mem} {w k n e s : Int} {f a b : Int → Int}
theorem cnt6 {f : Int → Int} (h0 : f 0 = 0) (hu : ∀ i j, 0 < i → i < j → j < n → f i = 6 → f j ≠ 6) : ∀ t : Nat, (t : Int) ≤ n → cntP p6 f t = 0 ∨ (cntP p6 f t = 1 ∧ ∃ i, 0 < i ∧ i < (t : Int) ∧ f i = 6)
  | 0, _ => Or.inl rfl
  | t + 1, h => by
    have ih := cnt6 h0 hu t (by omega)
    rw [cntP]
    by_cases c : f t = 6
    · rw [if_t (show p6 (f t) = true from decide_eq_true c)]
      have t0 : (t : Int) ≠ 0 := fun e => by rw [e, h0] at c; omega
      rcases ih with i1 | ⟨i1, i, i2, i3, i4⟩
      · exact Or.inr ⟨by omega, t, by omega, by omega, c⟩
      · exact absurd c (hu i t i2 i3 (by omega) i4)
    · rw [if_f (show ¬ p6 (f t) = true from by rw [show p6 (f t) = false from decide_eq_false c]; decide)]
      rcases ih with i1 | ⟨i1, i, i2, i3, i4⟩
      · exact Or.inl (by omega)
      · exact Or.inr ⟨by omega, i, i2, by omega, i4⟩
/-- one event is gone through -/
theorem l_hist1 {k60 : Int → Int → Int → Int → Int → Int → Int → Int → Int → Int → Int → Int → Mem → Option R2} {run st kind x l5 A T M C : Int} (h0 : 1 ≤ kind ∧ kind ≤ 16) (h16 : kind = 16 → e = n - 1 ∧ x = st) (h7 : 7 < kind → l5 ≠ 0) (hA : kind = 1 ∨ kind = 2 ∨ kind = 9 → x < A) (hT : kind = 3 ∨ kind = 11 → x < T) (hM : kind = 5 → x < M) (hC : C + (if p6 kind = true then 1 else 0) < 2) (hb : (0 ≤ A ∧ A ≤ 100) ∧ (0 ≤ T ∧ T ≤ 100) ∧ (0 ≤ M ∧ M ≤ 100) ∧ (0 ≤ C ∧ C ≤ 100) ∧ (0 ≤ e ∧ e ≤ 100) ∧ (0 ≤ n ∧ n ≤ 100)) : (if kind ≤ 0 then L_isHistory_143 k60 1 w run n st l5 A T M C e kind x 0 m else if 17 ≤ kind then L_isHistory_143 k60 1 w run n st l5 A T M C e kind x 0 m else if kind < 8 then L_isHistory_116 k60 1 w run n st l5 A T M C e kind x m else if l5 = 0 then L_isHistory_143 k60 1 w run n st l5 A T M C e kind x 0 m else L_isHistory_116 k60 1 w run n st l5 A T M C e kind x m) = k60 1 w run n st (if 7 ≤ kind then 1 else 0) 1 (A + if pA kind = true then 1 else 0) (T + if pT kind = true then 1 else 0) (M + if pM kind = true then 1 else 0) (C + if p6 kind = true then 1 else 0) (e + 1) m := by
  have t310 : ∀ l5 A T M C, C < 2 → L_isHistory_310 k60 1 w run n st l5 A T M C e m = k60 1 w run n st l5 1 A T M C (e + 1) m := fun l5 A T M C h => by
    unfold L_isHistory_310
    rw [if_f (by omega), chk_t (by omega)]
  have t297 : ∀ l5 A T M C, C < 2 → (kind = 5 → x < M) → L_isHistory_297 k60 1 w run n st l5 A T M C e kind x m = k60 1 w run n st l5 1 A T M C (e + 1) m := fun l5 A T M C h h5 => by
    unfold L_isHistory_297
    by_cases c : kind = 5
    · rw [if_t c, if_f (by have := h5 c; omega), t310 _ _ _ _ _ h]
    · rw [if_f c, t310 _ _ _ _ _ h]
  have t277 : ∀ l5 A T M C, C < 2 → (kind = 5 → x < M) → (kind = 3 ∨ kind = 11 → x < T) → L_isHistory_277 k60 1 w run n st l5 A T M C e kind x m = k60 1 w run n st l5 1 A T M C (e + 1) m := fun l5 A T M C h h5 h3 => by
    unfold L_isHistory_277 L_isHistory_290
    by_cases c : kind = 3
    · rw [if_t c, if_f (by have := h3 (Or.inl c); omega), t297 _ _ _ _ _ h h5]
    · rw [if_f c]
      by_cases d : kind = 11
      · rw [if_t d, if_f (by have := h3 (Or.inr d); omega), t297 _ _ _ _ _ h h5]
      · rw [if_f d, t297 _ _ _ _ _ h h5]
  have t243 : ∀ l5 A T M s0, C + s0 < 2 → (s0 = 0 ∨ s0 = 1) → (kind = 5 → x < M) → (kind = 3 ∨ kind = 11 → x < T) → (kind = 1 ∨ kind = 2 ∨ kind = 9 → x < A) → L_isHistory_243 k60 1 w run n st l5 1 A T M e kind x s0 C m = k60 1 w run n st l5 1 A T M (C + s0) (e + 1) m := fun l5 A T M s0 h hs h5 h3 h1 => by
    unfold L_isHistory_243 L_isHistory_270
    rw [chk_t (by omega), if_f (by decide)]
    by_cases c : kind = 1
    · rw [if_t c, if_f (by have := h1 (Or.inl c); omega), t277 _ _ _ _ _ h h5 h3]
    · rw [if_f c]
      by_cases d : kind = 2
      · rw [if_t d, if_f (by have := h1 (Or.inr (Or.inl d)); omega), t277 _ _ _ _ _ h h5 h3]
      · rw [if_f d]
        by_cases u : kind = 9
        · rw [if_t u, if_f (by have := h1 (Or.inr (Or.inr u)); omega), t277 _ _ _ _ _ h h5 h3]
        · rw [if_f u, t277 _ _ _ _ _ h h5 h3]
  have t226 : ∀ l5 A T s0, (s0 = 0 ∨ s0 = 1) → (kind = 5 → x < M + s0) → (kind = 3 ∨ kind = 11 → x < T) → (kind = 1 ∨ kind = 2 ∨ kind = 9 → x < A) → L_isHistory_226 k60 1 w run n st l5 1 A T C e kind x s0 M m = k60 1 w run n st l5 1 A T (M + s0) (C + if p6 kind = true then 1 else 0) (e + 1) m := fun l5 A T s0 hs h5 h3 h1 => by
    unfold L_isHistory_226
    rw [chk_t (by omega)]
    by_cases c : kind = 6
    · have pc : p6 kind = true := decide_eq_true c
      rw [pc, if_t rfl] at hC
      rw [if_t c, pc, if_t rfl, t243 _ _ _ _ _ hC (Or.inr rfl) h5 h3 h1]
    · have pc : p6 kind = false := decide_eq_false c
      rw [pc, if_f (show ¬ (false = true) by decide)] at hC
      rw [if_f c, pc, if_f (show ¬ (false = true) by decide), t243 _ _ _ _ _ hC (Or.inl rfl) h5 h3 h1]
  have t209 : ∀ l5 A s0, (s0 = 0 ∨ s0 = 1) → (kind = 5 → x < M) → (kind = 3 ∨ kind = 11 → x < T + s0) → (kind = 1 ∨ kind = 2 ∨ kind = 9 → x < A) → L_isHistory_209 k60 1 w run n st l5 1 A M C e kind x s0 T m = k60 1 w run n st l5 1 A (T + s0) (M + if pM kind = true then 1 else 0) (C + if p6 kind = true then 1 else 0) (e + 1) m := fun l5 A s0 hs h5 h3 h1 => by
    unfold L_isHistory_209
    rw [chk_t (by omega)]
    by_cases c : kind = 12
    · have pc : pM kind = true := decide_eq_true c
      rw [if_t c, pc, if_t rfl, t226 _ _ _ _ (Or.inr rfl) (fun h => by omega) h3 h1]
    · have pc : pM kind = false := decide_eq_false c
      rw [if_f c, pc, if_f (show ¬ (false = true) by decide), t226 _ _ _ _ (Or.inl rfl) (fun h => by have := h5 h; omega) h3 h1]
  have t192 : ∀ l5 s0, (s0 = 0 ∨ s0 = 1) → (kind = 5 → x < M) → (kind = 3 ∨ kind = 11 → x < T) → (kind = 1 ∨ kind = 2 ∨ kind = 9 → x < A + s0) → L_isHistory_192 k60 1 w run n st l5 1 T M C e kind x s0 A m = k60 1 w run n st l5 1 (A + s0) (T + if pT kind = true then 1 else 0) (M + if pM kind = true then 1 else 0) (C + if p6 kind = true then 1 else 0) (e + 1) m := fun l5 s0 hs h5 h3 h1 => by
    unfold L_isHistory_192
    rw [chk_t (by omega)]
    by_cases c : kind = 10
    · have pc : pT kind = true := decide_eq_true c
      rw [if_t c, pc, if_t rfl, t209 _ _ _ (Or.inr rfl) h5 (fun h => by omega) h1]
    · have pc : pT kind = false := decide_eq_false c
      rw [if_f c, pc, if_f (show ¬ (false = true) by decide), t209 _ _ _ (Or.inl rfl) h5 (fun h => by have := h3 h; omega) h1]
  have t169 : ∀ l5, L_isHistory_169 k60 1 w run n st 1 A T M C e kind x l5 m = k60 1 w run n st l5 1 (A + if pA kind = true then 1 else 0) (T + if pT kind = true then 1 else 0) (M + if pM kind = true then 1 else 0) (C + if p6 kind = true then 1 else 0) (e + 1) m := fun l5 => by
    unfold L_isHistory_169
    by_cases c : kind = 8
    · have pc : pA kind = true := decide_eq_true (Or.inl c)
      rw [if_t c, pc, if_t rfl, t192 _ _ (Or.inr rfl) hM hT (fun h => by omega)]
    · rw [if_f c]
      by_cases d : kind = 15
      · have pc : pA kind = true := decide_eq_true (Or.inr d)
        rw [if_t d, pc, if_t rfl, t192 _ _ (Or.inr rfl) hM hT (fun h => by omega)]
      · have pc : pA kind = false := decide_eq_false (by omega)
        rw [if_f d, pc, if_f (show ¬ (false = true) by decide), t192 _ _ (Or.inl rfl) hM hT (fun h => by have := hA h; omega)]
  have t143 : L_isHistory_143 k60 1 w run n st l5 A T M C e kind x 1 m = k60 1 w run n st (if 7 ≤ kind then 1 else 0) 1 (A + if pA kind = true then 1 else 0) (T + if pT kind = true then 1 else 0) (M + if pM kind = true then 1 else 0) (C + if p6 kind = true then 1 else 0) (e + 1) m := by
    unfold L_isHistory_143
    by_cases c : kind = 7
    · rw [if_t c, t169, if_t (show 7 ≤ kind by omega)]
    · rw [if_f c]
      by_cases d : 7 < kind
      · rw [if_f (h7 d), if_f (by omega), t169, if_t (show 7 ≤ kind by omega)]
      · rw [if_f (show ¬ 7 ≤ kind by omega)]
        by_cases u : l5 = 0
        · rw [if_t u, t169]
        · rw [if_f u, if_t (by omega), t169]
  have t116 : L_isHistory_116 k60 1 w run n st l5 A T M C e kind x m = k60 1 w run n st (if 7 ≤ kind then 1 else 0) 1 (A + if pA kind = true then 1 else 0) (T + if pT kind = true then 1 else 0) (M + if pM kind = true then 1 else 0) (C + if p6 kind = true then 1 else 0) (e + 1) m := by
    unfold L_isHistory_116
    by_cases c : kind = 16
    · have := h16 c
      rw [if_t c, chk_t (by omega), if_t this.1, if_t this.2, t143]
    · rw [if_f c, t143]
  rw [if_f (by omega), if_f (by omega)]
  by_cases c : kind < 8
  · rw [if_t c, t116]
  · rw [if_f c, if_f (h7 (by omega)), t116]
theorem l_hist60 {k329 : Int → Int → Int → Int → Int → Int → Mem → Option R2} (h : RelC N r m) (w0 : 0 ≤ w) (w1 : w < r 16 0) (k0 : 1 ≤ k) (k1 : k ≤ r 12 w) (hr : Hr r (9 * w + k - 1)) (hs : Sr r (9 * w + k - 1)) : ∀ (d t : Nat) (e : Int), r 18 (9 * w + k - 1) - e = d → 1 ≤ e → d < t → L_isHistory_60 k329 t 1 w k (r 18 (9 * w + k - 1)) (r 17 (9 * w + k - 1)) (if 7 ≤ rwf r 19 (9 * w + k - 1) (e - 1) then 1 else 0) 1 (cntP pA (rwf r 19 (9 * w + k - 1)) e.toNat) (cntP pT (rwf r 19 (9 * w + k - 1)) e.toNat) (cntP pM (rwf r 19 (9 * w + k - 1)) e.toNat) (cntP p6 (rwf r 19 (9 * w + k - 1)) e.toNat) e m = k329 1 w k (r 18 (9 * w + k - 1)) (r 17 (9 * w + k - 1)) 1 m := by
  intro d
  induction d with
  | zero =>
    intro t e h1 h2 h3
    obtain ⟨t, rfl⟩ : ∃ k, t = k + 1 := ⟨t - 1, by omega⟩
    rw [L_isHistory_60, if_t (by omega)]
  | succ d ih =>
    intro t e h1 h2 h3
    obtain ⟨t, rfl⟩ : ∃ k, t = k + 1 := ⟨t - 1, by omega⟩
    have n8 := hr.n
    rw [L_isHistory_60, if_f (by omega), if_f (by decide), chk_t (by omega), q_kind h w0 w1 k0 k1 (by omega) (by omega), cal0_e, q_first h w0 w1 k0 k1 (by omega) (by omega), cal0_e]
    obtain ⟨g1, g2, g3, g4⟩ := hr
    obtain ⟨e1, e2, e3, e4, e5, e6⟩ := g3 e (by omega) (by omega)
    have c6 : cntP p6 (rwf r 19 (9 * w + k - 1)) (e + 1).toNat < 2 := by
      rcases cnt6 g2.1 g4 (e + 1).toNat (by omega) with h | ⟨h, -⟩ <;> omega
    have ca := cntP_le (p := pA) (f := rwf r 19 (9 * w + k - 1)) (n := e.toNat)
    have ct := cntP_le (p := pT) (f := rwf r 19 (9 * w + k - 1)) (n := e.toNat)
    have cm := cntP_le (p := pM) (f := rwf r 19 (9 * w + k - 1)) (n := e.toNat)
    have c7 := cntP_le (p := p6) (f := rwf r 19 (9 * w + k - 1)) (n := e.toNat)
    have ca0 := cntP_0 (p := pA) (f := rwf r 19 (9 * w + k - 1)) (n := e.toNat)
    have ct0 := cntP_0 (p := pT) (f := rwf r 19 (9 * w + k - 1)) (n := e.toNat)
    have cm0 := cntP_0 (p := pM) (f := rwf r 19 (9 * w + k - 1)) (n := e.toNat)
    have c70 := cntP_0 (p := p6) (f := rwf r 19 (9 * w + k - 1)) (n := e.toNat)
    have s6 := cntP_s (q := p6) (f := rwf r 19 (9 * w + k - 1)) (l := e) (by omega)
    have sa := cntP_s (q := pA) (f := rwf r 19 (9 * w + k - 1)) (l := e) (by omega)
    have st := cntP_s (q := pT) (f := rwf r 19 (9 * w + k - 1)) (l := e) (by omega)
    have sm := cntP_s (q := pM) (f := rwf r 19 (9 * w + k - 1)) (l := e) (by omega)
    have nx := ih t (e + 1) (by omega) (by omega) (by omega)
    rw [sa, st, sm, s6, show e + 1 - 1 = e by omega] at nx
    have hk : r 19 (80 * (9 * w + k - 1) + e) = rwf r 19 (9 * w + k - 1) e := rfl
    have hx : r 20 (80 * (9 * w + k - 1) + e) = rwf r 20 (9 * w + k - 1) e := rfl
    have i16 : rwf r 19 (9 * w + k - 1) e = 16 → e = r 18 (9 * w + k - 1) - 1 ∧ rwf r 20 (9 * w + k - 1) e = r 17 (9 * w + k - 1) := fun e9 => by
      have := hs.1 e (by omega) (by omega) e9
      exact ⟨this.1, this.2.1⟩
    have i7 : 7 < rwf r 19 (9 * w + k - 1) e → (if 7 ≤ rwf r 19 (9 * w + k - 1) (e - 1) then (1 : Int) else 0) ≠ 0 := fun e9 => by
      rw [if_t (e2 e9)]; decide
    have i6 : cntP p6 (rwf r 19 (9 * w + k - 1)) e.toNat + (if p6 (rwf r 19 (9 * w + k - 1) e) = true then 1 else 0) < 2 := by
      rw [← s6]; exact c6
    rw [hk, hx, l_hist1 e1 i16 i7 e3 e4 e5 i6 (by omega)]
    exact nx
theorem l_history (h : RelC N r m) (hp : Px nob nob nob r) (w0 : 0 ≤ w) (w1 : w < r 16 0) (k0 : 1 ≤ k) (k1 : k ≤ r 12 w) : L_isHistory 1 w k m = some (1, m) := by
  have f9 := fuel9_ge
  obtain ⟨q1, q2, q3, q4, q5, q6, q7, q8, q9⟩ := hp.pw w0 w1
  have er : rw9 r w = 9 * w + r 12 w - 1 := rfl
  have hrs : Hr r (9 * w + k - 1) ∧ Sr r (9 * w + k - 1) ∧ (k = r 12 w ∨ r 17 (9 * w + k - 1) = 14) := by
    by_cases c : k < r 12 w
    · obtain ⟨a, b, d⟩ := q2 k k0 c
      exact ⟨a, b, Or.inr d⟩
    · obtain rfl : k = r 12 w := by omega
      exact ⟨q3, (q4 (fun a => a)).1, Or.inl rfl⟩
  obtain ⟨hr, hs, h14⟩ := hrs
  have n8 := hr.n
  have f0 := hr.2.1.1
  have y := l_hist60 (k329 := L_isHistory_329) h w0 w1 k0 k1 hr hs (r 18 (9 * w + k - 1) - 1).toNat fuel9 1 (by omega) (by omega) (by omega)
  have z : ∀ p : Int → Bool, p 0 = false → cntP p (rwf r 19 (9 * w + k - 1)) (1 : Int).toNat = 0 := fun p hp0 => by
    show cntP p (rwf r 19 (9 * w + k - 1)) 0 + (if p (rwf r 19 (9 * w + k - 1) ((0 : Nat) : Int)) = true then 1 else 0) = 0
    rw [show ((0 : Nat) : Int) = 0 from rfl, f0, hp0]
    rfl
  rw [show (1 : Int) - 1 = 0 by omega, f0, if_f (show ¬ (7 : Int) ≤ 0 by decide), z pA rfl, z pT rfl, z pM rfl, z p6 rfl] at y
  have h392 : L_isHistory_392 1 w k (r 17 (9 * w + k - 1)) m = some (1, m) := by
    unfold L_isHistory_392
    rw [chk_t (by omega), q_runs h w0 w1, cal0_e]
    rcases h14 with e | e
    · rw [if_t e]
    · by_cases d : k = r 12 w
      · rw [if_t d]
      · rw [if_f d, if_t e]
  have h376 : ∀ s, L_isHistory_376 1 w k (r 18 (9 * w + k - 1)) (r 17 (9 * w + k - 1)) s s m = some (1, m) := fun s => by
    unfold L_isHistory_376
    rw [if_t rfl]
    by_cases d : r 17 (9 * w + k - 1) = 20
    · rw [if_t d, h392]
    · rw [if_f d, if_f (by omega), h392]
  have h329 : L_isHistory_329 1 w k (r 18 (9 * w + k - 1)) (r 17 (9 * w + k - 1)) 1 m = some (1, m) := by
    unfold L_isHistory_329 L_isHistory_348
    rw [chk_t (by omega), chk_t (by omega), q_kind h w0 w1 k0 k1 (by omega) (by omega), cal0_e]
    have hl : r 19 (80 * (9 * w + k - 1) + (r 18 (9 * w + k - 1) - 1)) = rwf r 19 (9 * w + k - 1) (r 18 (9 * w + k - 1) - 1) := rfl
    rw [hl]
    by_cases c : rwf r 19 (9 * w + k - 1) (r 18 (9 * w + k - 1) - 1) = 16
    · have p1 : 0 < r 18 (9 * w + k - 1) - 1 := by
        by_cases e : r 18 (9 * w + k - 1) - 1 = 0
        · rw [e, f0] at c; omega
        · omega
      have sv := (hs.1 _ p1 (by omega) c).2.2.n
      rw [if_t c, if_f (by decide), if_f sv.1, if_f sv.2.1, h376]
    · rw [if_f c, if_f (by decide)]
      by_cases d : r 17 (9 * w + k - 1) = 20
      · rw [if_t d, h376]
      · rw [if_f d]
        by_cases u : r 17 (9 * w + k - 1) = 24
        · rw [if_t u, h376]
        · exact absurd (hs.2 d u) c
  unfold L_isHistory L_isHistory_0 L_isHistory_43
  rw [chk_t (by omega), q_events h w0 w1 k0 k1, cal0_e, q_state h w0 w1 k0 k1, cal0_e, if_f (by omega), if_f (by omega), q_kind h w0 w1 k0 k1 (by omega) (by omega), cal0_e]
  have hz : r 19 (80 * (9 * w + k - 1) + 0) = 0 := f0
  rw [hz, if_t rfl, y, h329]
  exact boolR_e (Or.inr rfl)
end HIS
