/-! what always holds of the reference's fields -/
/-- the history of the latest run -/
def HI (r : Rst) (w : Int) : Prop := (1 ≤ r 18 (rw9 r w) ∧ r 18 (rw9 r w) ≤ 80) ∧ hk r w 0 = 0 ∧ (∀ i, 0 < i → i < r 18 (rw9 r w) → hk r w i ≠ 0) ∧ (∀ i, 0 ≤ i → i < r 18 (rw9 r w) → 0 ≤ hk r w i) ∧ (∀ i, 0 ≤ i → i < r 18 (rw9 r w) → hk r w i < 7 → i ≤ 77 ∧ (-100000 ≤ r 20 (80 * rw9 r w + i) ∧ r 20 (80 * rw9 r w + i) ≤ 100000) ∧ (-100000 ≤ r 21 (80 * rw9 r w + i) ∧ r 21 (80 * rw9 r w + i) ≤ 100000)) ∧ (∀ i, 0 ≤ i → i < r 18 (rw9 r w) → 1 ≤ hk r w i → hk r w i ≤ 5 → 0 ≤ r 20 (80 * rw9 r w + i)) ∧
  (∀ i, 0 ≤ i → i < r 18 (rw9 r w) → hk r w i = 1 ∨ hk r w i = 2 → r 20 (80 * rw9 r w + i) < r 22 w ∧ r 23 (80 * w + r 20 (80 * rw9 r w + i)) = 0) ∧ (∀ i j, 0 ≤ i → i < j → j < r 18 (rw9 r w) → (hk r w i = 1 ∨ hk r w i = 2) → (hk r w j = 1 ∨ hk r w j = 2) → r 20 (80 * rw9 r w + i) ≠ r 20 (80 * rw9 r w + j)) ∧
  (∀ i, 0 ≤ i → i < r 18 (rw9 r w) → hk r w i = 5 → r 20 (80 * rw9 r w + i) < r 32 w ∧ (r 33 (80 * w + r 20 (80 * rw9 r w + i)) = -1 ∨ r 17 (rw9 r (r 33 (80 * w + r 20 (80 * rw9 r w + i)))) ≠ 20)) ∧ (∀ i j, 0 ≤ i → i < j → j < r 18 (rw9 r w) → hk r w i = 5 → hk r w j = 5 → r 20 (80 * rw9 r w + i) ≠ r 20 (80 * rw9 r w + j)) ∧
  (∀ i, 0 ≤ i → i < r 18 (rw9 r w) → hk r w i = 16 → i = r 18 (rw9 r w) - 1 ∧ r 17 (rw9 r w) ≠ 20) ∧ (∀ i, 0 < i → i < r 18 (rw9 r w) → 7 < hk r w i → 7 ≤ hk r w (i - 1)) ∧
  (r 22 w = cntP pA (hk r w) (r 18 (rw9 r w)).toNat ∧ r 30 w = cntP pT (hk r w) (r 18 (rw9 r w)).toNat ∧ r 32 w = cntP pM (hk r w) (r 18 (rw9 r w)).toNat)
def StC (r : Rst) : Prop := ∀ i, 0 ≤ i → i < 180 → (0 ≤ r 2 i ∧ r 2 i ≤ 15) ∧ (-99 ≤ r 3 i ∧ r 3 i ≤ 99) ∧ (-99 ≤ r 4 i ∧ r 4 i ≤ 100) ∧ (r 2 i = 10 → 0 ≤ r 3 i ∧ r 3 i ≤ 3) ∧ (r 2 i = 11 → 1 ≤ r 3 i ∧ r 3 i ≤ 11) ∧ (r 2 i = 5 ∨ r 2 i = 10 ∨ r 2 i = 6 → 1 ≤ r 4 i) ∧ (r 2 i = 4 → 1 ≤ r 3 i ∧ r 3 i ≤ 3) ∧ (r 2 i = 2 → 0 ≤ r 4 i) ∧ (r 2 i = 13 → 1 ≤ r 3 i ∧ r 3 i ≤ 9) ∧ (r 2 i = 12 → 0 ≤ r 3 i ∧ r 3 i ≤ 1) ∧ (r 2 i = 3 → 0 ≤ r 3 i ∧ r 3 i ≤ 2)
def GP (r : Rst) : Prop := StC r ∧ ∀ t, 0 ≤ t → t < 3 → (0 ≤ r 6 t ∧ r 6 t ≤ 4) ∧ (0 ≤ r 5 (5 * t + 4) ∧ r 5 (5 * t + 4) ≤ 12 ∧ (r 6 t = 4 → r 5 (5 * t + 4) = 0)) ∧ ∀ v, 1 ≤ v → v ≤ r 6 t → PgR (ur r 77 0 (5 * t + v - 1))
def GW (r : Rst) : Prop := ∀ w, 0 ≤ w → w < r 16 0 → (0 ≤ r 7 w ∧ r 7 w < 3) ∧ (0 ≤ r 8 w ∧ r 8 w < 3) ∧ (1 ≤ r 12 w ∧ r 12 w ≤ 9)
def GU (r : Rst) : Prop := (∀ w, r 16 0 ≤ w → w < 10 → r 12 w = 0 ∧ r 13 (2 * w) = 0 ∧ r 13 (2 * w + 1) = 0) ∧ (∀ w k, 0 ≤ w → w < 10 → r 12 w < k → k ≤ 9 → r 18 (9 * w + k - 1) = 0) ∧ ∀ w k, 0 ≤ w → w < r 16 0 → 1 ≤ k → k ≤ r 12 w → 1 ≤ r 18 (9 * w + k - 1) ∧ r 18 (9 * w + k - 1) ≤ 80
def GC (r : Rst) : Prop := (∀ w n, 0 ≤ w → w < r 16 0 → 0 ≤ n → n < r 32 w → r 33 (80 * w + n) = -1 ∨ (w < r 33 (80 * w + n) ∧ r 33 (80 * w + n) < r 16 0 ∧ r 9 (r 33 (80 * w + n)) = w ∧ r 10 (r 33 (80 * w + n)) = r 12 w ∧ r 11 (r 33 (80 * w + n)) = n)) ∧ ∀ c, 0 ≤ c → c < r 16 0 → r 9 c = -1 ∨ (0 ≤ r 9 c ∧ r 9 c < c ∧ r 10 c ≤ r 12 (r 9 c) ∧ (r 10 c = r 12 (r 9 c) → 0 ≤ r 11 c ∧ r 11 c < r 32 (r 9 c) ∧ r 33 (80 * r 9 c + r 11 c) = c))
def GK (r : Rst) : Prop := (∀ q, 0 ≤ q → q < 4 → (r 38 q = 0 ∨ r 38 q = 1) ∧ (r 39 q = -1 ∨ r 23 (r 39 q) = 2)) ∧ ∀ w n, 0 ≤ w → w < r 16 0 → 0 ≤ n → n < r 22 w → (r 23 (80 * w + n) = 1 → 0 ≤ r 25 (80 * w + n) ∧ r 25 (80 * w + n) ≤ 2) ∧ (r 23 (80 * w + n) = 2 → (1 ≤ r 25 (80 * w + n) ∧ r 25 (80 * w + n) ≤ 3) ∧ r 1 0 ≤ r 27 (80 * w + n)) ∧ (r 23 (80 * w + n) = 3 → (1 ≤ r 25 (80 * w + n) ∧ r 25 (80 * w + n) ≤ 2) ∧ r 1 0 ≤ r 26 (80 * w + n))
/-- between two ticks no lease and no rest ends -/
def GT (r : Rst) : Prop := ∀ w n, 0 ≤ w → w < r 16 0 → 0 ≤ n → n < r 22 w → (r 23 (80 * w + n) = 2 → r 1 0 ≠ r 27 (80 * w + n)) ∧ (r 23 (80 * w + n) = 3 → r 1 0 ≠ r 26 (80 * w + n))
theorem GT.fr {r r' : Rst} (h : GT r) (e : ∀ j : Nat, j = 1 ∨ j = 16 ∨ j = 22 ∨ j = 23 ∨ j = 26 ∨ j = 27 → r' j = r j) : GT r' := by
  unfold GT at *
  rw [e 1 (by omega), e 16 (by omega), e 22 (by omega), e 23 (by omega), e 26 (by omega), e 27 (by omega)]
  exact h
def GN (N : Int) (r : Rst) : Prop := (0 ≤ r 1 0 ∧ r 1 0 ≤ 50 * N) ∧ (0 ≤ r 29 0 ∧ r 29 0 ≤ 100 * N) ∧ (∀ q, 0 ≤ q → q < 2 → 0 ≤ r 36 q ∧ r 36 q ≤ N) ∧ ∀ i, 0 ≤ i → i < 6 → 0 ≤ r 37 i ∧ r 37 i ≤ N
def GI (N : Int) (r : Rst) : Prop := (0 ≤ r 16 0 ∧ r 16 0 ≤ 10) ∧ GP r ∧ (Fb r ∧ Pt r) ∧ GW r ∧ GU r ∧ (∀ w, 0 ≤ w → w < r 16 0 → HI r w) ∧ GC r ∧ GK r ∧ GN N r
theorem cntP_le {p : Int → Bool} {f : Int → Int} : ∀ {n : Nat}, cntP p f n ≤ n
  | 0 => Int.le_refl _
  | n + 1 => by
    have := cntP_le (p := p) (f := f) (n := n)
    rw [cntP]
    split <;> omega
theorem cntP_lt {p : Int → Bool} {f : Int → Int} (h : p (f 0) = false) : ∀ {n : Nat}, cntP p f (n + 1) ≤ n
  | 0 => by
    rw [cntP, cntP]
    rw [show ((0 : Nat) : Int) = 0 from rfl, h]
    decide
  | n + 1 => by
    have := cntP_lt (p := p) (f := f) h (n := n)
    rw [cntP]
    split <;> omega
theorem HI.cnt {r : Rst} {w : Int} (h : HI r w) {p : Int → Bool} (hp : p 0 = false) : 0 ≤ cntP p (hk r w) (r 18 (rw9 r w)).toNat ∧ cntP p (hk r w) (r 18 (rw9 r w)).toNat ≤ r 18 (rw9 r w) - 1 := by
  refine ⟨cntP_0, ?_⟩
  have h1 := h.1
  obtain ⟨k, hk9⟩ : ∃ k, (r 18 (rw9 r w)).toNat = k + 1 := ⟨(r 18 (rw9 r w)).toNat - 1, by omega⟩
  rw [hk9]
  have := cntP_lt (p := p) (f := hk r w) (by rw [h.2.1]; exact hp) (n := k)
  omega
theorem GI.rg {N : Int} {r : Rst} (h : GI N r) : Rg r := by
  obtain ⟨a1, a2, a3, a4, a5, a6, a7, a8, a9⟩ := h
  refine ⟨a1, fun t b c => (a2.2 t b c).1, fun w b c => ?_⟩
  have w4 := a4 w b c
  have hi := a6 w b c
  obtain ⟨c1, c2, c3⟩ := hi.2.2.2.2.2.2.2.2.2.2.2.2
  have k1 := hi.cnt (p := pA) rfl
  have k2 := hi.cnt (p := pT) rfl
  have k3 := hi.cnt (p := pM) rfl
  have hb := hi.1
  refine ⟨w4.2.2.1, w4.2.2.2, by omega, by omega, by omega, fun row d e => ?_⟩
  by_cases f : row - 9 * w + 1 ≤ r 12 w
  · have := a5.2.2 w (row - 9 * w + 1) b c (by omega) f
    rw [show 9 * w + (row - 9 * w + 1) - 1 = row by omega] at this
    omega
  · have := a5.2.1 w (row - 9 * w + 1) b (by omega) (by omega) (by omega)
    rw [show 9 * w + (row - 9 * w + 1) - 1 = row by omega] at this
    omega
/-- tighter than Rg: there is room for one more -/
theorem GI.lt {N : Int} {r : Rst} (h : GI N r) {w : Int} (w0 : 0 ≤ w) (w1 : w < r 16 0) : (0 ≤ r 22 w ∧ r 22 w ≤ 79) ∧ (0 ≤ r 30 w ∧ r 30 w ≤ 79) ∧ (0 ≤ r 32 w ∧ r 32 w ≤ 79) ∧ (1 ≤ r 18 (rw9 r w) ∧ r 18 (rw9 r w) ≤ 80) ∧ (r 22 w ≤ r 18 (rw9 r w) - 1 ∧ r 30 w ≤ r 18 (rw9 r w) - 1 ∧ r 32 w ≤ r 18 (rw9 r w) - 1) := by
  obtain ⟨a1, a2, a3, a4, a5, a6, a7, a8, a9⟩ := h
  have hi := a6 w w0 w1
  obtain ⟨c1, c2, c3⟩ := hi.2.2.2.2.2.2.2.2.2.2.2.2
  have k1 := hi.cnt (p := pA) rfl
  have k2 := hi.cnt (p := pT) rfl
  have k3 := hi.cnt (p := pM) rfl
  have hb := hi.1
  omega
theorem StC.pgc {r : Rst} (h : StC r) : PgC r := fun i a b => by
  obtain ⟨c1, c2, c3, c4, c5, c6, c7, c8, c9, c10, c11⟩ := h i a b
  exact ⟨c11, c10, by omega, by omega⟩
theorem GI.fr {N : Int} {r r' : Rst} (h : GI N r) (e : ∀ j : Nat, (1 ≤ j ∧ j < 40 ∧ j ≠ 14 ∧ j ≠ 15 ∧ j ≠ 24 ∧ j ≠ 28 ∧ j ≠ 31 ∧ j ≠ 34 ∧ j ≠ 35) ∨ j = 60 ∨ j = 61 ∨ j = 62 ∨ j = 66 ∨ j = 78 ∨ j = 79 → r' j = r j) : GI N r' := by
  unfold GI GP StC PgR Fb Pt GW GU HI hk rw9 GC GK GN at *
  simp (disch := omega) only [ur_ne] at h ⊢
  rw [e 1 (by omega), e 2 (by omega), e 3 (by omega), e 4 (by omega), e 5 (by omega), e 6 (by omega), e 7 (by omega), e 8 (by omega), e 9 (by omega), e 10 (by omega), e 11 (by omega), e 12 (by omega), e 13 (by omega), e 16 (by omega), e 17 (by omega), e 18 (by omega), e 19 (by omega), e 20 (by omega), e 21 (by omega), e 22 (by omega), e 23 (by omega), e 25 (by omega), e 26 (by omega), e 27 (by omega), e 29 (by omega), e 30 (by omega), e 32 (by omega), e 33 (by omega), e 36 (by omega), e 37 (by omega), e 38 (by omega), e 39 (by omega), e 60 (by omega), e 61 (by omega), e 62 (by omega), e 66 (by omega), e 78 (by omega), e 79 (by omega)]
  simp only [ur_e] at h ⊢
  exact h
/-- the class's memory and the reference's fields, between two calls -/
def RelC (N : Int) (r : Rst) (m : Mem) : Prop := RelM r m ∧ (∀ w, 0 ≤ w → w < r 16 0 → CaW r m w ∧ m (Rl r w) 6 = 0) ∧ GI N r
theorem RelC.fr {N : Int} {r r' : Rst} {m m' : Mem} (h : RelC N r m) (pl : Pl m') (em : ∀ i, i = -1 ∨ (1 ≤ i ∧ i ≤ 5) ∨ 1000 ≤ i → m' i = m i) (er : ∀ j : Nat, (1 ≤ j ∧ j < 40) ∨ j = 60 ∨ j = 61 ∨ j = 62 ∨ j = 66 ∨ j = 78 ∨ j = 79 → r' j = r j) : RelC N r' m' := by
  have g := h.2.2.rg
  refine ⟨h.1.fr g pl em (fun j a b => er j (by omega)), fun w a b => ?_, h.2.2.fr fun j hj => er j (by omega)⟩
  rw [er 16 (by omega)] at b
  have s := g.2.2 w a b
  have s1 := s.1
  unfold CaW hk rw9 Rl
  rw [er 12 (by omega), er 18 (by omega), er 19 (by omega), em _ (by omega)]
  exact h.2.1 w a b
