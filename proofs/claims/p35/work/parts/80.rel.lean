/-! the class's memory beside the reference's fields -/
def Rt (r : Rst) (m : Mem) : Prop := (m 1 0 = 2 ∧ m 1 1 = 3 ∧ m 1 2 = 4 ∧ m 1 3 = 5 ∧ m 1 4 = 100 ∧ m 1 5 = r 16 0 ∧ m 1 6 = r 29 0 ∧ m 1 7 = r 1 0) ∧ ∀ w, 0 ≤ w → w < r 16 0 → m 3 w = 100000 * (w + 1)
def Pm (r : Rst) (m : Mem) (P row : Int) : Prop := (m P 0 = P + 1 ∧ m P 1 = P + 2 ∧ m P 2 = P + 3 ∧ m P 3 = r 5 row) ∧ ∀ s, 0 ≤ s → s < r 5 row → m (P + 1) s = r 2 (12 * row + s) ∧ m (P + 2) s = r 3 (12 * row + s) ∧ m (P + 3) s = r 4 (12 * row + s)
def rowk (r : Rst) (t k : Int) : Int := if k < r 6 t then 5 * t + k else 5 * t + 4
def Fm (r : Rst) (m : Mem) (t : Int) : Prop := (m 2 t = 1000 * (t + 1) ∧ m (1000 * (t + 1)) 0 = 1000 * (t + 1) + 1 ∧ m (1000 * (t + 1)) 1 = r 6 t ∧ m (1000 * (t + 1)) 2 = 1000 * (t + 1) + 10 * (r 6 t + 1)) ∧ (∀ k, 0 ≤ k → k < r 6 t → m (1000 * (t + 1) + 1) k = 1000 * (t + 1) + 10 * (k + 1)) ∧ ∀ k, 0 ≤ k → k ≤ r 6 t → Pm r m (1000 * (t + 1) + 10 * (k + 1)) (rowk r t k)
def Qu (r : Rst) (m : Mem) (q : Int) : Prop := (m 4 q = 5000 + 10 * q ∧ m (5000 + 10 * q) 0 = 5000 + 10 * q + 1 ∧ m (5000 + 10 * q) 1 = r 35 q ∧ m (5000 + 10 * q) 2 = r 36 q) ∧ ∀ t, 0 ≤ t → t < 3 → m (5000 + 10 * q + 1) t = r 37 (3 * q + t)
/-- the place of a run, of an activity of the latest run -/
def Rl (r : Rst) (w : Int) : Int := 100000 * (w + 1) + 10000 * r 12 w
def Wk (r : Rst) (m : Mem) (q : Int) : Prop := m 5 q = 5100 + q ∧ m (5100 + q) 0 = r 38 q ∧ (r 39 q = -1 ∧ m (5100 + q) 1 = 0 ∨ ∃ w n, 0 ≤ w ∧ w < r 16 0 ∧ 0 ≤ n ∧ n < r 22 w ∧ r 39 q = 80 * w + n ∧ m (5100 + q) 1 = Rl r w + 100 + n)
def Fl (r : Rst) (m : Mem) (w : Int) : Prop := (m (100000 * (w + 1)) 0 = w ∧ m (100000 * (w + 1)) 1 = r 7 w ∧ m (100000 * (w + 1)) 2 = r 8 w ∧ m (100000 * (w + 1)) 3 = 100000 * (w + 1) + 1 ∧ m (100000 * (w + 1)) 4 = 100000 * (w + 1) + 2 ∧ m (100000 * (w + 1)) 5 = r 12 w ∧ m (100000 * (w + 1)) 6 = Rl r w ∧ m (100000 * (w + 1)) 7 = r 9 w) ∧ (r 9 w ≠ -1 → m (100000 * (w + 1)) 8 = r 10 w ∧ m (100000 * (w + 1)) 9 = r 11 w) ∧ (m (100000 * (w + 1) + 1) 0 = r 13 (2 * w) ∧ m (100000 * (w + 1) + 1) 1 = r 13 (2 * w + 1)) ∧ ∀ k, 1 ≤ k → k ≤ r 12 w → m (100000 * (w + 1) + 2) (k - 1) = 100000 * (w + 1) + 10000 * k
/-- one run: its place, its row -/
def Ru (r : Rst) (m : Mem) (R row : Int) : Prop := (m R 0 = R + 1 ∧ m R 1 = R + 5 ∧ m R 2 = R + 6 ∧ m R 7 = r 17 row ∧ m (R + 1) 0 = R + 2 ∧ m (R + 1) 1 = R + 3 ∧ m (R + 1) 2 = R + 4 ∧ m (R + 1) 3 = r 18 row) ∧ ∀ e, 0 ≤ e → e < r 18 row → m (R + 2) e = r 19 (80 * row + e) ∧ m (R + 3) e = r 20 (80 * row + e) ∧ m (R + 4) e = r 21 (80 * row + e)
def Hi (r : Rst) (m : Mem) (w : Int) : Prop := ∀ k, 1 ≤ k → k ≤ r 12 w → Ru r m (100000 * (w + 1) + 10000 * k) (9 * w + k - 1)
def Lt (r : Rst) (m : Mem) (w : Int) : Prop := m (Rl r w) 3 = r 22 w ∧ m (Rl r w) 4 = r 30 w ∧ m (Rl r w) 5 = r 32 w ∧ m (Rl r w) 8 = r 14 w ∧ m (Rl r w) 9 = r 15 w
def ActC (r : Rst) (w n : Int) (a : Int → Int) : Prop := (a 0 = Rl r w ∧ a 1 = n ∧ a 2 = r 24 (80 * w + n) ∧ a 3 = r 8 w ∧ a 4 = r 28 (80 * w + n) ∧ a 5 = 1000 * w + 100 * r 12 w + n ∧ a 9 = r 25 (80 * w + n)) ∧ (r 23 (80 * w + n) = 1 ∧ a 6 = 0 ∧ a 7 = r 26 (80 * w + n) ∨ r 23 (80 * w + n) = 2 ∧ a 6 = 1 ∧ a 8 = r 27 (80 * w + n) ∨ r 23 (80 * w + n) = 3 ∧ a 6 = 2 ∧ a 8 = r 26 (80 * w + n) ∨ r 23 (80 * w + n) = 0 ∧ a 6 = 3)
def Ac (r : Rst) (m : Mem) (w : Int) : Prop := ∀ n, 0 ≤ n → n < r 22 w → m (Rl r w + 5) n = Rl r w + 100 + n ∧ ActC r w n (m (Rl r w + 100 + n))
def Ti (r : Rst) (m : Mem) (w : Int) : Prop := ∀ n, 0 ≤ n → n < r 30 w → m (Rl r w + 6) n = r 31 (80 * w + n)
def FlA (r : Rst) (m : Mem) (w : Int) : Prop := Fl r m w ∧ Hi r m w ∧ Lt r m w ∧ Ac r m w ∧ Ti r m w
/-- what becomes of children -/
def Fa (r : Rst) (m : Mem) : Prop := ∀ c, 0 ≤ c → c < r 16 0 → r 9 c ≠ -1 → r 10 c = r 12 (r 9 c) → m (100000 * (c + 1)) 10 = r 34 (80 * r 9 c + r 11 c)
/-- nothing is there yet -/
def Fz (r : Rst) (m : Mem) : Prop := (∀ w, r 16 0 ≤ w → w < 10 → ∀ i, 100000 * (w + 1) ≤ i → i < 100000 * (w + 2) → m (-1) i = 0) ∧ (∀ w, 0 ≤ w → w < r 16 0 → ∀ i, Rl r w + 100 + r 22 w ≤ i → i < 100000 * (w + 2) → m (-1) i = 0) ∧ ∀ t, 0 ≤ t → t < 3 → ∀ i, 1000 * (t + 1) + 10 * (r 6 t + 2) ≤ i → i < 1000 * (t + 1) + 100 → m (-1) i = 0
def RelM (r : Rst) (m : Mem) : Prop := Rt r m ∧ Pl m ∧ (∀ t, 0 ≤ t → t < 3 → Fm r m t) ∧ (∀ q, 0 ≤ q → q < 2 → Qu r m q) ∧ (∀ q, 0 ≤ q → q < 4 → Wk r m q) ∧ (∀ w, 0 ≤ w → w < r 16 0 → FlA r m w) ∧ Fa r m ∧ Fz r m
/-- the fields that belong to a workflow -/
def Own (w : Int) (j : Nat) (i : Int) : Prop := ((7 ≤ j ∧ j ≤ 12 ∨ j = 14 ∨ j = 15 ∨ j = 22 ∨ j = 30 ∨ j = 32) ∧ i = w) ∨ (j = 13 ∧ 2 * w ≤ i ∧ i ≤ 2 * w + 1) ∨ ((j = 17 ∨ j = 18) ∧ 9 * w ≤ i ∧ i < 9 * w + 9) ∨ (19 ≤ j ∧ j ≤ 21 ∧ 720 * w ≤ i ∧ i < 720 * w + 720) ∨ ((23 ≤ j ∧ j ≤ 28 ∨ j = 31 ∨ j = 33 ∨ j = 34) ∧ 80 * w ≤ i ∧ i < 80 * w + 80)
section RM
variable {r r' : Rst} {m m' : Mem} {w : Int}
theorem Fl.fr (h : Fl r m w) (em : ∀ i, 100000 * (w + 1) ≤ i → i ≤ 100000 * (w + 1) + 2 → m' i = m i) (er : ∀ j i, Own w j i → j ≤ 13 → r' j i = r j i) : Fl r' m' w := by
  have e12 : r' 12 w = r 12 w := er 12 w (by unfold Own; omega) (by omega)
  unfold Fl Rl at *
  rw [em (100000 * (w + 1)) (by omega) (by omega), em (100000 * (w + 1) + 1) (by omega) (by omega), em (100000 * (w + 1) + 2) (by omega) (by omega), e12, er 7 w (by unfold Own; omega) (by omega), er 8 w (by unfold Own; omega) (by omega), er 9 w (by unfold Own; omega) (by omega), er 10 w (by unfold Own; omega) (by omega), er 11 w (by unfold Own; omega) (by omega), er 13 (2 * w) (by unfold Own; omega) (by omega), er 13 (2 * w + 1) (by unfold Own; omega) (by omega)]
  exact h
theorem Ru.fr {R row : Int} (h : Ru r m R row) (em : ∀ i, R ≤ i → i ≤ R + 4 → m' i = m i) (e17 : r' 17 row = r 17 row) (e18 : r' 18 row = r 18 row) (er : ∀ (j : Nat) e, 19 ≤ j → j ≤ 21 → 0 ≤ e → e < r 18 row → r' j (80 * row + e) = r j (80 * row + e)) : Ru r' m' R row := by
  unfold Ru at *
  rw [em R (by omega) (by omega), em (R + 1) (by omega) (by omega), em (R + 2) (by omega) (by omega), em (R + 3) (by omega) (by omega), em (R + 4) (by omega) (by omega), e17, e18]
  refine ⟨h.1, fun e e0 e1 => ?_⟩
  rw [er 19 e (by omega) (by omega) e0 e1, er 20 e (by omega) (by omega) e0 e1, er 21 e (by omega) (by omega) e0 e1]
  exact h.2 e e0 e1
theorem Hi.fr (h : Hi r m w) (h9 : r 12 w ≤ 9) (hE : ∀ row, 9 * w ≤ row → row < 9 * w + 9 → r 18 row ≤ 80) (em : ∀ k i, 1 ≤ k → k ≤ r 12 w → 100000 * (w + 1) + 10000 * k ≤ i → i ≤ 100000 * (w + 1) + 10000 * k + 4 → m' i = m i) (er : ∀ j i, Own w j i → j = 12 ∨ (17 ≤ j ∧ j ≤ 21) → r' j i = r j i) : Hi r' m' w := by
  have e12 : r' 12 w = r 12 w := er 12 w (by unfold Own; omega) (by omega)
  intro k k0 k1
  rw [e12] at k1
  have hr := hE (9 * w + k - 1) (by omega) (by omega)
  exact (h k k0 k1).fr (fun i a b => em k i k0 k1 (by omega) (by omega)) (er 17 _ (by unfold Own; omega) (by omega)) (er 18 _ (by unfold Own; omega) (by omega)) fun j e a b c d => er j _ (by unfold Own; omega) (by omega)
theorem Lt.fr (h : Lt r m w) (em : m' (Rl r w) = m (Rl r w)) (er : ∀ j : Nat, j = 12 ∨ j = 14 ∨ j = 15 ∨ j = 22 ∨ j = 30 ∨ j = 32 → r' j w = r j w) : Lt r' m' w := by
  have e : Rl r' w = Rl r w := by unfold Rl; rw [er 12 (by omega)]
  unfold Lt at *
  rw [e, em, er 22 (by omega), er 30 (by omega), er 32 (by omega), er 14 (by omega), er 15 (by omega)]
  exact h
theorem ActC.fr {n : Int} {a : Int → Int} (h : ActC r w n a) (e8 : r' 8 w = r 8 w) (e12 : r' 12 w = r 12 w) (er : ∀ j : Nat, 23 ≤ j → j ≤ 28 → r' j (80 * w + n) = r j (80 * w + n)) : ActC r' w n a := by
  unfold ActC Rl at *
  rw [e12, e8, er 24 (by omega) (by omega), er 28 (by omega) (by omega), er 25 (by omega) (by omega), er 23 (by omega) (by omega), er 26 (by omega) (by omega), er 27 (by omega) (by omega)]
  exact h
theorem Ac.fr (h : Ac r m w) (h80 : r 22 w ≤ 80) (em : ∀ i, i = Rl r w + 5 ∨ (Rl r w + 100 ≤ i ∧ i < Rl r w + 100 + r 22 w) → m' i = m i) (er : ∀ j i, Own w j i → j = 8 ∨ j = 12 ∨ (22 ≤ j ∧ j ≤ 28) → r' j i = r j i) : Ac r' m' w := by
  have e12 : r' 12 w = r 12 w := er 12 w (by unfold Own; omega) (by omega)
  have e : Rl r' w = Rl r w := by unfold Rl; rw [e12]
  intro n n0 n1
  rw [er 22 w (by unfold Own; omega) (by omega)] at n1
  obtain ⟨k1, k2⟩ := h n n0 n1
  rw [e, em _ (by omega), em (Rl r w + 100 + n) (by omega)]
  exact ⟨k1, k2.fr (er 8 w (by unfold Own; omega) (by omega)) e12 fun j a b => er j _ (by unfold Own; omega) (by omega)⟩
theorem Ti.fr (h : Ti r m w) (h80 : r 30 w ≤ 80) (em : m' (Rl r w + 6) = m (Rl r w + 6)) (er : ∀ j i, Own w j i → j = 12 ∨ j = 30 ∨ j = 31 → r' j i = r j i) : Ti r' m' w := by
  have e : Rl r' w = Rl r w := by unfold Rl; rw [er 12 w (by unfold Own; omega) (by omega)]
  intro n n0 n1
  rw [er 30 w (by unfold Own; omega) (by omega)] at n1
  rw [e, em, er 31 _ (by unfold Own; omega) (by omega)]
  exact h n n0 n1
/-- how far the numbers of a workflow go -/
def Sz (r : Rst) (w : Int) : Prop := 1 ≤ r 12 w ∧ r 12 w ≤ 9 ∧ (0 ≤ r 22 w ∧ r 22 w ≤ 80) ∧ (0 ≤ r 30 w ∧ r 30 w ≤ 80) ∧ (0 ≤ r 32 w ∧ r 32 w ≤ 80) ∧ ∀ row, 9 * w ≤ row → row < 9 * w + 9 → 0 ≤ r 18 row ∧ r 18 row ≤ 80
theorem FlA.fr (h : FlA r m w) (s : Sz r w) (em : ∀ i, 100000 * (w + 1) ≤ i → i < 100000 * (w + 2) → m' i = m i) (er : ∀ j i, Own w j i → r' j i = r j i) : FlA r' m' w := by
  obtain ⟨h1, h2, h3, h4, h5⟩ := h
  obtain ⟨s1, s2, s3, s4, s5, s6⟩ := s
  have eR : Rl r w = 100000 * (w + 1) + 10000 * r 12 w := rfl
  exact ⟨h1.fr (fun i a b => em i (by omega) (by omega)) (fun j i a _ => er j i a), h2.fr s2 (fun row a b => (s6 row a b).2) (fun k i a b c d => em i (by omega) (by omega)) (fun j i a _ => er j i a), h3.fr (em _ (by omega) (by omega)) (fun j a => er j w (by unfold Own; omega)), h4.fr s3.2 (fun i a => em i (by omega) (by omega)) (fun j i a _ => er j i a), h5.fr s4.2 (em _ (by omega) (by omega)) fun j i a _ => er j i a⟩
theorem Own.ne {w2 : Int} {j : Nat} {i : Int} (h : Own w2 j i) (hw : w ≠ w2) : ¬ Own w j i := by
  unfold Own at *
  omega
theorem Own.j {j : Nat} {i : Int} (h : Own w j i) : 7 ≤ j ∧ j ≤ 34 ∧ j ≠ 16 ∧ j ≠ 29 := by
  unfold Own at h
  omega
theorem Pm.fr {P row : Int} (h : Pm r m P row) (em : ∀ i, P ≤ i → i ≤ P + 3 → m' i = m i) (er : ∀ j : Nat, 2 ≤ j → j ≤ 5 → r' j = r j) : Pm r' m' P row := by
  unfold Pm at *
  rw [em P (by omega) (by omega), em (P + 1) (by omega) (by omega), em (P + 2) (by omega) (by omega), em (P + 3) (by omega) (by omega), er 5 (by omega) (by omega), er 2 (by omega) (by omega), er 3 (by omega) (by omega), er 4 (by omega) (by omega)]
  exact h
theorem Fm.fr {t : Int} (h : Fm r m t) (h0 : 0 ≤ t) (h1 : t < 3) (h6 : 0 ≤ r 6 t ∧ r 6 t ≤ 4) (em : ∀ i, i = 2 ∨ (1000 ≤ i ∧ i < 4000) → m' i = m i) (er : ∀ j : Nat, 2 ≤ j → j ≤ 6 → r' j = r j) : Fm r' m' t := by
  unfold Fm rowk at *
  rw [er 6 (by omega) (by omega), em 2 (by omega), em (1000 * (t + 1)) (by omega), em (1000 * (t + 1) + 1) (by omega)]
  exact ⟨h.1, h.2.1, fun k k0 k1 => (h.2.2 k k0 k1).fr (fun i a b => em i (by omega)) fun j a b => er j a (by omega)⟩
theorem Qu.fr {q : Int} (h : Qu r m q) (h0 : 0 ≤ q) (h1 : q < 2) (em : ∀ i, i = 4 ∨ (5000 ≤ i ∧ i < 5100) → m' i = m i) (er : ∀ j : Nat, 35 ≤ j → j ≤ 37 → r' j = r j) : Qu r' m' q := by
  unfold Qu at *
  rw [em 4 (by omega), em (5000 + 10 * q) (by omega), em (5000 + 10 * q + 1) (by omega), er 35 (by omega) (by omega), er 36 (by omega) (by omega), er 37 (by omega) (by omega)]
  exact h
theorem Wk.fr {q : Int} (h : Wk r m q) (h0 : 0 ≤ q) (h1 : q < 4) (em : ∀ i, i = 5 ∨ (5100 ≤ i ∧ i < 5104) → m' i = m i) (e38 : r' 38 = r 38) (e39 : r' 39 = r 39) (e16 : r 16 0 ≤ r' 16 0) (e12 : ∀ w, 0 ≤ w → w < r 16 0 → r' 12 w = r 12 w) (e22 : ∀ w, 0 ≤ w → w < r 16 0 → r 22 w ≤ r' 22 w) : Wk r' m' q := by
  unfold Wk at *
  rw [em 5 (by omega), em (5100 + q) (by omega), e38, e39]
  refine ⟨h.1, h.2.1, ?_⟩
  rcases h.2.2 with h | ⟨w, n, a1, a2, a3, a4, a5, a6⟩
  · exact Or.inl h
  · have := e22 w a1 a2
    refine Or.inr ⟨w, n, a1, by omega, a3, by omega, a5, ?_⟩
    unfold Rl at *
    rw [e12 w a1 a2]; exact a6
end RM
