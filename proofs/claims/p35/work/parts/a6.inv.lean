/-! what always holds besides of the reference's fields: p35's law asks for it -/
/-- one event of a history -/
def He (f a b : Int → Int) (i : Int) : Prop := (1 ≤ f i ∧ f i ≤ 16) ∧ (7 < f i → 7 ≤ f (i - 1)) ∧ (f i = 1 ∨ f i = 2 ∨ f i = 9 → a i < cntP pA f i.toNat) ∧ (f i = 3 ∨ f i = 11 → a i < cntP pT f i.toNat) ∧ (f i = 5 → a i < cntP pM f i.toNat) ∧ (f i = 1 ∨ f i = 4 ∨ f i = 5 → B3 (b i))
def Hx (f a b : Int → Int) (n : Int) : Prop := (1 ≤ n ∧ n ≤ 80) ∧ (f 0 = 0 ∧ B3 (a 0)) ∧ (∀ i, 0 < i → i < n → He f a b i) ∧ ∀ i j, 0 < i → i < j → j < n → f i = 6 → f j ≠ 6
/-- what a history says of its run's state -/
def Sx (f a : Int → Int) (n s : Int) : Prop := (∀ i, 0 < i → i < n → f i = 16 → i = n - 1 ∧ a i = s ∧ Sov s) ∧ (s ≠ 20 → s ≠ 24 → f (n - 1) = 16)
section HX
variable {f a b f' a' b' : Int → Int} {n s i k : Int}
theorem He.cg (h : He f a b i) (i0 : 0 < i) (e : ∀ j, 0 ≤ j → j ≤ i → f' j = f j ∧ a' j = a j ∧ b' j = b j) : He f' a' b' i := by
  have ei := e i (by omega) (by omega)
  have c : ∀ p : Int → Bool, cntP p f' i.toNat = cntP p f i.toNat := fun p => cntP_congr fun j j0 j1 => (e j j0 (by omega)).1
  unfold He
  rw [ei.1, ei.2.1, ei.2.2, (e (i - 1) (by omega) (by omega)).1, c, c, c]
  exact h
theorem Hx.cg (h : Hx f a b n) (e : ∀ j, 0 ≤ j → j < n → f' j = f j ∧ a' j = a j ∧ b' j = b j) : Hx f' a' b' n := by
  obtain ⟨h1, h2, h3, h4⟩ := h
  have e0 := e 0 (by omega) (by omega)
  refine ⟨h1, by rw [e0.1, e0.2.1]; exact h2, fun i i0 i1 => (h3 i i0 i1).cg i0 fun j j0 j1 => e j j0 (by omega), fun i j i0 i1 j1 => ?_⟩
  rw [(e i (by omega) (by omega)).1, (e j (by omega) j1).1]
  exact h4 i j i0 i1 j1
theorem Sx.cg (h : Sx f a n s) (n1 : 1 ≤ n) (e : ∀ j, 0 ≤ j → j < n → f' j = f j ∧ a' j = a j) : Sx f' a' n s := by
  unfold Sx
  rw [(e (n - 1) (by omega) (by omega)).1]
  refine ⟨fun i i0 i1 => ?_, h.2⟩
  rw [(e i (by omega) i1).1, (e i (by omega) i1).2]
  exact h.1 i i0 i1
/-- what may be the next event -/
def Nx (f a : Int → Int) (n k x y : Int) : Prop := (1 ≤ k ∧ k ≤ 16) ∧ (7 < k → 7 ≤ f (n - 1)) ∧ (k = 1 ∨ k = 2 ∨ k = 9 → x < cntP pA f n.toNat) ∧ (k = 3 ∨ k = 11 → x < cntP pT f n.toNat) ∧ (k = 5 → x < cntP pM f n.toNat) ∧ (k = 1 ∨ k = 4 ∨ k = 5 → B3 y) ∧ (k = 6 → ∀ i, 0 < i → i < n → f i ≠ 6)
theorem Hx.app {x y : Int} (h : Hx f a b n) (n8 : n < 80) (e : ∀ j, 0 ≤ j → j < n → f' j = f j ∧ a' j = a j ∧ b' j = b j) (en : f' n = k ∧ a' n = x ∧ b' n = y) (hk : Nx f a n k x y) : Hx f' a' b' (n + 1) := by
  obtain ⟨h1, h2, h3, h4⟩ := h.cg e
  obtain ⟨k1, k2, k3, k4, k5, k6, k7⟩ := hk
  have c : ∀ p : Int → Bool, cntP p f' n.toNat = cntP p f n.toNat := fun p => cntP_congr fun j j0 j1 => (e j j0 (by omega)).1
  refine ⟨by omega, h2, fun i i0 i1 => ?_, fun i j i0 i1 j1 e6 => ?_⟩
  · by_cases d : i < n
    · exact h3 i i0 d
    · obtain rfl : i = n := by omega
      unfold He
      rw [en.1, en.2.1, en.2.2, (e (i - 1) (by omega) (by omega)).1, c, c, c]
      exact ⟨k1, k2, k3, k4, k5, k6⟩
  · by_cases d : j < n
    · exact h4 i j i0 i1 d e6
    · obtain rfl : j = n := by omega
      rw [en.1]
      intro k9
      rw [(e i (by omega) i1).1] at e6
      exact k7 k9 i i0 i1 e6
/-- while a run is RUNNING, no OVER is told -/
theorem Sx.no (h : Sx f a n 20) (i0 : 0 < i) (i1 : i < n) : f i ≠ 16 := fun e => by
  have := (h.1 i i0 i1 e).2.2
  unfold Sov at this
  omega
theorem Sx.app (h : Sx f a n 20) (n1 : 1 ≤ n) (e : ∀ j, 0 ≤ j → j < n → f' j = f j) (en : f' n ≠ 16) : Sx f' a' (n + 1) 20 := by
  refine ⟨fun i i0 i1 k => ?_, fun h => absurd rfl h⟩
  by_cases d : i < n
  · rw [e i (by omega) d] at k
    exact absurd k (h.no i0 d)
  · obtain rfl : i = n := by omega
    exact absurd k en
end HX
/-- a row of the histories -/
def rwf (r : Rst) (j : Nat) (row : Int) : Int → Int := fun i => r j (80 * row + i)
def Hr (r : Rst) (row : Int) : Prop := Hx (rwf r 19 row) (rwf r 20 row) (rwf r 21 row) (r 18 row)
def Sr (r : Rst) (row : Int) : Prop := Sx (rwf r 19 row) (rwf r 20 row) (r 18 row) (r 17 row)
/-- how many things a run has told of -/
def Ct3 (r : Rst) (w : Int) : Prop := r 22 w ≤ cntP pA (rwf r 19 (rw9 r w)) (r 18 (rw9 r w)).toNat ∧ r 30 w ≤ cntP pT (rwf r 19 (rw9 r w)) (r 18 (rw9 r w)).toNat ∧ r 32 w ≤ cntP pM (rwf r 19 (rw9 r w)) (r 18 (rw9 r w)).toNat
/-- a workflow; but for X: what it had is taken off once it isn't RUNNING; but for Y: what states there are; but for Z: what the latest run's history says of its state, how many things there are -/
def Pw (X Y Z : Int → Prop) (r : Rst) (w : Int) : Prop := (1 ≤ r 12 w ∧ r 12 w ≤ 9) ∧ (∀ k, 1 ≤ k → k < r 12 w → Hr r (9 * w + k - 1) ∧ Sr r (9 * w + k - 1) ∧ r 17 (9 * w + k - 1) = 14) ∧ Hr r (rw9 r w) ∧ (¬ Z w → Sr r (rw9 r w) ∧ Ct3 r w) ∧ (¬ Y w → 20 ≤ r 17 (rw9 r w) ∧ r 17 (rw9 r w) ≤ 24) ∧ (B3 (r 14 w) ∧ r 15 w < 12 ∧ (r 17 (rw9 r w) ≠ 20 → r 15 w = -1)) ∧ (¬ X w → r 17 (rw9 r w) ≠ 20 → ∀ n, 0 ≤ n → n < 80 → n < r 22 w → r 23 (80 * w + n) = 0) ∧ (r 9 w ≠ -1 → 0 ≤ r 9 w ∧ r 9 w < w ∧ r 10 w ≤ r 12 (r 9 w) ∧ (r 10 w = r 12 (r 9 w) → r 11 w < r 32 (r 9 w))) ∧ ∀ n, 0 ≤ n → n < 80 → n < r 32 w → r 33 (80 * w + n) = -1 ∨ (w < r 33 (80 * w + n) ∧ r 33 (80 * w + n) < r 16 0)
def Dk (r : Rst) : Prop := ∀ p q, 0 ≤ p → p < q → q < 4 → r 39 p = r 39 q → r 39 p = -1
def Px (X Y Z : Int → Prop) (r : Rst) : Prop := (0 ≤ r 16 0 ∧ r 16 0 ≤ 10) ∧ (∀ w, 0 ≤ w → w < r 16 0 → Pw X Y Z r w) ∧ (∀ w, r 16 0 ≤ w → w < 10 → r 12 w = 0) ∧ (∀ w k, 0 ≤ w → w < 10 → r 12 w < k → k ≤ 9 → r 18 (9 * w + k - 1) = 0) ∧ Dk r
def nob (_ : Int) : Prop := False
section PX
variable {X Y Z X' Y' Z' : Int → Prop} {r r' : Rst} {w c row : Int}
theorem Hr.n (h : Hr r row) : 1 ≤ r 18 row ∧ r 18 row ≤ 80 := h.1
theorem Hr.fr (h : Hr r row) (e18 : r' 18 row = r 18 row) (e : ∀ (j : Nat) i, 19 ≤ j → j ≤ 21 → 0 ≤ i → i < 80 → r' j (80 * row + i) = r j (80 * row + i)) : Hr r' row := by
  have n := h.n
  unfold Hr at *
  rw [e18]
  exact h.cg fun j a b => ⟨e 19 j (by omega) (by omega) a (by omega), e 20 j (by omega) (by omega) a (by omega), e 21 j (by omega) (by omega) a (by omega)⟩
theorem Sr.fr (h : Sr r row) (n : 1 ≤ r 18 row ∧ r 18 row ≤ 80) (e17 : r' 17 row = r 17 row) (e18 : r' 18 row = r 18 row) (e : ∀ (j : Nat) i, 19 ≤ j → j ≤ 21 → 0 ≤ i → i < 80 → r' j (80 * row + i) = r j (80 * row + i)) : Sr r' row := by
  unfold Sr at *
  rw [e18, e17]
  exact h.cg n.1 fun j a b => ⟨e 19 j (by omega) (by omega) a (by omega), e 20 j (by omega) (by omega) a (by omega)⟩
theorem Ct3.fr (h : Ct3 r w) (n : 1 ≤ r 18 (rw9 r w) ∧ r 18 (rw9 r w) ≤ 80) (er : rw9 r' w = rw9 r w) (e22 : r' 22 w = r 22 w ∧ r' 30 w = r 30 w ∧ r' 32 w = r 32 w) (e18 : r' 18 (rw9 r w) = r 18 (rw9 r w)) (e : ∀ (j : Nat) i, 19 ≤ j → j ≤ 21 → 0 ≤ i → i < 80 → r' j (80 * rw9 r w + i) = r j (80 * rw9 r w + i)) : Ct3 r' w := by
  have c : ∀ p : Int → Bool, cntP p (rwf r' 19 (rw9 r w)) (r 18 (rw9 r w)).toNat = cntP p (rwf r 19 (rw9 r w)) (r 18 (rw9 r w)).toNat := fun p => cntP_congr fun j j0 j1 => e 19 j (by omega) (by omega) j0 (by omega)
  unfold Ct3 at *
  rw [er, e18, e22.1, e22.2.1, e22.2.2, c, c, c]
  exact h
theorem Pw.fr (h : Pw X Y Z r w) (w0 : 0 ≤ w) (e : ∀ j i, Own w j i → r' j i = r j i) (e16 : r 16 0 ≤ r' 16 0) (hp : 0 ≤ r 9 w → r 9 w < w → (r' 12 (r 9 w) = r 12 (r 9 w) ∧ r 32 (r 9 w) ≤ r' 32 (r 9 w)) ∨ r 12 (r 9 w) < r' 12 (r 9 w)) : Pw X Y Z r' w := by
  obtain ⟨h1, h2, h3, h4, h5, h6, h7, h8, h9⟩ := h
  have e12 : r' 12 w = r 12 w := e 12 w (by unfold Own; omega)
  have er : rw9 r' w = rw9 r w := by unfold rw9; rw [e12]
  have hr9 : rw9 r w = 9 * w + r 12 w - 1 := rfl
  have rows : ∀ k, 1 ≤ k → k ≤ r 12 w → r' 17 (9 * w + k - 1) = r 17 (9 * w + k - 1) ∧ r' 18 (9 * w + k - 1) = r 18 (9 * w + k - 1) ∧ ∀ (j : Nat) i, 19 ≤ j → j ≤ 21 → 0 ≤ i → i < 80 → r' j (80 * (9 * w + k - 1) + i) = r j (80 * (9 * w + k - 1) + i) := fun k k0 k1 => ⟨e 17 _ (by unfold Own; omega), e 18 _ (by unfold Own; omega), fun j i a b c d => e j _ (by unfold Own; omega)⟩
  have rl := rows (r 12 w) h1.1 (Int.le_refl _)
  rw [← hr9] at rl
  unfold Pw
  rw [er, e12, rl.1, e 9 w (by unfold Own; omega), e 10 w (by unfold Own; omega), e 11 w (by unfold Own; omega), e 14 w (by unfold Own; omega), e 15 w (by unfold Own; omega), e 22 w (by unfold Own; omega), e 32 w (by unfold Own; omega)]
  refine ⟨h1, fun k k0 k1 => ?_, h3.fr rl.2.1 rl.2.2, fun z => ⟨(h4 z).1.fr h3.n rl.1 rl.2.1 rl.2.2, (h4 z).2.fr h3.n er ⟨e 22 w (by unfold Own; omega), e 30 w (by unfold Own; omega), e 32 w (by unfold Own; omega)⟩ rl.2.1 rl.2.2⟩, h5, h6, fun x s n n0 n8 n1 => ?_, fun p => ?_, fun n n0 n8 n1 => ?_⟩
  · obtain ⟨g1, g2, g3⟩ := h2 k k0 k1
    obtain ⟨q1, q2, q3⟩ := rows k k0 (by omega)
    exact ⟨g1.fr q2 q3, g2.fr g1.n q1 q2 q3, by rw [q1]; exact g3⟩
  · rw [e 23 _ (by unfold Own; omega)]
    exact h7 x s n n0 n8 n1
  · obtain ⟨p1, p2, p3, p4⟩ := h8 p
    refine ⟨p1, p2, ?_⟩
    rcases hp p1 p2 with ⟨q1, q2⟩ | q
    · rw [q1]
      exact ⟨p3, fun e => by have := p4 e; omega⟩
    · exact ⟨by omega, fun e => by omega⟩
  · rw [e 33 _ (by unfold Own; omega)]
    have := h9 n n0 n8 n1
    omega
/-- one workflow's own things change -/
theorem Px.one (h : Px X Y Z r) (w0 : 0 ≤ w) (w1 : w < r 16 0) (e16 : r' 16 0 = r 16 0) (e12 : ∀ c, c ≠ w → r' 12 c = r 12 c) (e18 : ∀ i, i < 9 * w ∨ 9 * w + 9 ≤ i → r' 18 i = r 18 i) (e : ∀ c, 0 ≤ c → c < r 16 0 → c ≠ w → ∀ j i, Own c j i → r' j i = r j i) (hp : (r' 12 w = r 12 w ∧ r 32 w ≤ r' 32 w) ∨ r 12 w < r' 12 w) (hu : ∀ k, r' 12 w < k → k ≤ 9 → r' 18 (9 * w + k - 1) = 0) (hd : Dk r') (pw : Pw X' Y' Z' r' w) (hX : ∀ c, c ≠ w → (X c → X' c) ∧ (Y c → Y' c) ∧ (Z c → Z' c)) : Px X' Y' Z' r' := by
  obtain ⟨h1, h2, h3, h4, h5⟩ := h
  refine ⟨by omega, fun c c0 c1 => ?_, fun c c0 c1 => ?_, fun c k c0 c1 k0 k1 => ?_, hd⟩
  · by_cases d : c = w
    · rw [d]; exact pw
    · have q := (h2 c c0 (by omega)).fr (r' := r') c0 (e c c0 (by omega) d) (by omega) fun p0 p1 => by
        by_cases f : r 9 c = w
        · rw [f]; exact hp
        · rw [e12 _ f, e (r 9 c) p0 (by omega) f 32 (r 9 c) (by unfold Own; omega)]; omega
      obtain ⟨q1, q2, q3, q4, q5, q6, q7, q8, q9⟩ := q
      obtain ⟨x1, x2, x3⟩ := hX c d
      exact ⟨q1, q2, q3, fun z => q4 fun y => z (x3 y), fun z => q5 fun y => z (x2 y), q6, fun z => q7 fun y => z (x1 y), q8, q9⟩
  · rw [e12 c (by omega)]; exact h3 c (by omega) c1
  · by_cases d : c = w
    · rw [d] at k0 ⊢; exact hu k k0 k1
    · have e2 := e12 c d
      have k9 : 0 ≤ r 12 c := by
        by_cases f : c < r 16 0
        · have := (h2 c c0 f).1.1; omega
        · rw [h3 c (by omega) c1]; omega
      rw [e18 _ (by omega)]; exact h4 c k c0 c1 (by omega) k1
/-- nothing of it changes, but what is had -/
theorem Px.act (h : Px X Y Z r) (e : ∀ j : Nat, (9 ≤ j ∧ j ≤ 12) ∨ (14 ≤ j ∧ j ≤ 22) ∨ j = 30 ∨ j = 32 ∨ j = 33 → r' j = r j) (e23 : ∀ w n, 0 ≤ w → w < r 16 0 → 0 ≤ n → n < 80 → n < r 22 w → r 17 (rw9 r w) ≠ 20 → r 23 (80 * w + n) = 0 → r' 23 (80 * w + n) = 0) (hd : Dk r') : Px X Y Z r' := by
  obtain ⟨h1, h2, h3, h4, h5⟩ := h
  unfold Px
  rw [e 16 (by omega), e 12 (by omega), e 18 (by omega)]
  refine ⟨h1, fun w w0 w1 => ?_, h3, h4, hd⟩
  obtain ⟨q1, q2, q3, q4, q5, q6, q7, q8, q9⟩ := h2 w w0 w1
  unfold Pw Hr Sr Ct3 rwf rw9 at *
  rw [e 9 (by omega), e 10 (by omega), e 11 (by omega), e 12 (by omega), e 14 (by omega), e 15 (by omega), e 16 (by omega), e 17 (by omega), e 18 (by omega), e 19 (by omega), e 20 (by omega), e 21 (by omega), e 22 (by omega), e 30 (by omega), e 32 (by omega), e 33 (by omega)]
  exact ⟨q1, q2, q3, q4, q5, q6, fun x s n n0 n8 n1 => e23 w n w0 w1 n0 n8 n1 s (q7 x s n n0 n8 n1), q8, q9⟩
theorem Dk.fr (h : Dk r) (e : r' 39 = r 39) : Dk r' := by
  unfold Dk
  rw [e]
  exact h
/-- nothing of it changes -/
theorem Px.fr (h : Px X Y Z r) (e : ∀ j : Nat, (9 ≤ j ∧ j ≤ 12) ∨ (14 ≤ j ∧ j ≤ 23) ∨ j = 30 ∨ j = 32 ∨ j = 33 ∨ j = 39 → r' j = r j) : Px X Y Z r' := h.act (fun j hj => e j (by omega)) (fun w n _ _ _ _ _ _ k => by rw [e 23 (by omega)]; exact k) (h.2.2.2.2.fr (e 39 (by omega)))
theorem Px.pw (h : Px X Y Z r) (w0 : 0 ≤ w) (w1 : w < r 16 0) : Pw X Y Z r w := h.2.1 w w0 w1
theorem Px.bb (h : Px X Y Z r) (w0 : 0 ≤ w) (w1 : w < r 16 0) : w < 10 ∧ (1 ≤ r 12 w ∧ r 12 w ≤ 9) ∧ (1 ≤ r 18 (rw9 r w) ∧ r 18 (rw9 r w) ≤ 80) := ⟨by have := h.1; omega, (h.pw w0 w1).1, (h.pw w0 w1).2.2.1.n⟩
theorem Px.wk (h : Px X Y Z r) (hX : ∀ c, (X c → X' c) ∧ (Y c → Y' c) ∧ (Z c → Z' c)) : Px X' Y' Z' r := by
  obtain ⟨h1, h2, h3, h4, h5⟩ := h
  refine ⟨h1, fun c c0 c1 => ?_, h3, h4, h5⟩
  obtain ⟨q1, q2, q3, q4, q5, q6, q7, q8, q9⟩ := h2 c c0 c1
  obtain ⟨x1, x2, x3⟩ := hX c
  exact ⟨q1, q2, q3, fun z => q4 fun y => z (x3 y), fun z => q5 fun y => z (x2 y), q6, fun z => q7 fun y => z (x1 y), q8, q9⟩
/-- the row of an event -/
theorem wr_row {k x y : Int} : (∀ (j : Nat) i, 19 ≤ j → j ≤ 21 → 0 ≤ i → i < r 18 (rw9 r c) → wr c k x y r j (80 * rw9 r c + i) = r j (80 * rw9 r c + i)) ∧ rwf (wr c k x y r) 19 (rw9 r c) (r 18 (rw9 r c)) = k ∧ rwf (wr c k x y r) 20 (rw9 r c) (r 18 (rw9 r c)) = x ∧ rwf (wr c k x y r) 21 (rw9 r c) (r 18 (rw9 r c)) = y := by
  refine ⟨fun j i a b c d => wr_o (by omega) (by omega), ?_⟩
  exact wr_v (w := c)
/-- one event more -/
theorem Px.ev {k x y : Int} (h : Px X Y Z r) (c0 : 0 ≤ c) (c1 : c < r 16 0) (n8 : r 18 (rw9 r c) < 80) (hk : Nx (hk r c) (rwf r 20 (rw9 r c)) (r 18 (rw9 r c)) k x y) (hS : ¬ Z c → r 17 (rw9 r c) = 20 ∧ k ≠ 16) : Px X Y Z (wr c k x y r) := by
  have h9 := h
  obtain ⟨h1, h2, h3, h4, h5⟩ := h9
  have hr9 : rw9 r c = 9 * c + r 12 c - 1 := rfl
  have er : rw9 (wr c k x y r) c = rw9 r c := by unfold rw9; rw [wr_n (by omega)]
  obtain ⟨q1, q2, q3, q4, q5, q6, q7, q8, q9⟩ := h.pw c0 c1
  obtain ⟨v1, v2⟩ := wr_row (r := r) (c := c) (k := k) (x := x) (y := y)
  have nn := q3.n
  refine h.one (w := c) c0 c1 (by rw [wr_n (by omega)]) (fun d _ => by rw [wr_n (by omega)]) (fun i hi => wr_o (by omega) (by omega)) (fun d d0 d1 d2 j i hi => ?_) (Or.inl ⟨by rw [wr_n (by omega)], by rw [wr_n (by omega)]; omega⟩) (fun k1 a b => ?_) (h5.fr (wr_n (by omega))) ?_ (fun _ _ => ⟨id, id, id⟩)
  · have := (h2 d d0 d1).1
    exact wr_o (fun e => by unfold Own at hi; omega) (fun a b => by unfold Own at hi; omega)
  · rw [wr_n (by omega)] at a
    rw [wr_o (by omega) (by omega)]
    exact h4 c k1 c0 (by omega) a b
  · have hrow : Hr (wr c k x y r) (rw9 r c) := by
      unfold Hr
      rw [wr_18]
      exact Hx.app q3 n8 (fun j a b => ⟨v1 19 j (by omega) (by omega) a b, v1 20 j (by omega) (by omega) a b, v1 21 j (by omega) (by omega) a b⟩) v2 hk
    have e17 : wr c k x y r 17 = r 17 := wr_n (by omega)
    unfold Pw
    rw [er, wr_n (j := 12) (by omega), wr_n (j := 17) (by omega), wr_n (j := 14) (by omega), wr_n (j := 15) (by omega), wr_n (j := 22) (by omega), wr_n (j := 23) (by omega), wr_n (j := 9) (by omega), wr_n (j := 10) (by omega), wr_n (j := 11) (by omega), wr_n (j := 32) (by omega), wr_n (j := 33) (by omega), wr_n (j := 16) (by omega)]
    refine ⟨q1, fun k1 a b => ?_, hrow, fun z => ⟨?_, ?_⟩, q5, q6, q7, q8, q9⟩
    · obtain ⟨g1, g2, g3⟩ := q2 k1 a b
      have f18 : wr c k x y r 18 (9 * c + k1 - 1) = r 18 (9 * c + k1 - 1) := wr_o (by omega) (by omega)
      have ff : ∀ (j : Nat) i, 19 ≤ j → j ≤ 21 → 0 ≤ i → i < 80 → wr c k x y r j (80 * (9 * c + k1 - 1) + i) = r j (80 * (9 * c + k1 - 1) + i) := fun j i a2 b2 c2 d2 => wr_o (by omega) (by omega)
      exact ⟨g1.fr f18 ff, g2.fr g1.n (by rw [e17]) f18 ff, g3⟩
    · obtain ⟨z1, z2⟩ := hS z
      have := (q4 z).1
      unfold Sr at *
      rw [e17, wr_18]
      rw [z1] at this ⊢
      exact this.app nn.1 (fun j a b => v1 19 j (by omega) (by omega) a b) (by rw [v2.1]; exact z2)
    · obtain ⟨t1, t2, t3⟩ := (q4 z).2
      have mono : ∀ p : Int → Bool, cntP p (rwf r 19 (rw9 r c)) (r 18 (rw9 r c)).toNat ≤ cntP p (rwf (wr c k x y r) 19 (rw9 r c)) (r 18 (rw9 r c) + 1).toNat := fun p => by
        rw [show (r 18 (rw9 r c) + 1).toNat = (r 18 (rw9 r c)).toNat + 1 by omega, cntP]
        rw [cntP_congr (p := p) (f := rwf (wr c k x y r) 19 (rw9 r c)) (g := rwf r 19 (rw9 r c)) (n := (r 18 (rw9 r c)).toNat) fun j a b => v1 19 j (by omega) (by omega) a (by omega)]
        split <;> omega
      unfold Ct3
      rw [er, wr_18, wr_n (j := 22) (by omega), wr_n (j := 30) (by omega), wr_n (j := 32) (by omega)]
      have m1 := mono pA
      have m2 := mono pT
      have m3 := mono pM
      omega
/-- something happens to a run, or it isn't RUNNING any more -/
theorem Px.happens {k x y : Int} (h : Px X Y Z r) (c0 : 0 ≤ c) (c1 : c < r 16 0) (hk : r 17 (rw9 r c) = 20 → r 18 (rw9 r c) < 78 → Nx (hk r c) (rwf r 20 (rw9 r c)) (r 18 (rw9 r c)) k x y) (h16 : k ≠ 16) : ∃ v r', G_happens c k x y r = some (v, r') ∧ (r' = r ∧ v = 0 ∧ ¬ (r 17 (rw9 r c) = 20 ∧ r 18 (rw9 r c) < 78) ∨ r' = wr c k x y r ∧ v = 1 ∧ r 17 (rw9 r c) = 20 ∧ r 18 (rw9 r c) < 78) ∧ Px X Y Z r' := by
  obtain ⟨b1, b2, b3⟩ := h.bb c0 c1
  rw [g_happens c0 b1 b2.1 b2.2 (by omega)]
  by_cases d : r 17 (rw9 r c) = 20 ∧ r 18 (rw9 r c) < 78
  · rw [if_t d]
    exact ⟨_, _, rfl, Or.inr ⟨rfl, rfl, d⟩, h.ev c0 c1 (by omega) (hk d.1 d.2) fun _ => ⟨d.1, h16⟩⟩
  · rw [if_f d]
    exact ⟨_, _, rfl, Or.inl ⟨rfl, rfl, d⟩, h⟩
end PX
