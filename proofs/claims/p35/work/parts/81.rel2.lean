/-! the class's memory beside the reference's fields: what a change of one thing leaves -/
/-- how far all numbers go -/
def Rg (r : Rst) : Prop := (0 ≤ r 16 0 ∧ r 16 0 ≤ 10) ∧ (∀ t, 0 ≤ t → t < 3 → 0 ≤ r 6 t ∧ r 6 t ≤ 4) ∧ ∀ w, 0 ≤ w → w < r 16 0 → Sz r w
theorem upd9_row {m : Mem} {i j v a : Int} (h : a ≠ i) : upd9 m i j v a = m a := by
  funext b
  exact upd9_n (Or.inl h)
theorem Fz.fr {r r' : Rst} {m m' : Mem} (h : Fz r m) (em : m' (-1) = m (-1)) (e16 : r' 16 0 = r 16 0) (e6 : ∀ t, 0 ≤ t → t < 3 → r' 6 t = r 6 t) (e12 : ∀ w, 0 ≤ w → w < r 16 0 → r' 12 w = r 12 w) (e22 : ∀ w, 0 ≤ w → w < r 16 0 → r' 22 w = r 22 w) : Fz r' m' := by
  unfold Fz Rl at *
  rw [em, e16]
  refine ⟨h.1, fun w a b i c d => ?_, fun t a b i c d => ?_⟩
  · rw [e12 w a b, e22 w a b] at c
    exact h.2.1 w a b i c d
  · rw [e6 t a b] at c
    exact h.2.2 t a b i c d
theorem Rt.fr {r r' : Rst} {m m' : Mem} (h : Rt r m) (em : m' 1 = m 1 ∧ m' 3 = m 3) (e1 : r' 1 0 = r 1 0) (e16 : r' 16 0 = r 16 0) (e29 : r' 29 0 = r 29 0) : Rt r' m' := by
  unfold Rt at *
  rw [em.1, em.2, e1, e16, e29]
  exact h
theorem Fa.fr {r r' : Rst} {m m' : Mem} (h : Fa r m) (em : ∀ w, 0 ≤ w → w < r 16 0 → m' (100000 * (w + 1)) 10 = m (100000 * (w + 1)) 10) (e16 : r' 16 0 = r 16 0) (er : ∀ j : Nat, j = 9 ∨ j = 10 ∨ j = 11 ∨ j = 12 ∨ j = 34 → r' j = r j) : Fa r' m' := by
  unfold Fa at *
  rw [e16, er 9 (by omega), er 10 (by omega), er 11 (by omega), er 12 (by omega), er 34 (by omega)]
  exact fun c a b d e => by rw [em c a b]; exact h c a b d e
theorem Pl.rows {m m' : Mem} (h : Pl m) (em : ∀ i, 100 ≤ i → i ≤ 139 → m' i = m i) : Pl m' := by
  unfold Pl at *
  rw [em 100 (by omega) (by omega), em 101 (by omega) (by omega), em 111 (by omega) (by omega)]
  exact h
theorem RelM.fr {r r' : Rst} {m m' : Mem} (h : RelM r m) (g : Rg r) (pl : Pl m') (em : ∀ i, i = -1 ∨ (1 ≤ i ∧ i ≤ 5) ∨ 1000 ≤ i → m' i = m i) (er : ∀ j : Nat, 1 ≤ j → j < 40 → r' j = r j) : RelM r' m' := by
  obtain ⟨h1, h2, h3, h4, h5, h6, h7, h8⟩ := h
  have e16 : r' 16 0 = r 16 0 := by rw [er 16 (by omega) (by omega)]
  refine ⟨h1.fr ⟨em 1 (by omega), em 3 (by omega)⟩ (by rw [er 1 (by omega) (by omega)]) e16 (by rw [er 29 (by omega) (by omega)]), pl, fun t a b => (h3 t a b).fr a b (g.2.1 t a b) (fun i c => em i (by omega)) (fun j c d => er j (by omega) (by omega)), fun q a b => (h4 q a b).fr a b (fun i c => em i (by omega)) (fun j c d => er j (by omega) (by omega)), fun q a b => (h5 q a b).fr a b (fun i c => em i (by omega)) (er 38 (by omega) (by omega)) (er 39 (by omega) (by omega)) (by omega) (fun w _ _ => by rw [er 12 (by omega) (by omega)]) (fun w _ _ => by rw [er 22 (by omega) (by omega)]; exact Int.le_refl _), fun w a b => ?_, h7.fr (fun w a b => by rw [em _ (by omega)]) e16 (fun j c => er j (by omega) (by omega)), h8.fr (em _ (by omega)) e16 (fun t _ _ => by rw [er 6 (by omega) (by omega)]) (fun w _ _ => by rw [er 12 (by omega) (by omega)]) (fun w _ _ => by rw [er 22 (by omega) (by omega)])⟩
  rw [e16] at b
  exact (h6 w a b).fr (g.2.2 w a b) (fun i c d => em i (by omega)) fun j i c => by
    have := c.j
    rw [er j (by omega) (by omega)]
/-- one workflow's own things change, and perhaps what is common -/
theorem RelM.flow {r r' : Rst} {m m' : Mem} {w : Int} (h : RelM r m) (g : Rg r) (w0 : 0 ≤ w) (w1 : w < r 16 0) (rt : Rt r' m') (em : ∀ i, (100 ≤ i ∧ i ≤ 139) ∨ i = 2 ∨ (1000 ≤ i ∧ i < 4000) ∨ (100000 ≤ i ∧ (i < 100000 * (w + 1) ∨ 100000 * (w + 2) ≤ i)) → m' i = m i) (e6 : ∀ j : Nat, 2 ≤ j → j ≤ 6 → r' j = r j) (e16 : r' 16 0 = r 16 0) (er : ∀ (j : Nat) i, 7 ≤ j → j ≤ 34 → j ≠ 16 → j ≠ 29 → ¬ Own w j i → r' j i = r j i) (qu : ∀ q, 0 ≤ q → q < 2 → Qu r' m' q) (wk : ∀ q, 0 ≤ q → q < 4 → Wk r' m' q) (fl : FlA r' m' w) (fa : Fa r' m') (fz : Fz r' m') : RelM r' m' := by
  obtain ⟨h1, h2, h3, h4, h5, h6, h7, h8⟩ := h
  refine ⟨rt, h2.rows (fun i a b => em i (by omega)), fun t a b => (h3 t a b).fr a b (g.2.1 t a b) (fun i c => em i (by omega)) e6, qu, wk, fun x a b => ?_, fa, fz⟩
  rw [e16] at b
  by_cases c : x = w
  · rw [c]; exact fl
  · exact (h6 x a b).fr (g.2.2 x a b) (fun i d e => em i (by omega)) fun j i d => by
      have := d.j
      exact er j i (by omega) (by omega) (by omega) (by omega) (d.ne (Ne.symm c))
/-- a change within a run's rows below its activities, with none of what is common -/
theorem RelM.run {r r' : Rst} {m m' : Mem} {w : Int} (h : RelM r m) (g : Rg r) (w0 : 0 ≤ w) (w1 : w < r 16 0) (em : ∀ i, i < 100000 * (w + 1) ∨ 100000 * (w + 1) + 3 ≤ i → i < Rl r w ∨ Rl r w + 100 + 100 ≤ i → m' i = m i) (em2 : ∀ i, 100000 * (w + 1) ≤ i → i ≤ 100000 * (w + 1) + 2 → m' i = m i) (er : ∀ (j : Nat) i, 1 ≤ j → j < 40 → ¬ (Own w j i ∧ (j = 13 ∨ j = 14 ∨ j = 15 ∨ (17 ≤ j ∧ j ≤ 28 ∧ j ≠ 22) ∨ (30 ≤ j ∧ j ≤ 33))) → r' j i = r j i) (fl : FlA r' m' w) : RelM r' m' := by
  have s := g.2.2 w w0 w1
  have eR : Rl r w = 100000 * (w + 1) + 10000 * r 12 w := rfl
  have s1 := s.1
  have s2 := s.2.1
  have b10 := g.1.2
  have no : ∀ (j : Nat) i, j ≤ 12 ∨ j = 16 ∨ j = 22 ∨ j = 29 ∨ 34 ≤ j → 1 ≤ j → j < 40 → r' j i = r j i := fun j i a b c => er j i b c (by omega)
  have nf : ∀ j : Nat, j ≤ 12 ∨ j = 16 ∨ j = 22 ∨ j = 29 ∨ 34 ≤ j → 1 ≤ j → j < 40 → r' j = r j := fun j a b c => by
    funext i
    exact no j i a b c
  have em' : ∀ i, i < Rl r w ∨ 100000 * (w + 2) ≤ i → m' i = m i := fun i c => by
    by_cases d : i < 100000 * (w + 1) ∨ 100000 * (w + 1) + 3 ≤ i
    · exact em i d (by omega)
    · exact em2 i (by omega) (by omega)
  refine h.flow g w0 w1 (h.1.fr ⟨em' 1 (by omega), em' 3 (by omega)⟩ (no 1 0 (by omega) (by omega) (by omega)) (no 16 0 (by omega) (by omega) (by omega)) (no 29 0 (by omega) (by omega) (by omega))) (fun i c => em' i (by omega)) (fun j c d => nf j (by omega) (by omega) (by omega)) (no 16 0 (by omega) (by omega) (by omega)) (fun j i c d e f k => er j i (by omega) (by omega) (fun l => k l.1)) (fun q a b => (h.2.2.2.1 q a b).fr a b (fun i c => em' i (by omega)) (fun j c d => nf j (by omega) (by omega) (by omega))) (fun q a b => (h.2.2.2.2.1 q a b).fr a b (fun i c => em' i (by omega)) (nf 38 (by omega) (by omega) (by omega)) (nf 39 (by omega) (by omega) (by omega)) (by rw [no 16 0 (by omega) (by omega) (by omega)]; omega) (fun x _ _ => no 12 x (by omega) (by omega) (by omega)) (fun x _ _ => by rw [no 22 x (by omega) (by omega) (by omega)]; exact Int.le_refl _)) fl ?_ ?_
  · refine h.2.2.2.2.2.2.1.fr (fun x a b => ?_) (no 16 0 (by omega) (by omega) (by omega)) (fun j c => nf j (by omega) (by omega) (by omega))
    by_cases c : x = w
    · rw [c, em2 _ (by omega) (by omega)]
    · rw [em' _ (by omega)]
  · refine h.2.2.2.2.2.2.2.fr (em' _ (by omega)) (no 16 0 (by omega) (by omega) (by omega)) (fun t _ _ => no 6 t (by omega) (by omega) (by omega)) (fun x _ _ => no 12 x (by omega) (by omega) (by omega)) (fun x _ _ => no 22 x (by omega) (by omega) (by omega))
