/-! effects of decisions: a property is told -/
section ET
variable {N : Int} {r r' : Rst} {m m' : Mem} {w k v : Int}
theorem RelC.tell (h : RelC N r m) (w0 : 0 ≤ w) (w1 : w < r 16 0) (k0 : 0 ≤ k) (k1 : k < 2) : X10_tell (100000 * (w + 1)) k v m = some (0, upd9 m (100000 * (w + 1) + 1) k v) ∧ RelC N (ur r 13 (2 * w + k) v) (upd9 m (100000 * (w + 1) + 1) k v) := by
  have g := h.2.2.rg
  have b10 := g.1
  have s := g.2.2 w w0 w1
  have s1 := s.1
  have s2 := s.2.1
  have eR : Rl r w = 100000 * (w + 1) + 10000 * r 12 w := rfl
  have f := h.1.2.2.2.2.2.1 w w0 w1
  have nj : ∀ j : Nat, j ≠ 13 → ur r 13 (2 * w + k) v j = r j := fun j hj => ur_ne hj
  have em : ∀ i, i ≠ 100000 * (w + 1) + 1 → upd9 m (100000 * (w + 1) + 1) k v i = m i := fun i hi => upd9_row hi
  have eo : ∀ (j : Nat) i, ¬ (j = 13 ∧ i = 2 * w + k) → ur r 13 (2 * w + k) v j i = r j i := fun j i hj => ur_n (by omega)
  refine ⟨?_, h.mk ?_ ?_ (fun w2 a b => em _ ?_) fun j hj => nj j (by omega)⟩
  · unfold X10_tell X10_tell_0
    rw [if_f (by omega), if_f (by omega), f.1.1.2.2.2.1]
    repeat rw [chk_t (by omega)]
    rw [st_e]
  · have fl : Fl (ur r 13 (2 * w + k) v) (upd9 m (100000 * (w + 1) + 1) k v) w := by
      have f1 := f.1
      unfold Fl Rl at *
      rw [em (100000 * (w + 1)) (by omega), em (100000 * (w + 1) + 2) (by omega), nj 7 (by omega), nj 8 (by omega), nj 9 (by omega), nj 10 (by omega), nj 11 (by omega), nj 12 (by omega)]
      refine ⟨f1.1, f1.2.1, ⟨?_, ?_⟩, f1.2.2.2⟩
      · by_cases c : k = 0
        · rw [upd9_e rfl (by omega), ur_e rfl (by omega)]
        · rw [upd9_n (by omega), ur_n (by omega)]; exact f1.2.2.1.1
      · by_cases c : k = 1
        · rw [upd9_e rfl (by omega), ur_e rfl (by omega)]
        · rw [upd9_n (by omega), ur_n (by omega)]; exact f1.2.2.1.2
    refine h.1.flow g w0 w1 (h.1.1.fr ⟨em 1 (by omega), em 3 (by omega)⟩ (by rw [nj 1 (by omega)]) (by rw [nj 16 (by omega)]) (by rw [nj 29 (by omega)])) (fun i hi => em i (by omega)) (fun j a b => nj j (by omega)) (by rw [nj 16 (by omega)]) (fun j i a b c d e => eo j i (fun hh => e (by unfold Own; omega))) (fun q a b => (h.1.2.2.2.1 q a b).fr a b (fun i c => em i (by omega)) fun j c d => nj j (by omega)) (fun q a b => (h.1.2.2.2.2.1 q a b).fr a b (fun i c => em i (by omega)) (nj 38 (by omega)) (nj 39 (by omega)) (by rw [nj 16 (by omega)]; omega) (fun w c d => by rw [nj 12 (by omega)]) (fun w c d => by rw [nj 22 (by omega)]; exact Int.le_refl _)) ⟨fl, f.2.1.fr s2 (fun row a b => (s.2.2.2.2.2 row a b).2) (fun k i a b c d => em i (by omega)) (fun j i a b => by rw [nj j (by omega)]), f.2.2.1.fr (em _ (by omega)) (fun j a => by rw [nj j (by omega)]), f.2.2.2.1.fr s.2.2.1.2 (fun i a => em i (by omega)) (fun j i a b => by rw [nj j (by omega)]), f.2.2.2.2.fr s.2.2.2.1.2 (em _ (by omega)) fun j i a b => by rw [nj j (by omega)]⟩ (h.1.2.2.2.2.2.2.1.fr (fun w a b => by rw [em _ (by omega)]) (by rw [nj 16 (by omega)]) (fun j c => nj j (by omega))) (h.1.2.2.2.2.2.2.2.fr (em _ (by omega)) (by rw [nj 16 (by omega)]) (fun t a b => by rw [nj 6 (by omega)]) (fun w a b => by rw [nj 12 (by omega)]) (fun w a b => by rw [nj 22 (by omega)]))
  · have gi := h.2.2
    obtain ⟨c1, c2, c3, c4, c5, c6, c7, c8, c9⟩ := gi
    refine ⟨by rw [nj 16 (by omega)]; exact c1, ?_, ?_, ?_, ⟨fun w2 a b => ?_, fun w2 k2 a b c d => ?_, fun w2 k2 a b c d => ?_⟩, fun w2 a b => ?_, ?_, ?_, ?_⟩
    · unfold GP StC PgR at *
      simp (disch := omega) only [ur_ne, ur_e] at c2 ⊢
      exact c2
    · unfold Fb Pt at *
      simp (disch := omega) only [ur_ne]
      exact c3
    · unfold GW at *
      simp (disch := omega) only [ur_ne]
      exact c4
    · rw [nj 16 (by omega)] at a
      rw [nj 12 (by omega), eo 13 _ (by omega), eo 13 _ (by omega)]
      exact c5.1 w2 a b
    · rw [nj 12 (by omega)] at c
      rw [nj 18 (by omega)]
      exact c5.2.1 w2 k2 a b c d
    · rw [nj 16 (by omega)] at b
      rw [nj 12 (by omega)] at d
      rw [nj 18 (by omega)]
      exact c5.2.2 w2 k2 a b c d
    · rw [nj 16 (by omega)] at b
      have e9 : ∀ w2, rw9 (ur r 13 (2 * w + k) v) w2 = rw9 r w2 := fun w2 => by unfold rw9; rw [nj 12 (by omega)]
      exact (c6 w2 a b).fr (by rw [nj 12 (by omega)]) (by rw [nj 18 (by omega)]) (fun j i c d _ _ => by rw [nj j (by omega)]) (by rw [nj 22 (by omega)]) (by rw [nj 30 (by omega)]) (by rw [nj 32 (by omega)]) (Or.inl (by rw [nj 17 (by omega)])) (fun n c d g => by rw [nj 23 (by omega)]; exact g) (fun n c d => by rw [nj 33 (by omega)]) (fun n c d g k => by rw [e9, nj 17 (by omega)]; exact k)
    · unfold GC at *
      simp (disch := omega) only [ur_ne]
      exact c7
    · unfold GK at *
      simp (disch := omega) only [ur_ne]
      exact c8
    · unfold GN at *
      simp (disch := omega) only [ur_ne]
      exact c9
  · have t1 := (g.2.2 w2 a b).1
    have eR2 : Rl r w2 = 100000 * (w2 + 1) + 10000 * r 12 w2 := rfl
    omega
end ET
