/-! what a new run is, on both sides -/
section NW
variable {cd : Int → Int} {N : Int} {r r' : Rst} {m m' : Mem} {w n q k t a b x P s C R l : Int}
/-- a new history, empty -/
theorem x_newHist {Q : Int} (hQ : 0 < Q) (fr : ∀ i, Q ≤ i → i ≤ Q + 3 → m (-1) i = 0) : ∃ m', X3_init Q (alo9 m Q 13 4) = some (0, m') ∧ (∀ i, ¬ (Q ≤ i ∧ i ≤ Q + 3) → i ≠ -1 → i ≠ -2 → m' i = m i) ∧ (∀ i, ¬ (Q ≤ i ∧ i ≤ Q + 3) → m' (-1) i = m (-1) i) ∧ (m' (-2) 0 = m (-2) 0 + 4 ∧ m' (-2) 1 = m (-2) 1 + 244) ∧ (m' Q 0 = Q + 1 ∧ m' Q 1 = Q + 2 ∧ m' Q 2 = Q + 3 ∧ m' Q 3 = 0) := by
  unfold X3_init X3_init_0
  have f1 : alo9 m Q 13 4 (-1) (Q + 1) = 0 := by rw [alo_t hQ, if_f (by omega)]; exact fr _ (by omega) (by omega)
  rw [chk_t hQ, show ∀ {α : Type} (v : Int) (k : Int → Option α), vl9 v k = k v from fun v k => rfl, chk_t ⟨by omega, f1⟩, st_e, st_e]
  have f2 : upd9 (alo9 (alo9 m Q 13 4) (Q + 1) 100080 80) Q 0 (Q + 1) (-1) (Q + 2) = 0 := by rw [upd9_n (by omega), alo_t (by omega), if_f (by omega), alo_t hQ, if_f (by omega)]; exact fr _ (by omega) (by omega)
  rw [show ∀ {α : Type} (v : Int) (k : Int → Option α), vl9 v k = k v from fun v k => rfl, chk_t ⟨by omega, f2⟩, st_e, st_e]
  have f3 : upd9 (alo9 (upd9 (alo9 (alo9 m Q 13 4) (Q + 1) 100080 80) Q 0 (Q + 1)) (Q + 2) 100080 80) Q 1 (Q + 2) (-1) (Q + 3) = 0 := by rw [upd9_n (by omega), alo_t (by omega), if_f (by omega), upd9_n (by omega), alo_t (by omega), if_f (by omega), alo_t hQ, if_f (by omega)]; exact fr _ (by omega) (by omega)
  rw [show ∀ {α : Type} (v : Int) (k : Int → Option α), vl9 v k = k v from fun v k => rfl, chk_t ⟨by omega, f3⟩, st_e, st_e]
  refine ⟨_, rfl, fun i a b c => ?_, fun i a => ?_, ⟨?_, ?_⟩, ?_, ?_, ?_, ?_⟩
  · rw [upd9_row (by omega), alo_row (by omega) b c, upd9_row (by omega), alo_row (by omega) b c, upd9_row (by omega), alo_row (by omega) b c, alo_row (by omega) b c]
  · rw [upd9_n (by omega), alo_t (by omega), if_f (by omega), upd9_n (by omega), alo_t (by omega), if_f (by omega), upd9_n (by omega), alo_t (by omega), if_f (by omega), alo_t hQ, if_f (by omega)]
  · rw [upd9_n (by omega), (alo_c (by omega)).1, upd9_n (by omega), (alo_c (by omega)).1, upd9_n (by omega), (alo_c (by omega)).1, (alo_c hQ).1]; omega
  · rw [upd9_n (by omega), (alo_c (by omega)).2, upd9_n (by omega), (alo_c (by omega)).2, upd9_n (by omega), (alo_c (by omega)).2, (alo_c hQ).2]; omega
  · rw [upd9_n (by omega), alo_row (by omega) (by omega) (by omega), upd9_n (by omega), alo_row (by omega) (by omega) (by omega), upd9_e rfl rfl]
  · rw [upd9_n (by omega), alo_row (by omega) (by omega) (by omega), upd9_e rfl rfl]
  · rw [upd9_e rfl rfl]
  · rw [upd9_n (by omega), alo_row (by omega) (by omega) (by omega), upd9_n (by omega), alo_row (by omega) (by omega) (by omega), upd9_n (by omega), alo_row (by omega) (by omega) (by omega), alo_z]
theorem x_newRun (hR : 0 < R) (fr : ∀ i, R ≤ i → i ≤ R + 6 → m (-1) i = 0) : ∃ m', X7_init R l (alo9 m R 17 11) = some (0, m') ∧ (∀ i, ¬ (R ≤ i ∧ i ≤ R + 6) → i ≠ -1 → i ≠ -2 → m' i = m i) ∧ (∀ i, ¬ (R ≤ i ∧ i ≤ R + 6) → m' (-1) i = m (-1) i) ∧ (m' (-2) 0 = m (-2) 0 + 7 ∧ m' (-2) 1 = m (-2) 1 + 415) ∧ (m' R 0 = R + 1 ∧ m' R 1 = R + 5 ∧ m' R 2 = R + 6 ∧ m' R 3 = 0 ∧ m' R 4 = 0 ∧ m' R 5 = 0 ∧ m' R 6 = 0 ∧ m' R 7 = 20 ∧ m' R 8 = 0 ∧ m' R 9 = -1 ∧ m' R 10 = 0) ∧ (m' (R + 1) 0 = R + 2 ∧ m' (R + 1) 1 = R + 3 ∧ m' (R + 1) 2 = R + 4 ∧ m' (R + 1) 3 = 1) ∧ m' (R + 2) 0 = 0 ∧ m' (R + 3) 0 = l ∧ m' (R + 4) 0 = 0 := by
  have e1 : ∀ i, R + 1 ≤ i → i ≤ R + 1 + 3 → alo9 m R 17 11 (-1) i = 0 := fun i a b => by rw [alo_t hR, if_f (by omega)]; exact fr i (by omega) (by omega)
  obtain ⟨m1, z1, z2, z3, z4, z5⟩ := x_newHist (Q := R + 1) (by omega) e1
  have f5 : upd9 m1 R 0 (R + 1) (-1) (R + 5) = 0 := by rw [upd9_n (by omega), z3 _ (by omega), alo_t hR, if_f (by omega)]; exact fr _ (by omega) (by omega)
  have f6 : upd9 (alo9 (upd9 m1 R 0 (R + 1)) (R + 5) 400080 80) R 1 (R + 5) (-1) (R + 6) = 0 := by rw [upd9_n (by omega), alo_t (by omega), if_f (by omega), upd9_n (by omega), z3 _ (by omega), alo_t hR, if_f (by omega)]; exact fr _ (by omega) (by omega)
  have mR : ∀ j, m1 R j = 0 := fun j => by rw [z2 R (by omega) (by omega) (by omega), alo_z]
  unfold X7_init X7_init_0
  rw [chk_t hR, vl_e, chk_t ⟨by omega, e1 _ (by omega) (by omega)⟩, st_e, z1, cal_e, st_e, vl_e, chk_t ⟨by omega, f5⟩, st_e, st_e, vl_e, chk_t ⟨by omega, f6⟩, st_e, st_e, st_e, st_e]
  obtain ⟨m2, hm2⟩ : ∃ m2, m2 = upd9 (upd9 (upd9 (alo9 (upd9 (alo9 (upd9 m1 R 0 (R + 1)) (R + 5) 400080 80) R 1 (R + 5)) (R + 6) 100080 80) R 2 (R + 6)) R 7 20) R 9 (-1) := ⟨_, rfl⟩
  rw [← hm2]
  have y0 : ∀ i, i ≠ R → i ≠ R + 5 → i ≠ R + 6 → i ≠ -1 → i ≠ -2 → m2 i = m1 i := fun i a b c d e => by
    rw [hm2, upd9_row a, upd9_row a, upd9_row a, alo_row c d e, upd9_row a, alo_row b d e, upd9_row a]
  have yR : ∀ j, m2 R j = if j = 9 then -1 else if j = 7 then 20 else if j = 2 then R + 6 else if j = 1 then R + 5 else if j = 0 then R + 1 else 0 := fun j => by
    rw [hm2]
    by_cases c9 : j = 9
    · rw [upd9_e rfl c9, if_t c9]
    · rw [upd9_n (by omega), if_f c9]
      by_cases c7 : j = 7
      · rw [upd9_e rfl c7, if_t c7]
      · rw [upd9_n (by omega), if_f c7]
        by_cases c2 : j = 2
        · rw [upd9_e rfl c2, if_t c2]
        · rw [upd9_n (by omega), if_f c2, alo_row (by omega) (by omega) (by omega)]
          by_cases c1 : j = 1
          · rw [upd9_e rfl c1, if_t c1]
          · rw [upd9_n (by omega), if_f c1, alo_row (by omega) (by omega) (by omega)]
            by_cases c0 : j = 0
            · rw [upd9_e rfl c0, if_t c0]
            · rw [upd9_n (by omega), if_f c0, mR]
  have y1 : ∀ i, ¬ (R ≤ i ∧ i ≤ R + 6) → m2 (-1) i = m (-1) i := fun i a => by
    rw [hm2, upd9_n (by omega), upd9_n (by omega), upd9_n (by omega), alo_t (by omega), if_f (by omega), upd9_n (by omega), alo_t (by omega), if_f (by omega), upd9_n (by omega), z3 i (by omega), alo_t hR, if_f (by omega)]
  have y2 : m2 (-2) 0 = m (-2) 0 + 7 := by
    rw [hm2, upd9_n (by omega), upd9_n (by omega), upd9_n (by omega), (alo_c (by omega)).1, upd9_n (by omega), (alo_c (by omega)).1, upd9_n (by omega), z4.1, (alo_c hR).1]; omega
  have y3 : m2 (-2) 1 = m (-2) 1 + 415 := by
    rw [hm2, upd9_n (by omega), upd9_n (by omega), upd9_n (by omega), (alo_c (by omega)).2, upd9_n (by omega), (alo_c (by omega)).2, upd9_n (by omega), z4.2, (alo_c hR).2]; omega
  have yh := y0 (R + 1) (by omega) (by omega) (by omega) (by omega) (by omega)
  have h0 : m2 (R + 1) 0 = R + 2 := by rw [yh, z5.1]; omega
  have h1 : m2 (R + 1) 1 = R + 3 := by rw [yh, z5.2.1]; omega
  have h2 : m2 (R + 1) 2 = R + 4 := by rw [yh, z5.2.2.1]; omega
  have h3 : m2 (R + 1) 3 = 0 := by rw [yh, z5.2.2.2]
  have yr0 : m2 R 0 = R + 1 := by rw [yR]; rfl
  rw [yr0, chk_t (by omega)]
  have xp : X3_put (R + 1) 0 l 0 m2 = some (0, upd9 (upd9 (upd9 (upd9 m2 (R + 2) 0 0) (R + 3) 0 l) (R + 4) 0 0) (R + 1) 3 1) := by
    have p3 : upd9 m2 (R + 2) 0 0 (R + 1) 3 = 0 := by rw [upd9_n (by omega)]; exact h3
    have p1 : upd9 m2 (R + 2) 0 0 (R + 1) 1 = R + 3 := by rw [upd9_n (by omega)]; exact h1
    have q3 : upd9 (upd9 m2 (R + 2) 0 0) (R + 3) 0 l (R + 1) 3 = 0 := by rw [upd9_n (by omega)]; exact p3
    have q2 : upd9 (upd9 m2 (R + 2) 0 0) (R + 3) 0 l (R + 1) 2 = R + 4 := by rw [upd9_n (by omega), upd9_n (by omega)]; exact h2
    have s3 : upd9 (upd9 (upd9 m2 (R + 2) 0 0) (R + 3) 0 l) (R + 4) 0 0 (R + 1) 3 = 0 := by rw [upd9_n (by omega)]; exact q3
    unfold X3_put X3_put_0
    rw [h3, h0, if_f (show ¬ (80 : Int) ≤ 0 by decide)]
    repeat rw [chk_t (by omega)]
    rw [st_e, p3, p1]
    repeat rw [chk_t (by omega)]
    rw [st_e, q3, q2]
    repeat rw [chk_t (by omega)]
    rw [st_e, s3]
    repeat rw [chk_t (by omega)]
    rw [st_e]
    rfl
  rw [xp, cal_e]
  refine ⟨_, rfl, fun i a b c => ?_, fun i a => ?_, ⟨?_, ?_⟩, ?_, ?_, ?_, ?_, ?_⟩
  · rw [upd9_row (by omega), upd9_row (by omega), upd9_row (by omega), upd9_row (by omega), y0 i (by omega) (by omega) (by omega) b c, z2 i (by omega) b c, alo_row (by omega) b c]
  · rw [upd9_n (by omega), upd9_n (by omega), upd9_n (by omega), upd9_n (by omega), y1 i a]
  · rw [upd9_n (by omega), upd9_n (by omega), upd9_n (by omega), upd9_n (by omega), y2]
  · rw [upd9_n (by omega), upd9_n (by omega), upd9_n (by omega), upd9_n (by omega), y3]
  · rw [upd9_row (a := R) (by omega), upd9_row (a := R) (by omega), upd9_row (a := R) (by omega), upd9_row (a := R) (by omega), yR, yR, yR, yR, yR, yR, yR, yR, yR, yR, yR]
    exact ⟨rfl, rfl, rfl, rfl, rfl, rfl, rfl, rfl, rfl, rfl, rfl⟩
  · refine ⟨?_, ?_, ?_, ?_⟩
    · rw [upd9_n (by omega), upd9_n (by omega), upd9_n (by omega), upd9_n (by omega), h0]
    · rw [upd9_n (by omega), upd9_n (by omega), upd9_n (by omega), upd9_n (by omega), h1]
    · rw [upd9_n (by omega), upd9_n (by omega), upd9_n (by omega), upd9_n (by omega), h2]
    · rw [upd9_e rfl rfl]
  · rw [upd9_n (by omega), upd9_n (by omega), upd9_n (by omega), upd9_e rfl rfl]
  · rw [upd9_n (by omega), upd9_n (by omega), upd9_e rfl rfl]
  · rw [upd9_n (by omega), upd9_e rfl rfl]
theorem c_clock (h : RelC N r m) : X11_clock 1 m = some (r 1 0, m) ∧ G_clock r = some (r 1 0, ur r 0 0 0) := by
  unfold X11_clock X11_clock_0 G_clock G_clock_0
  rw [chk_t (by omega), h.1.1.1.2.2.2.2.2.2.2, stg_e, ur_n (by omega)]
  exact ⟨rfl, rfl⟩
theorem c_workflows (h : RelC N r m) : X11_workflows 1 m = some (r 16 0, m) ∧ G_workflows r = some (r 16 0, ur r 0 0 0) := by
  unfold X11_workflows X11_workflows_0 G_workflows G_workflows_0
  rw [chk_t (by omega), h.1.1.1.2.2.2.2.2.1, stg_e, ur_n (by omega)]
  exact ⟨rfl, rfl⟩
end NW
