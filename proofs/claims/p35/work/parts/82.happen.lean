/-! something happens to a run, on both sides -/
theorem x_isWithin {a l h : Int} {m : Mem} : X11_isWithin a l h m = some (if l ≤ a ∧ a ≤ h then 1 else 0, m) := by
  unfold X11_isWithin X11_isWithin_0
  by_cases c : a < l
  · rw [if_t c, if_f (show ¬ (l ≤ a ∧ a ≤ h) by omega), boolR_e (Or.inl rfl)]
  · rw [if_f c]
    by_cases d : h < a
    · rw [if_t d, if_f (show ¬ (l ≤ a ∧ a ≤ h) by omega), boolR_e (Or.inl rfl)]
    · rw [if_f d, if_t (show l ≤ a ∧ a ≤ h by omega), boolR_e (Or.inr rfl)]
theorem g_isIn {a l h : Int} {r : Rst} : G_isIn a l h r = some (if l ≤ a ∧ a ≤ h then 1 else 0, r) := by
  unfold G_isIn G_isIn_0
  by_cases c : a < l
  · rw [if_t c, if_f (show ¬ (l ≤ a ∧ a ≤ h) by omega), boolG_e (Or.inl rfl)]
  · rw [if_f c]
    by_cases d : h < a
    · rw [if_t d, if_f (show ¬ (l ≤ a ∧ a ≤ h) by omega), boolG_e (Or.inl rfl)]
    · rw [if_f d, if_t (show l ≤ a ∧ a ≤ h by omega), boolG_e (Or.inr rfl)]
theorem b01 {c : Prop} [Decidable c] : (if c then (1 : Int) else 0) = 0 ∨ (if c then (1 : Int) else 0) = 1 := by
  split
  · exact Or.inr rfl
  · exact Or.inl rfl
theorem g_isFlow {w : Int} {r : Rst} (h0 : 0 ≤ r 16 0) (h1 : r 16 0 ≤ 10) : G_isFlow w r = some (if 0 ≤ w ∧ w ≤ r 16 0 - 1 then 1 else 0, r) := by
  unfold G_isFlow G_isFlow_0
  rw [chk_t (by omega), g_isIn, cag_e, boolG_e b01]
theorem g_isType {t : Int} {r : Rst} : G_isType t r = some (if 0 ≤ t ∧ t ≤ 2 then 1 else 0, r) := by
  unfold G_isType G_isType_0
  rw [g_isIn, cag_e, boolG_e b01]
theorem g_isQueue {t : Int} {r : Rst} : G_isQueue t r = some (if 0 ≤ t ∧ t ≤ 1 then 1 else 0, r) := by
  unfold G_isQueue G_isQueue_0
  rw [g_isIn, cag_e, boolG_e b01]
theorem g_isWorker {t : Int} {r : Rst} : G_isWorker t r = some (if 0 ≤ t ∧ t ≤ 3 then 1 else 0, r) := by
  unfold G_isWorker G_isWorker_0
  rw [g_isIn, cag_e, boolG_e b01]
theorem g_isValue {t : Int} {r : Rst} : G_isValue t r = some (if -99 ≤ t ∧ t ≤ 99 then 1 else 0, r) := by
  unfold G_isValue G_isValue_0
  rw [g_isIn, cag_e, boolG_e b01]
theorem g_isFine {t : Int} {r : Rst} : G_isFine t r = some (if t = 0 then 1 else 0, ur r 0 0 t) := by
  unfold G_isFine G_isFine_0
  rw [stg_e]
  by_cases c : t = 0
  · rw [if_t c, if_t c, boolG_e (Or.inr rfl)]
  · rw [if_f c, if_f c, boolG_e (Or.inl rfl)]
section HA
variable {r : Rst} {m : Mem} {w : Int}
/-- the row of the latest run -/
def rw9 (r : Rst) (w : Int) : Int := 9 * w + r 12 w - 1
theorem g_rowOfRun (w0 : 0 ≤ w) (w1 : w < 10) (h0 : 0 ≤ r 12 w) (h1 : r 12 w ≤ 9) : G_rowOfRun w r = some (rw9 r w, r) := by
  unfold G_rowOfRun G_rowOfRun_0
  rw [chk_t (by omega), chk_t (by omega), chk_t (by omega), chk_t (by omega)]
  rfl
theorem g_isRunning (w0 : 0 ≤ w) (w1 : w < 10) (h0 : 1 ≤ r 12 w) (h1 : r 12 w ≤ 9) : G_isRunning w r = some (if r 17 (rw9 r w) = 20 then 1 else 0, r) := by
  have e : rw9 r w = 9 * w + r 12 w - 1 := rfl
  unfold G_isRunning G_isRunning_0
  rw [g_rowOfRun w0 w1 (by omega) h1, cag_e, chk_t (by omega)]
  by_cases c : r 17 (rw9 r w) = 20
  · rw [if_t c, if_t c, boolG_e (Or.inr rfl)]
  · rw [if_f c, if_f c, boolG_e (Or.inl rfl)]
/-- an event is written -/
def wr (w k x y : Int) (r : Rst) : Rst := ur (ur (ur (ur r 19 (80 * rw9 r w + r 18 (rw9 r w)) k) 20 (80 * rw9 r w + r 18 (rw9 r w)) x) 21 (80 * rw9 r w + r 18 (rw9 r w)) y) 18 (rw9 r w) (r 18 (rw9 r w) + 1)
theorem g_writes {k x y : Int} (w0 : 0 ≤ w) (w1 : w < 10) (h0 : 1 ≤ r 12 w) (h1 : r 12 w ≤ 9) (h2 : 0 ≤ r 18 (rw9 r w)) (h3 : r 18 (rw9 r w) < 80) : G_writes w k x y r = some (0, wr w k x y r) := by
  have e : rw9 r w = 9 * w + r 12 w - 1 := rfl
  unfold G_writes G_writes_0 wr
  rw [g_rowOfRun w0 w1 (by omega) h1, cag_e]
  generalize rw9 r w = row at *
  rw [chk_t (by omega), chk_t (by omega), chk_t (by omega), chk_t (by omega), stg_e]
  simp (disch := omega) only [chk_t, stg_e, ur_n, ur_e]
theorem wr_n {k x y : Int} {j : Nat} (h : j < 18 ∨ 21 < j) : wr w k x y r j = r j := by
  unfold wr
  rw [ur_ne (by omega), ur_ne (by omega), ur_ne (by omega), ur_ne (by omega)]
theorem wr_o {k x y i : Int} {j : Nat} (h1 : j = 18 → i ≠ rw9 r w) (h2 : 19 ≤ j → j ≤ 21 → i ≠ 80 * rw9 r w + r 18 (rw9 r w)) : wr w k x y r j i = r j i := by
  unfold wr
  by_cases c : j = 18
  · have := h1 c
    rw [ur_n (by omega), ur_n (by omega), ur_n (by omega), ur_n (by omega)]
  · by_cases d : 19 ≤ j ∧ j ≤ 21
    · have := h2 d.1 d.2
      rw [ur_n (by omega), ur_n (by omega), ur_n (by omega), ur_n (by omega)]
    · rw [ur_n (by omega), ur_n (by omega), ur_n (by omega), ur_n (by omega)]
theorem wr_18 {k x y : Int} : wr w k x y r 18 (rw9 r w) = r 18 (rw9 r w) + 1 := by
  unfold wr
  rw [ur_e rfl rfl]
theorem wr_v {k x y : Int} : wr w k x y r 19 (80 * rw9 r w + r 18 (rw9 r w)) = k ∧ wr w k x y r 20 (80 * rw9 r w + r 18 (rw9 r w)) = x ∧ wr w k x y r 21 (80 * rw9 r w + r 18 (rw9 r w)) = y := by
  unfold wr
  simp (disch := omega) only [ur_n, ur_e, and_self]
theorem g_happens {k x y : Int} (w0 : 0 ≤ w) (w1 : w < 10) (h0 : 1 ≤ r 12 w) (h1 : r 12 w ≤ 9) (h2 : 0 ≤ r 18 (rw9 r w)) : G_happens w k x y r = some (if r 17 (rw9 r w) = 20 ∧ r 18 (rw9 r w) < 78 then (1, wr w k x y r) else (0, r)) := by
  have e : rw9 r w = 9 * w + r 12 w - 1 := rfl
  unfold G_happens G_happens_0 G_happens_28
  rw [g_isRunning w0 w1 h0 h1, cag_e]
  by_cases c : r 17 (rw9 r w) = 20
  · rw [if_t c, if_f (by decide), g_rowOfRun w0 w1 (by omega) h1, cag_e, chk_t (by omega)]
    by_cases d : r 18 (rw9 r w) < 78
    · rw [if_f (show ¬ 78 ≤ r 18 (rw9 r w) by omega), if_f (by decide), g_writes w0 w1 h0 h1 h2 (by omega), cag_e, boolG_e (Or.inr rfl), if_t ⟨c, d⟩]
    · rw [if_t (show 78 ≤ r 18 (rw9 r w) by omega), if_t rfl, boolG_e (Or.inl rfl), if_f (fun h => d h.2)]
  · rw [if_f c, if_t rfl, if_t rfl, boolG_e (Or.inl rfl), if_f (fun h => c h.1)]
/-- an event is written, on both sides -/
theorem rel_put {k x y : Int} (h : RelM r m) (g : Rg r) (w0 : 0 ≤ w) (w1 : w < r 16 0) (h3 : r 18 (rw9 r w) < 80) : RelM (wr w k x y r) (put9 (Rl r w + 1) k x y m) := by
  have s := g.2.2 w w0 w1
  obtain ⟨s1, s2, s3, s4, s5, s6⟩ := s
  have er : rw9 r w = 9 * w + r 12 w - 1 := rfl
  have eR : Rl r w = 100000 * (w + 1) + 10000 * r 12 w := rfl
  have h2 := (s6 (rw9 r w) (by omega) (by omega)).1
  obtain ⟨f1, f2, f3, f4, f5⟩ := h.2.2.2.2.2.1 w w0 w1
  have u := f2 (r 12 w) s1 (Int.le_refl _)
  rw [← eR, ← er] at u
  obtain ⟨⟨u0, u1, u2, u7, v0, v1, v2, v3⟩, ue⟩ := u
  have pm : ∀ i, i < Rl r w + 1 ∨ Rl r w + 4 < i → put9 (Rl r w + 1) k x y m i = m i := fun i hi => by
    unfold put9
    rw [upd9_row (by omega), upd9_row (by omega), upd9_row (by omega), upd9_row (by omega)]
  have pj : ∀ j, j ≠ 3 → put9 (Rl r w + 1) k x y m (Rl r w + 1) j = m (Rl r w + 1) j := fun j hj => by
    unfold put9
    rw [upd9_n (by omega), upd9_n (by omega), upd9_n (by omega), upd9_n (by omega)]
  have p3 : put9 (Rl r w + 1) k x y m (Rl r w + 1) 3 = r 18 (rw9 r w) + 1 := by
    unfold put9
    rw [upd9_e rfl rfl, v3]
  have pe : ∀ e, put9 (Rl r w + 1) k x y m (Rl r w + 2) e = (if e = r 18 (rw9 r w) then k else m (Rl r w + 2) e) ∧ put9 (Rl r w + 1) k x y m (Rl r w + 3) e = (if e = r 18 (rw9 r w) then x else m (Rl r w + 3) e) ∧ put9 (Rl r w + 1) k x y m (Rl r w + 4) e = (if e = r 18 (rw9 r w) then y else m (Rl r w + 4) e) := fun e => by
    unfold put9
    rw [v3]
    by_cases c : e = r 18 (rw9 r w)
    · rw [if_t c, if_t c, if_t c]
      subst c
      simp (disch := omega) only [upd9_n, upd9_e, and_self]
    · rw [if_f c, if_f c, if_f c]
      simp (disch := omega) only [upd9_n, and_self]
  have r12 : wr w k x y r 12 = r 12 := wr_n (by omega)
  have eR' : Rl (wr w k x y r) w = Rl r w := by unfold Rl; rw [r12]
  have nrow : ∀ (j : Nat) i, (j < 18 ∨ 21 < j) → wr w k x y r j i = r j i := fun j i hj => by rw [wr_n hj]
  refine h.run g w0 w1 (fun i a b => pm i (by omega)) (fun i a b => pm i (by omega)) (fun j i a b c => wr_o (fun e hi => c ⟨?_, ?_⟩) (fun e e2 hi => c ⟨?_, ?_⟩)) ?_
  · unfold Own; omega
  · omega
  · unfold Own; omega
  · omega
  · refine ⟨f1.fr (fun i a b => pm i (by omega)) (fun j i a b => nrow j i (by omega)), fun k2 k0 k1 => ?_, f3.fr (pm _ (by omega)) (fun j a => nrow j w (by omega)), f4.fr s3.2 (fun i a => pm i (by omega)) (fun j i a b => nrow j i (by omega)), f5.fr s4.2 (pm _ (by omega)) (fun j i a b => nrow j i (by omega))⟩
    rw [r12] at k1
    by_cases c : k2 = r 12 w
    · rw [c, ← eR, ← er]
      refine ⟨⟨by rw [pm _ (by omega)]; exact u0, by rw [pm _ (by omega)]; exact u1, by rw [pm _ (by omega)]; exact u2, by rw [pm _ (by omega), nrow 17 _ (by omega)]; exact u7, by rw [pj _ (by omega)]; exact v0, by rw [pj _ (by omega)]; exact v1, by rw [pj _ (by omega)]; exact v2, by rw [p3, wr_18]⟩, fun e e0 e1 => ?_⟩
      rw [wr_18] at e1
      rw [(pe e).1, (pe e).2.1, (pe e).2.2]
      by_cases d : e = r 18 (rw9 r w)
      · rw [if_t d, if_t d, if_t d, d, wr_v.1, wr_v.2.1, wr_v.2.2]
        exact ⟨rfl, rfl, rfl⟩
      · rw [if_f d, if_f d, if_f d, wr_o (by omega) (by omega), wr_o (by omega) (by omega), wr_o (by omega) (by omega)]
        exact ue e e0 (by omega)
    · exact (f2 k2 k0 k1).fr (fun i a b => pm i (by omega)) (nrow 17 _ (by omega)) (wr_o (by omega) (by omega)) (fun j e a b c d => by
        have := s6 (9 * w + k2 - 1) (by omega) (by omega)
        exact wr_o (by omega) (by omega))
/-- something happens, on both sides -/
theorem rel_happen {k x y : Int} (h : RelM r m) (g : Rg r) (w0 : 0 ≤ w) (w1 : w < r 16 0) : ∃ v m' r', X7_happen (Rl r w) k x y m = some (v, m') ∧ G_happens w k x y r = some (v, r') ∧ RelM r' m' ∧ (v = 1 ∧ r 17 (rw9 r w) = 20 ∧ r 18 (rw9 r w) < 78 ∧ r' = wr w k x y r ∧ m' = put9 (Rl r w + 1) k x y m ∨ v = 0 ∧ ¬ (r 17 (rw9 r w) = 20 ∧ r 18 (rw9 r w) < 78) ∧ r' = r ∧ m' = m) := by
  have s := g.2.2 w w0 w1
  obtain ⟨s1, s2, s3, s4, s5, s6⟩ := s
  have b10 := g.1.2
  have er : rw9 r w = 9 * w + r 12 w - 1 := rfl
  have eR : Rl r w = 100000 * (w + 1) + 10000 * r 12 w := rfl
  have h2 := (s6 (rw9 r w) (by omega) (by omega)).1
  obtain ⟨f1, f2, f3, f4, f5⟩ := h.2.2.2.2.2.1 w w0 w1
  have u := f2 (r 12 w) s1 (Int.le_refl _)
  rw [← eR, ← er] at u
  obtain ⟨⟨u0, u1, u2, u7, v0, v1, v2, v3⟩, ue⟩ := u
  rw [happen_ok (by omega) u0 (by rw [v0]; omega) (by rw [v1]; omega) (by rw [v2]; omega) (by omega), g_happens w0 (by omega) s1 s2 h2, u7, v3]
  by_cases c : r 17 (rw9 r w) = 20 ∧ r 18 (rw9 r w) < 78
  · rw [if_t c, if_t c]
    exact ⟨1, _, _, rfl, rfl, rel_put h g w0 w1 (by omega), Or.inl ⟨rfl, c.1, c.2, rfl, rfl⟩⟩
  · rw [if_f c, if_f c]
    exact ⟨0, m, r, rfl, rfl, h, Or.inr ⟨rfl, c, rfl, rfl⟩⟩
end HA
