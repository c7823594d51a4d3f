/-! the deeds of p35's law, on the reference's fields: signal, cancel, what workers do -/
section DED
variable {r r' z : Rst} {w c n k x y v N : Int} {m : Mem}
theorem Px.f0 (h : Px nob nob nob r) : Px nob nob nob (ur r 0 0 v) := h.fr fun j hj => ur_ne (by omega)
theorem dueV_wr (hr : r 17 (rw9 r w) = 20) (hk : k < 7) : dueV (wr w k x y r) w = 1 := by
  unfold dueV
  rw [rw9_wr, wr_18, wr_n (by omega), hk_wr, if_t (show r 18 (rw9 r w) + 1 - 1 = r 18 (rw9 r w) by omega), if_t ⟨hr, hk⟩]
theorem u0_rw : rw9 (ur r 0 0 v) w = rw9 r w := rw9_e (ur_ne (by omega))
theorem u0_hk : hk (ur r 0 0 v) w = hk r w := by
  unfold hk
  rw [u0_rw, ur_ne (by omega)]
theorem o_signal (h : RelC N r m) (hp : Px nob nob nob r) (w0 : 0 ≤ w) (w1 : w < r 16 0) (hx : 0 ≤ x ∧ x ≤ 2) (hy : -99 ≤ y ∧ y ≤ 99) : ∃ v r', G_signal w x y r = some (v, r') ∧ r' 0 0 = 0 ∧ Px nob nob nob r' ∧ ((r 17 (rw9 r w) = 20 ∧ r 18 (rw9 r w) < 78) ∧ v = 1 ∧ r' = wr w 4 x y (ur r 0 0 0) ∨ ¬ (r 17 (rw9 r w) = 20 ∧ r 18 (rw9 r w) < 78) ∧ v = 0 ∧ r' = ur r 0 0 0) := by
  have g := h.2.2.rg
  unfold G_signal G_signal_0 G_signal_38
  rw [g_flow g, cag_e, if_t (show 0 ≤ w ∧ w ≤ r 16 0 - 1 by omega), if_f (by decide), g_isIn, cag_e, if_t hx, if_f (show ¬ (1 : Int) = 0 by decide), g_isValue, cag_e, if_t hy, if_f (show ¬ (1 : Int) = 0 by decide), g_fine0, cag_e, if_f (show ¬ (1 : Int) = 0 by decide)]
  obtain ⟨v1, r1, k1, k2, k3⟩ := (hp.f0 (v := 0)).happens (c := w) (k := 4) (x := x) (y := y) w0 (by rw [ur_n (by omega)]; exact w1) (fun _ _ => ⟨by omega, fun h => by omega, fun h => by omega, fun h => by omega, fun h => by omega, fun _ => ⟨by omega, by omega⟩, fun h => by omega⟩) (by decide)
  rw [k1, cag_e]
  rw [u0_rw, ur_ne (show (17 : Nat) ≠ 0 by decide), ur_ne (show (18 : Nat) ≠ 0 by decide)] at k2
  rcases k2 with ⟨rfl, rfl, k5⟩ | ⟨rfl, rfl, k5⟩
  · rw [if_t rfl, boolG_e (by omega)]
    exact ⟨_, _, rfl, ur_e rfl rfl, k3, Or.inr ⟨k5, rfl, rfl⟩⟩
  · rw [if_f (by decide), boolG_e (by omega)]
    exact ⟨_, _, rfl, by rw [wr_n (by omega)]; exact ur_e rfl rfl, k3, Or.inl ⟨k5, rfl, rfl⟩⟩
/-- a CANCEL can be told -/
def Cab (r : Rst) (w : Int) : Prop := can (hk r w) (r 18 (rw9 r w)).toNat = 0 ∧ r 17 (rw9 r w) = 20 ∧ r 18 (rw9 r w) < 78
theorem o_cancel (h : RelC N r m) (hp : Px nob nob nob r) (w0 : 0 ≤ w) (w1 : w < r 16 0) : ∃ v r', G_cancel w r = some (v, r') ∧ r' 0 0 = 0 ∧ Px nob nob nob r' ∧ (Cab r w ∧ v = 1 ∧ dueV r' w = 1 ∧ ¬ Cab r' w ∧ r' 16 = r 16 ∨ ¬ Cab r w ∧ v = 0 ∧ ¬ Cab r' w ∧ r' 16 = r 16) := by
  have g := h.2.2.rg
  unfold G_cancel G_cancel_0 G_cancel_14
  rw [g_flow g, cag_e, if_t (show 0 ≤ w ∧ w ≤ r 16 0 - 1 by omega), if_f (by decide), g_fine0, cag_e, if_f (show ¬ (1 : Int) = 0 by decide)]
  have w2 : w < ur r 0 0 0 16 0 := by rw [ur_n (by omega)]; exact w1
  obtain ⟨v1, r1, k1, k2, k3⟩ := (hp.f0 (v := 0)).cancels (c := w) w0 w2
  rw [k1, cag_e]
  have bb := ((hp.f0 (v := 0)).bb w0 w2).2.2
  have e1 : Cab (ur r 0 0 0) w ↔ Cab r w := by
    unfold Cab
    rw [u0_hk, u0_rw, ur_ne (show (17 : Nat) ≠ 0 by decide), ur_ne (show (18 : Nat) ≠ 0 by decide)]
  rcases k2 with ⟨rfl, rfl, k5⟩ | ⟨rfl, rfl, k5⟩
  · rw [if_t rfl, boolG_e (by omega)]
    have nc : ¬ Cab r w := fun hh => k5 (e1.mpr hh)
    exact ⟨_, _, rfl, ur_e rfl rfl, k3, Or.inr ⟨nc, rfl, fun hh => nc (e1.mp hh), ur_ne (by omega)⟩⟩
  · rw [if_f (by decide), boolG_e (by omega)]
    have gc := g_cancels w0 (by have := hp.1; omega) ((hp.f0 (v := 0)).bb w0 w2).2.1.1 ((hp.f0 (v := 0)).bb w0 w2).2.1.2 (by omega) bb.2
    have hc : Cab (ur r 0 0 0) w := by
      by_cases d : Cab (ur r 0 0 0) w
      · exact d
      · rw [if_f (show ¬ (can (hk (ur r 0 0 0) w) (ur r 0 0 0 18 (rw9 (ur r 0 0 0) w)).toNat = 0 ∧ ur r 0 0 0 17 (rw9 (ur r 0 0 0) w) = 20 ∧ ur r 0 0 0 18 (rw9 (ur r 0 0 0) w) < 78) from d), k1] at gc
        injection gc with gc
        injection gc with gc _
        omega
    refine ⟨_, _, rfl, by rw [wr_n (by omega)]; exact ur_e rfl rfl, k3, Or.inl ⟨e1.mp hc, rfl, dueV_wr k5.1 (by decide), fun hh => ?_, by rw [wr_n (by omega)]; exact ur_ne (by omega)⟩⟩
    have := hh.1
    rw [can_wr (by omega), if_t rfl] at this
    omega
/-- what a worker has -/
theorem RelC.hand (h : RelC N r m) (k0 : 0 ≤ k) (k1 : k < 4) : r 39 k = -1 ∨ ∃ w n, 0 ≤ w ∧ w < r 16 0 ∧ 0 ≤ n ∧ n < r 22 w ∧ n < 80 ∧ r 39 k = 80 * w + n ∧ r 23 (80 * w + n) = 2 := by
  have wk := (h.1.2.2.2.2.1 k k0 k1).2.2
  have gk := (h.2.2.2.2.2.2.2.2.2.1.1 k k0 k1).2
  rcases wk with ⟨d1, d2⟩ | ⟨w, n, d1, d2, d3, d4, d5, d6⟩
  · exact Or.inl d1
  · have lt := h.2.2.lt d1 d2
    refine Or.inr ⟨w, n, d1, d2, d3, d4, by omega, d5, ?_⟩
    rcases gk with gk | gk
    · omega
    · rw [d5] at gk; exact gk
/-- whoever is at work, the run is RUNNING -/
theorem Px.busy (h : Px nob nob nob r) (w0 : 0 ≤ w) (w1 : w < r 16 0) (n0 : 0 ≤ n) (n8 : n < 80) (n1 : n < r 22 w) (h23 : r 23 (80 * w + n) ≠ 0) : r 17 (rw9 r w) = 20 := by
  by_cases c : r 17 (rw9 r w) = 20
  · exact c
  · exact absurd ((h.pw w0 w1).2.2.2.2.2.2.1 (fun a => a) c n n0 n8 n1) h23
theorem Off.rw (o : Off w n r r') (c : Int) : rw9 r' c = rw9 r c := rw9_e (o.1 12 (by omega) (by omega))
theorem o_end (h : RelC N r m) (hp : Px nob nob nob r) (k0 : 0 ≤ k) (k1 : k < 4) (hx : -99 ≤ x ∧ x ≤ 99) : (r 39 k = -1 ∧ G_end k x r = some (0, ur r 0 0 3)) ∨ ∃ w n v r', r 39 k = 80 * w + n ∧ (0 ≤ w ∧ w < r 16 0 ∧ 0 ≤ n ∧ n < 80) ∧ G_end k x r = some (v, r') ∧ r' 0 0 = 0 ∧ Px nob nob nob r' ∧ r' 39 k = -1 ∧ (v = 0 ∨ v = 1 ∧ dueV r' w = 1) ∧ r' 16 0 = r 16 0 := by
  unfold G_end G_end_0 G_end_40
  rw [g_isWorker, cag_e, if_t (show 0 ≤ k ∧ k ≤ 3 by omega), if_f (by decide), g_isValue, cag_e, if_t hx, if_f (show ¬ (1 : Int) = 0 by decide), chk_t (by omega)]
  rcases h.hand k0 k1 with e | ⟨w, n, d1, d2, d3, d4, d5, d6, d7⟩
  · rw [if_t e, g_fineE (by decide), cag_e, if_t rfl, boolG_e (by omega)]
    exact Or.inl ⟨e, rfl⟩
  · have e39 : ur r 0 0 0 39 k = 80 * w + n := by rw [ur_n (by omega)]; exact d6
    have b10 := hp.1
    rw [if_f (show ¬ r 39 k = -1 by omega), g_fine0, cag_e, if_f (show ¬ (1 : Int) = 0 by decide), e39, chk_t (by omega), chk_t (by omega), chk_t (by omega), show (80 * w + n) / 80 = w by omega, show (80 * w + n) % 80 = n by omega]
    obtain ⟨r1, q1, q2, q3⟩ := p_off (c := w) (n := n) (hp.f0 (v := 0)) ⟨d1, by omega⟩ ⟨d3, d5⟩
    have r1j : ∀ j : Nat, j ≠ 0 → j ≠ 39 → j ≠ 23 → r1 j = r j := fun j a b c => by rw [q2.1 j b c, ur_ne a]
    have w2 : w < r1 16 0 := by rw [r1j 16 (by omega) (by omega) (by omega)]; exact d2
    have ct := ((q3.pw d1 w2).2.2.2.1 (fun a => a)).2.1
    obtain ⟨v, r2, s1, s2, s3⟩ := q3.happens (c := w) (k := 1) (x := n) (y := x) d1 w2 (fun _ _ => ⟨by omega, fun h => by omega, fun _ => Int.lt_of_lt_of_le (show n < r1 22 w by rw [r1j 22 (by omega) (by omega) (by omega)]; exact d4) ct, fun h => by omega, fun h => by omega, fun _ => ⟨by omega, by omega⟩, fun h => by omega⟩) (by decide)
    have f39 : r1 39 k = -1 := by rw [q2.2.2, if_t ⟨k0, k1, e39⟩]
    have f0 : r1 0 0 = 0 := by rw [q2.1 0 (by omega) (by omega)]; exact ur_e rfl rfl
    rw [q1, cag_e, chk_t (by omega), chk_t (by omega), s1, cag_e]
    rcases s2 with ⟨rfl, rfl, s4⟩ | ⟨rfl, rfl, s4⟩
    · rw [boolG_e (by omega)]
      exact Or.inr ⟨w, n, 0, r2, d6, ⟨d1, d2, d3, d5⟩, rfl, f0, s3, f39, Or.inl rfl, by rw [r1j 16 (by omega) (by omega) (by omega)]⟩
    · rw [boolG_e (by omega)]
      exact Or.inr ⟨w, n, 1, _, d6, ⟨d1, d2, d3, d5⟩, rfl, by rw [wr_n (by omega)]; exact f0, s3, by rw [wr_n (by omega)]; exact f39, Or.inr ⟨rfl, dueV_wr s4.1 (by decide)⟩, by rw [wr_n (by omega), r1j 16 (by omega) (by omega) (by omega)]⟩
/-- a try fails -/
theorem p_failsTry (hp : Px nob nob nob r) (w0 : 0 ≤ w) (w1 : w < r 16 0) (n0 : 0 ≤ n) (n8 : n < 80) (n1 : n < r 22 w) (hr : r 17 (rw9 r w) = 20) : Pv (fun r' => Px nob nob nob r' ∧ (∀ j : Nat, j < 18 ∨ j = 22 ∨ (27 ≤ j ∧ j ≠ 39) → r' j = r j) ∧ (∀ i, r 39 i = -1 → r' 39 i = -1) ∧ (∀ i, 0 ≤ i → i < 4 → r 39 i = 80 * w + n → r' 39 i = -1)) (G_failsTry (80 * w + n) r) := by
  have b10 := hp.1
  unfold G_failsTry G_failsTry_0
  rw [show (80 * w + n) / 80 = w by omega, show (80 * w + n) % 80 = n by omega]
  refine Pv.chk fun _ => Pv.chk fun _ => Pv.chk fun _ => ?_
  obtain ⟨r1, q1, q2, q3⟩ := p_off (c := w) (n := n) hp ⟨w0, by omega⟩ ⟨n0, n8⟩
  have w2 : w < r1 16 0 := by rw [q2.1 16 (by omega) (by omega)]; exact w1
  have ct := ((q3.pw w0 w2).2.2.2.1 (fun a => a)).2.1
  have o1 : ∀ i, r 39 i = -1 → r1 39 i = -1 := fun i hi => by
    rw [q2.2.2]
    split
    · rfl
    · exact hi
  have o2 : ∀ i, 0 ≤ i → i < 4 → r 39 i = 80 * w + n → r1 39 i = -1 := fun i a b c => by rw [q2.2.2, if_t ⟨a, b, c⟩]
  rw [q1, cag_e]
  refine Pv.ite (fun c3 => Pv.chk fun _ => Pv.chk fun _ => ?_) fun c3 => Pv.chk fun _ => Pv.ste fun y1 ey1 => Pv.chk fun _ => Pv.chk fun _ => Pv.chk fun _ => Pv.ste fun y2 ey2 => Pv.ret ?_
  · obtain ⟨v, r2, s1, s2, s3⟩ := q3.happens (c := w) (k := 2) (x := n) (y := 0) w0 w2 (fun _ _ => ⟨by omega, fun h => by omega, fun _ => Int.lt_of_lt_of_le (show n < r1 22 w by rw [q2.1 22 (by omega) (by omega)]; exact n1) ct, fun h => by omega, fun h => by omega, fun h => by omega, fun h => by omega⟩) (by decide)
    rw [s1, cag_e]
    rcases s2 with ⟨rfl, -⟩ | ⟨rfl, -⟩
    · exact Pv.ret ⟨s3, fun j hj => q2.1 j (by omega) (by omega), o1, o2⟩
    · exact Pv.ret ⟨s3, fun j hj => by rw [wr_n (by omega)]; exact q2.1 j (by omega) (by omega), fun i hi => by rw [wr_n (by omega)]; exact o1 i hi, fun i a b c => by rw [wr_n (by omega)]; exact o2 i a b c⟩
  · have f : ∀ j : Nat, j ≠ 23 → j ≠ 26 → y2 j = r1 j := fun j a b => by rw [ey2, ur_ne b, ey1, ur_ne a]
    refine ⟨q3.act (fun j hj => f j (by omega) (by omega)) (fun w' n' a b c d e g i => ?_) (q3.2.2.2.2.fr (f 39 (by omega) (by omega))), fun j hj => by rw [f j (by omega) (by omega)]; exact q2.1 j (by omega) (by omega), fun i hi => by rw [f 39 (by omega) (by omega)]; exact o1 i hi, fun i a b c => by rw [f 39 (by omega) (by omega)]; exact o2 i a b c⟩
    rw [ey2, ur_n (by omega), ey1]
    by_cases ei : 80 * w' + n' = 80 * w + n
    · have ew : w' = w := by omega
      rw [ew, q2.rw, q2.1 17 (by omega) (by omega)] at g
      exact absurd hr g
    · rw [ur_n (by omega)]; exact i
theorem o_fail (h : RelC N r m) (hp : Px nob nob nob r) (k0 : 0 ≤ k) (k1 : k < 4) : (r 39 k = -1 ∧ ∃ v, G_fail k r = some (v, ur r 0 0 2)) ∨ (r 39 k ≠ -1 ∧ ∀ v r', G_fail k r = some (v, r') → r' 0 0 = 0 ∧ Px nob nob nob r' ∧ r' 39 k = -1 ∧ (1 ≤ v ∧ v ≤ 3) ∧ r' 16 0 = r 16 0) := by
  unfold G_fail G_fail_0 G_fail_29
  rw [g_isWorker, cag_e, if_t (show 0 ≤ k ∧ k ≤ 3 by omega), if_f (by decide), chk_t (by omega)]
  rcases h.hand k0 k1 with e | ⟨w, n, d1, d2, d3, d4, d5, d6, d7⟩
  · rw [if_t e, g_fineE (by decide), cag_e, if_t rfl]
    exact Or.inl ⟨e, _, rfl⟩
  · have e39 : ur r 0 0 0 39 k = 80 * w + n := by rw [ur_n (by omega)]; exact d6
    have b10 := hp.1
    refine Or.inr ⟨by omega, fun v r' e => ?_⟩
    rw [if_f (show ¬ r 39 k = -1 by omega), g_fine0, cag_e, if_f (show ¬ (1 : Int) = 0 by decide), e39, chk_t (by omega), chk_t (by omega), chk_t (by omega)] at e
    obtain ⟨v1, r1, e1, e2⟩ := cag_some e
    cases e2
    have bs := hp.busy d1 d2 d3 d5 d4 (by omega)
    obtain ⟨p1, p2, p3, p4⟩ := p_failsTry (hp.f0 (v := 0)) d1 (by rw [ur_n (by omega)]; exact d2) d3 d5 (by rw [ur_n (by omega)]; exact d4) (by rw [u0_rw, ur_n (by omega)]; exact bs) v1 _ e1
    have gk := ((h.2.2.2.2.2.2.2.2.2.1.2 w n d1 d2 d3 d4).2.1 d7).1
    rw [ur_n (by omega)]
    exact ⟨by rw [p2 0 (by omega)]; exact ur_e rfl rfl, p1, p4 k k0 k1 e39, gk, by rw [p2 16 (by omega), ur_n (by omega)]⟩
theorem o_beat (h : RelC N r m) (hp : Px nob nob nob r) (k0 : 0 ≤ k) (k1 : k < 4) : (r 39 k = -1 ∧ ∃ v, G_beat k r = some (v, ur r 0 0 2)) ∨ (r 39 k ≠ -1 ∧ ∀ v r', G_beat k r = some (v, r') → r' 0 0 = 0 ∧ Px nob nob nob r' ∧ v = r 1 0 + 10 ∧ ∀ j : Nat, 1 ≤ j → j ≠ 27 → r' j = r j) := by
  unfold G_beat G_beat_0 G_beat_29
  rw [g_isWorker, cag_e, if_t (show 0 ≤ k ∧ k ≤ 3 by omega), if_f (by decide), chk_t (by omega)]
  by_cases e : r 39 k = -1
  · rw [if_t e, g_fineE (by decide), cag_e, if_t rfl]
    exact Or.inl ⟨e, _, rfl⟩
  · refine Or.inr ⟨e, fun v r' e1 => ?_⟩
    rw [if_f e, g_fine0, cag_e, if_f (show ¬ (1 : Int) = 0 by decide)] at e1
    have e1 := (chk_some (chk_some (chk_some e1).2).2).2
    have e1 := (chk_some (chk_some (stg_some e1)).2).2
    cases e1
    refine ⟨?_, (hp.f0 (v := 0)).fr fun j hj => ur_ne (by omega), ?_, fun j a b => by rw [ur_ne b, ur_ne (by omega)]⟩
    · rw [ur_n (by omega)]; exact ur_e rfl rfl
    · simp (disch := omega) only [ur_n, ur_e]
theorem o_run (hp : Px nob nob nob r) (k0 : 0 ≤ k) (k1 : k < 4) (hx : x = 0 ∨ x = 1) : ∃ r', G_run k x r = some (if r 39 k = -1 then 0 else 1, r') ∧ r' 0 0 = 0 ∧ Px nob nob nob r' ∧ r' 39 k = (if x = 0 then -1 else r 39 k) ∧ ∀ j : Nat, 1 ≤ j → j ≠ 38 → j ≠ 39 → r' j = r j := by
  have fin : ∀ s0 p : Int, (p = -1 ∨ p = r 39 k) → p = (if x = 0 then -1 else r 39 k) → (s0 = 0 ∨ s0 = 1) → ∃ r', boolG (G_run_56 k x s0 p k (ur r 0 0 0)) = some (s0, r') ∧ r' 0 0 = 0 ∧ Px nob nob nob r' ∧ r' 39 k = (if x = 0 then -1 else r 39 k) ∧ ∀ j : Nat, 1 ≤ j → j ≠ 38 → j ≠ 39 → r' j = r j := fun s0 p h1 h2 h3 => by
    unfold G_run_56
    rw [chk_t (by omega), stg_e, chk_t (by omega), stg_e, boolG_e h3]
    refine ⟨_, rfl, by rw [ur_n (by omega), ur_n (by omega)]; exact ur_e rfl rfl, ?_, by rw [ur_n (by omega), ur_e rfl rfl, h2], fun j a b c => by rw [ur_ne b, ur_ne c, ur_ne (by omega)]⟩
    refine hp.act (fun j hj => by rw [ur_ne (by omega), ur_ne (by omega), ur_ne (by omega)]) (fun w n _ _ _ _ _ _ e => by rw [ur_n (by omega), ur_n (by omega), ur_n (by omega)]; exact e) (hp.2.2.2.2.off fun i i0 i1 => ?_)
    rw [ur_n (by omega)]
    by_cases e : i = k
    · rw [ur_e rfl e, e]; omega
    · rw [ur_n (by omega), ur_n (by omega)]; exact Or.inl rfl
  unfold G_run G_run_0 G_run_13 G_run_36
  rw [g_isWorker, cag_e, if_t (show 0 ≤ k ∧ k ≤ 3 by omega), if_f (by decide), g_fine0, cag_e, if_f (show ¬ (1 : Int) = 0 by decide), chk_t (by omega), ur_n (show (39 : Nat) ≠ 0 ∨ k ≠ 0 by omega)]
  by_cases e : r 39 k = -1
  · rw [if_t e, if_t e]
    by_cases d : x = 0
    · rw [if_t d]; exact fin 0 (-1) (Or.inl rfl) (by rw [if_t d]) (Or.inl rfl)
    · rw [if_f d, chk_t (by omega)]; exact fin 0 _ (Or.inr rfl) (by rw [if_f d]) (Or.inl rfl)
  · rw [if_f e, if_f e]
    by_cases d : x = 0
    · rw [if_t d]; exact fin 1 (-1) (Or.inl rfl) (by rw [if_t d]) (Or.inr rfl)
    · rw [if_f d, chk_t (by omega)]; exact fin 1 _ (Or.inr rfl) (by rw [if_f d]) (Or.inr rfl)
end DED
