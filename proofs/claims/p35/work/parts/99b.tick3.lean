/-! one call on both sides: tick, whole -/
section TT
variable {cd : Int → Int} {N : Int} {r r' : Rst} {m m' : Mem} {w n q k : Int}
/-- the clock goes on, and the queues count anew -/
theorem RelC.clock (h : RelC N r m) (tt : GT r) (hc : r 1 0 + 1 ≤ 50 * N) : RelC N (ur (ur (ur r 1 0 (r 1 0 + 1)) 36 0 0) 36 1 0) (upd9 (upd9 (upd9 m 1 7 (r 1 0 + 1)) 5000 2 0) 5010 2 0) := by
  have g := h.2.2.rg
  have b10 := g.1
  have gk := h.2.2.gk
  have gn := h.2.2.gn
  have e : ∀ j : Nat, j ≠ 1 → j ≠ 36 → ur (ur (ur r 1 0 (r 1 0 + 1)) 36 0 0) 36 1 0 j = r j := fun j a b => by rw [ur_ne b, ur_ne b, ur_ne a]
  have e1 : ur (ur (ur r 1 0 (r 1 0 + 1)) 36 0 0) 36 1 0 1 0 = r 1 0 + 1 := by rw [ur_ne (by omega), ur_ne (by omega), ur_e rfl rfl]
  have e36 : ∀ q, 0 ≤ q → q < 2 → ur (ur (ur r 1 0 (r 1 0 + 1)) 36 0 0) 36 1 0 36 q = 0 := fun q a b => by
    by_cases f : q = 1
    · rw [ur_e rfl f]
    · rw [ur_n (Or.inr f), ur_e rfl (by omega)]
  refine h.mk (rel_qu h.1 g (fun i a b => by rw [upd9_row (by omega), upd9_row (by omega), upd9_row (by omega)]) (fun j a b => by rw [upd9_n (by omega), upd9_n (by omega), upd9_n (by omega)]) ?_ ?_ (fun j a b c d f => e j d b) fun q a b => ?_) (h.2.2.num (fun j a b c d f => e j b d) ⟨fun q a b => ?_, fun w2 n2 a b c d => ?_⟩ ⟨⟨?_, ?_⟩, ?_, fun q a b => ?_, ?_⟩) (fun w a b => ?_) fun j hj => e j (by omega) (by omega)
  · rw [upd9_n (by omega), upd9_n (by omega), upd9_n (by omega), e 29 (by omega) (by omega)]
    exact h.1.1.1.2.2.2.2.2.2.1
  · rw [upd9_n (by omega), upd9_n (by omega), upd9_e rfl rfl, e1]
  · have qu := h.1.2.2.2.1 q a b
    unfold Qu at *
    rw [e 35 (by omega) (by omega), e 37 (by omega) (by omega), e36 q a b]
    have r4 : upd9 (upd9 (upd9 m 1 7 (r 1 0 + 1)) 5000 2 0) 5010 2 0 4 = m 4 := by rw [upd9_row (by omega), upd9_row (by omega), upd9_row (by omega)]
    have rt : upd9 (upd9 (upd9 m 1 7 (r 1 0 + 1)) 5000 2 0) 5010 2 0 (5000 + 10 * q + 1) = m (5000 + 10 * q + 1) := by rw [upd9_row (by omega), upd9_row (by omega), upd9_row (by omega)]
    have r2 : upd9 (upd9 (upd9 m 1 7 (r 1 0 + 1)) 5000 2 0) 5010 2 0 (5000 + 10 * q) 2 = 0 := by
      by_cases f : q = 1
      · rw [upd9_e (by omega) rfl]
      · rw [upd9_n (by omega), upd9_e (by omega) rfl]
    rw [r4, rt, r2, upd9_n (by omega), upd9_n (by omega), upd9_n (by omega), upd9_n (by omega), upd9_n (by omega), upd9_n (by omega)]
    exact ⟨⟨qu.1.1, qu.1.2.1, qu.1.2.2.1, rfl⟩, qu.2⟩
  · rw [e 38 (by omega) (by omega), e 39 (by omega) (by omega), e 23 (by omega) (by omega)]
    exact gk.1 q a b
  · rw [e 16 (by omega) (by omega)] at b
    rw [e 22 (by omega) (by omega)] at d
    rw [e 23 (by omega) (by omega), e 25 (by omega) (by omega), e 26 (by omega) (by omega), e 27 (by omega) (by omega), e1]
    have k := gk.2 w2 n2 a b c d
    have t := tt w2 n2 a b c d
    exact ⟨k.1, fun f => ⟨(k.2.1 f).1, by have := (k.2.1 f).2; have := t.1 f; omega⟩, fun f => ⟨(k.2.2 f).1, by have := (k.2.2 f).2; have := t.2 f; omega⟩⟩
  · rw [e1]; have := gn.1.1; omega
  · rw [e1]; exact hc
  · rw [e 29 (by omega) (by omega)]; exact gn.2.1
  · rw [e36 q a b]; have := gn.1; omega
  · rw [e 37 (by omega) (by omega)]; exact gn.2.2.2
  · have s1 := (g.2.2 w a b).1
    have eR : Rl r w = 100000 * (w + 1) + 10000 * r 12 w := rfl
    rw [upd9_row (by omega), upd9_row (by omega), upd9_row (by omega)]
/-- one tick -/
theorem RelC.once (h : RelC N r m) (tt : GT r) (hN : N ≤ 600) (hc : r 1 0 + 1 ≤ 50 * N) : ∃ m' r', X11_passTick 1 m = some (0, m') ∧ G_ticksOnce r = some (0, r') ∧ RelC N r' m' ∧ GT r' ∧ (∀ i, i < 5000 → i ≠ 1 → m' i = m i) ∧ r' 1 0 = r 1 0 + 1 ∧ r' 16 = r 16 ∧ r' 0 = r 0 := by
  have f9 := fuel9_ge
  have g := h.2.2.rg
  have b10 := g.1
  have gn := h.2.2.gn.1
  obtain ⟨t, ht⟩ : ∃ t, fuel9 = t + 3 := ⟨fuel9 - 3, by omega⟩
  have hz := h.clock tt hc
  have e7 : m 1 7 = r 1 0 := h.1.1.1.2.2.2.2.2.2.2
  have e2 : m 1 2 = 4 := h.1.1.1.2.2.1
  have q0 : m 4 0 = 5000 := (h.1.2.2.2.1 0 (by omega) (by omega)).1.1
  have q1 : m 4 1 = 5010 := (h.1.2.2.2.1 1 (by omega) (by omega)).1.1
  have rz : ∀ i, i < 5000 → i ≠ 1 → upd9 (upd9 (upd9 m 1 7 (r 1 0 + 1)) 5000 2 0) 5010 2 0 i = m i := fun i a b => by rw [upd9_row (by omega), upd9_row (by omega), upd9_row (by omega)]
  have z1 : ur (ur (ur r 1 0 (r 1 0 + 1)) 36 0 0) 36 1 0 1 0 = r 1 0 + 1 := by rw [ur_ne (by omega), ur_ne (by omega), ur_e rfl rfl]
  have zj : ∀ j : Nat, j ≠ 1 → j ≠ 36 → ur (ur (ur r 1 0 (r 1 0 + 1)) 36 0 0) 36 1 0 j = r j := fun j a b => by rw [ur_ne b, ur_ne b, ur_ne a]
  have x1 : ∀ k35 : Int → Int → Mem → Option R2, X11_passTick_12 k35 fuel9 1 0 (upd9 m 1 7 (r 1 0 + 1)) = k35 1 0 (upd9 (upd9 (upd9 m 1 7 (r 1 0 + 1)) 5000 2 0) 5010 2 0) := fun k35 => by
    have a1 : upd9 m 1 7 (r 1 0 + 1) 1 2 = 4 := by rw [upd9_n (by omega)]; exact e2
    have a2 : upd9 m 1 7 (r 1 0 + 1) 4 0 = 5000 := by rw [upd9_n (by omega)]; exact q0
    have a3 : upd9 (upd9 m 1 7 (r 1 0 + 1)) 5000 2 0 1 2 = 4 := by rw [upd9_n (by omega)]; exact a1
    have a4 : upd9 (upd9 m 1 7 (r 1 0 + 1)) 5000 2 0 4 1 = 5010 := by rw [upd9_n (by omega), upd9_n (by omega)]; exact q1
    rw [ht, X11_passTick_12, if_f (by omega), chk_t (by omega), a1, chk_t (by omega), a2, chk_t (by omega), st_e, chk_t (by omega), X11_passTick_12, if_f (by omega), chk_t (by omega), a3, chk_t (by omega)]
    rw [show (0 : Int) + 1 = 1 from rfl, a4, chk_t (by omega), st_e, chk_t (by omega), X11_passTick_12, if_t (by omega)]
  have x2 : ∀ k32 : Int → Rst → Option G2, G_ticksOnce_12 k32 fuel9 0 (ur r 1 0 (r 1 0 + 1)) = k32 0 (ur (ur (ur r 1 0 (r 1 0 + 1)) 36 0 0) 36 1 0) := fun k32 => by
    rw [ht, G_ticksOnce_12, if_f (by omega), chk_t (by omega), stg_e, chk_t (by omega), G_ticksOnce_12, if_f (by omega), chk_t (by omega), stg_e, chk_t (by omega), G_ticksOnce_12, if_t (by omega)]
    rfl
  unfold X11_passTick X11_passTick_0 G_ticksOnce G_ticksOnce_0
  rw [chk_t (by omega), e7, chk_t (by omega), st_e, x1, chk_t (by omega), stg_e, x2]
  generalize upd9 (upd9 (upd9 m 1 7 (r 1 0 + 1)) 5000 2 0) 5010 2 0 = ma at *
  generalize ur (ur (ur r 1 0 (r 1 0 + 1)) 36 0 0) 36 1 0 = ra at *
  have b16 : ra 16 = r 16 := zj 16 (by omega) (by omega)
  obtain ⟨mb, rb, y1, y2, y3, y4, y5, y6⟩ := fire_all (k67 := X11_passTick_67 (X11_passTick_96 fuel9) fuel9) (k102 := G_ticksOnce_102 (G_ticksOnce_165 fuel9) fuel9) (r 16 0).toNat fuel9 fuel9 0 ra ma hz (by rw [b16]; omega) (by omega) (by omega) (by omega)
  have f1 := y4.e
  rw [show (80 : Int) * 0 = 0 from rfl] at y2
  obtain ⟨mc, rc, u1, u2, u3, u4, u5⟩ := lease_all (k96 := X11_passTick_96 fuel9) (k165 := G_ticksOnce_165 fuel9) hN (r 16 0).toNat fuel9 fuel9 0 rb mb y3 (by rw [f1.2.2.1, b16]; omega) (by omega) (by omega) (by omega) (fun w n a b c d e => by omega)
  have f2 := u4.e
  rw [show (80 : Int) * 0 = 0 from rfl] at u2
  obtain ⟨md, rd, v1, v2, v3, v4, v5⟩ := wake_all (r 16 0).toNat fuel9 fuel9 0 rc mc u3 (by rw [f2.2.2.1, f1.2.2.1, b16]; omega) (by omega) (by omega) (by omega) (fun w n a b c d e => by omega)
  rw [show (80 : Int) * 0 = 0 from rfl] at v2
  rw [y1, u1, v1, y2, u2, v2]
  refine ⟨md, rd, rfl, rfl, v3, fun w n a b c d => ⟨fun e => ?_, v5 w n a b c d ?_⟩, fun i a b => ?_, ?_, ?_, ?_⟩
  · have := (h.2.2.rg)
    rw [v4.2.1 16 (by omega)] at b
    rw [v4.2.1 22 (by omega)] at d
    rw [v4.2.1 1 (by omega), v4.2.1 27 (by omega)]
    have lt := (u3.2.2.lt a b).1
    have r10 := u3.2.2.rg.1
    exact u5 w n a b c d (by omega) ((v4.2.2 _).1 e)
  · have lt := (v3.2.2.lt a b).1
    have r10 := v3.2.2.rg.1
    omega
  · rw [v4.1 i a, u4.1 i a, y4.1 i a, rz i a b]
  · rw [v4.2.1 1 (by omega), f2.1, f1.1, z1]
  · rw [v4.2.1 16 (by omega), f2.2.2.1, f1.2.2.1, b16]
  · rw [v4.2.1 0 (by omega), u4.2 0 (by omega) (by omega) (by omega) (by omega) (by omega) (by omega) (by omega) (by omega), y4.2 0 (by omega) (by omega) (by omega) (by omega) (by omega) (by omega) (by omega) (by omega), zj 0 (by omega) (by omega)]
theorem tick_all {l : Int} (hN : N ≤ 600) (hl : l ≤ 50) : ∀ (d t1 t2 : Nat) (n : Int) (r : Rst) (m : Mem), RelC N r m → GT r → l - n = d → 0 ≤ n → (d : Int) < t1 → (d : Int) < t2 → r 1 0 + d ≤ 50 * N → ∃ v m' r', X11_tick_23 t1 1 l n m = some (0, v, m') ∧ G_tick_26 t2 l n r = some (v, r') ∧ RelC N r' m' ∧ GT r' ∧ (∀ i, i < 5000 → i ≠ 1 → m' i = m i) ∧ r' 16 = r 16 ∧ r' 0 = r 0 := by
  intro d
  induction d with
  | zero =>
    intro t1 t2 n r m h tt c0 c1 c2 c3 c4
    obtain ⟨t1, rfl⟩ : ∃ k, t1 = k + 1 := ⟨t1 - 1, by omega⟩
    obtain ⟨t2, rfl⟩ : ∃ k, t2 = k + 1 := ⟨t2 - 1, by omega⟩
    have e7 : m 1 7 = r 1 0 := h.1.1.1.2.2.2.2.2.2.2
    rw [X11_tick_23, G_tick_26, if_t (by omega), chk_t (by omega), e7, if_t (by omega)]
    exact ⟨r 1 0, m, r, rfl, rfl, h, tt, fun _ _ _ => rfl, rfl, rfl⟩
  | succ d ih =>
    intro t1 t2 n r m h tt c0 c1 c2 c3 c4
    obtain ⟨t1, rfl⟩ : ∃ k, t1 = k + 1 := ⟨t1 - 1, by omega⟩
    obtain ⟨t2, rfl⟩ : ∃ k, t2 = k + 1 := ⟨t2 - 1, by omega⟩
    obtain ⟨m1, r1, y1, y2, y3, y4, y5, y6, y7, y8⟩ := h.once tt hN (by omega)
    have e7 : m 1 7 = r 1 0 := h.1.1.1.2.2.2.2.2.2.2
    rw [X11_tick_23, G_tick_26, if_f (by omega), chk_t (by omega), y1, cal_e, chk_t (by omega), if_f (by omega), y2, cag_e, chk_t (by omega)]
    obtain ⟨v, m', r', z1, z2, z3, z4, z5, z6, z7⟩ := ih t1 t2 (n + 1) r1 m1 y3 y4 (by omega) (by omega) (by omega) (by omega) (by rw [y6]; omega)
    exact ⟨v, m', r', z1, z2, z3, z4, fun i a b => by rw [z5 i a b, y5 i a b], z6.trans y7, z7.trans y8⟩
theorem c_tick {l : Int} (h : RelC N r m) (tt : GT r) (hN : N ≤ 599) (h0 : cd 0 = 0) (h2 : cd 2 = 1) : CallR cd N r m (X11_tick 1 l m) (G_tick l r) := by
  have f9 := fuel9_ge
  unfold X11_tick X11_tick_0 G_tick G_tick_0 G_tick_16
  rw [x_isWithin, cal_e, g_isIn, cag_e]
  by_cases d : 1 ≤ l ∧ l ≤ 50
  · rw [if_t d, if_f (by decide), if_f (by decide), g_fine0, cag_e, if_f (by decide)]
    have gn := h.2.2.gn.1
    have hz := (h.mono (N' := N + 1) (by omega)).z0
    have tz : GT (ur r 0 0 0) := tt.fr fun j hj => ur_ne (by omega)
    obtain ⟨v, m', r', z1, z2, z3, z4, z5, z6, z7⟩ := tick_all (by omega) d.2 l.toNat fuel9 fuel9 0 _ m hz tz (by omega) (by omega) (by omega) (by omega) (by rw [ur_ne (by omega)]; omega)
    have m2 : m' (-2) = m (-2) := z5 _ (by omega) (by omega)
    have e16 : r' 16 0 = r 16 0 := by rw [z6, ur_ne (by omega)]
    refine ⟨0, v, m', v, r', z1, z2, Or.inl rfl, ?_, fun _ => rfl, z3, z4, fun i a b => z5 i (by omega) (by omega), z5 _ (by omega) (by omega), z5 _ (by omega) (by omega), ?_, ?_⟩
    · rw [z7, ur_e rfl rfl, h0]
    · rw [m2, e16]; omega
    · rw [m2, e16]; omega
  · rw [if_f d, if_t rfl, if_t rfl, g_fineE (by decide), cag_e, if_t rfl]
    exact CallR.thr h tt (e := 2) rfl (by rw [h2]) (by omega)
end TT
