/-! one call on both sides: step, forget -/
section PS
variable {cd : Int → Int} {N : Int} {r r' : Rst} {m m' : Mem} {w n q k t a b x : Int}
/-- one step, as it may be written -/
def StE (k a b : Int) : Prop := (0 ≤ k ∧ k ≤ 15) ∧ (-99 ≤ a ∧ a ≤ 99) ∧ (-99 ≤ b ∧ b ≤ 100) ∧ (k = 10 → 0 ≤ a ∧ a ≤ 3) ∧ (k = 11 → 1 ≤ a ∧ a ≤ 11) ∧ (k = 5 ∨ k = 10 ∨ k = 6 → 1 ≤ b) ∧ (k = 4 → 1 ≤ a ∧ a ≤ 3) ∧ (k = 2 → 0 ≤ b) ∧ (k = 13 → 1 ≤ a ∧ a ≤ 9) ∧ (k = 12 → 0 ≤ a ∧ a ≤ 1) ∧ (k = 3 → 0 ≤ a ∧ a ≤ 2)
theorem stOk_e (h : stOk k a b) : StE k a b := by
  obtain ⟨c, d, e⟩ := h
  have hk : k = 0 ∨ k = 1 ∨ k = 2 ∨ k = 3 ∨ k = 4 ∨ k = 5 ∨ k = 6 ∨ k = 7 ∨ k = 8 ∨ k = 9 ∨ k = 10 ∨ k = 11 ∨ k = 12 ∨ k = 13 ∨ k = 14 ∨ k = 15 := by omega
  rcases hk with rfl | rfl | rfl | rfl | rfl | rfl | rfl | rfl | rfl | rfl | rfl | rfl | rfl | rfl | rfl | rfl
  · rw [show sar9 1 (Int.toNat 0) = 0 by decide, show sar9 2 (Int.toNat 0) = 5 by decide] at d
    rw [show sar9 3 (Int.toNat 0) = 0 by decide, show sar9 4 (Int.toNat 0) = 1 by decide] at e
    unfold StE; omega
  · rw [show sar9 1 (Int.toNat 1) = 1 by decide, show sar9 2 (Int.toNat 1) = 50 by decide] at d
    rw [show sar9 3 (Int.toNat 1) = 0 by decide, show sar9 4 (Int.toNat 1) = 0 by decide] at e
    unfold StE; omega
  · rw [show sar9 1 (Int.toNat 2) = 0 by decide, show sar9 2 (Int.toNat 2) = 2 by decide] at d
    rw [show sar9 3 (Int.toNat 2) = 0 by decide, show sar9 4 (Int.toNat 2) = 50 by decide] at e
    unfold StE; omega
  · rw [show sar9 1 (Int.toNat 3) = 0 by decide, show sar9 2 (Int.toNat 3) = 2 by decide] at d
    rw [show sar9 3 (Int.toNat 3) = 0 by decide, show sar9 4 (Int.toNat 3) = 2 by decide] at e
    unfold StE; omega
  · rw [show sar9 1 (Int.toNat 4) = 1 by decide, show sar9 2 (Int.toNat 4) = 3 by decide] at d
    rw [show sar9 3 (Int.toNat 4) = 0 by decide, show sar9 4 (Int.toNat 4) = 0 by decide] at e
    unfold StE; omega
  · rw [show sar9 1 (Int.toNat 5) = -99 by decide, show sar9 2 (Int.toNat 5) = 99 by decide] at d
    rw [show sar9 3 (Int.toNat 5) = 1 by decide, show sar9 4 (Int.toNat 5) = 11 by decide] at e
    unfold StE; omega
  · rw [show sar9 1 (Int.toNat 6) = -99 by decide, show sar9 2 (Int.toNat 6) = 99 by decide] at d
    rw [show sar9 3 (Int.toNat 6) = 1 by decide, show sar9 4 (Int.toNat 6) = 11 by decide] at e
    unfold StE; omega
  · rw [show sar9 1 (Int.toNat 7) = -99 by decide, show sar9 2 (Int.toNat 7) = 99 by decide] at d
    rw [show sar9 3 (Int.toNat 7) = 0 by decide, show sar9 4 (Int.toNat 7) = 0 by decide] at e
    unfold StE; omega
  · rw [show sar9 1 (Int.toNat 8) = -99 by decide, show sar9 2 (Int.toNat 8) = 99 by decide] at d
    rw [show sar9 3 (Int.toNat 8) = 0 by decide, show sar9 4 (Int.toNat 8) = 0 by decide] at e
    unfold StE; omega
  · rw [show sar9 1 (Int.toNat 9) = 0 by decide, show sar9 2 (Int.toNat 9) = 5 by decide] at d
    rw [show sar9 3 (Int.toNat 9) = 0 by decide, show sar9 4 (Int.toNat 9) = 1 by decide] at e
    unfold StE; omega
  · rw [show sar9 1 (Int.toNat 10) = 0 by decide, show sar9 2 (Int.toNat 10) = 3 by decide] at d
    rw [show sar9 3 (Int.toNat 10) = 1 by decide, show sar9 4 (Int.toNat 10) = 11 by decide] at e
    unfold StE; omega
  · rw [show sar9 1 (Int.toNat 11) = 1 by decide, show sar9 2 (Int.toNat 11) = 11 by decide] at d
    rw [show sar9 3 (Int.toNat 11) = 0 by decide, show sar9 4 (Int.toNat 11) = 0 by decide] at e
    unfold StE; omega
  · rw [show sar9 1 (Int.toNat 12) = 0 by decide, show sar9 2 (Int.toNat 12) = 1 by decide] at d
    rw [show sar9 3 (Int.toNat 12) = -99 by decide, show sar9 4 (Int.toNat 12) = 100 by decide] at e
    unfold StE; omega
  · rw [show sar9 1 (Int.toNat 13) = 1 by decide, show sar9 2 (Int.toNat 13) = 9 by decide] at d
    rw [show sar9 3 (Int.toNat 13) = 0 by decide, show sar9 4 (Int.toNat 13) = 0 by decide] at e
    unfold StE; omega
  · rw [show sar9 1 (Int.toNat 14) = 0 by decide, show sar9 2 (Int.toNat 14) = 0 by decide] at d
    rw [show sar9 3 (Int.toNat 14) = 0 by decide, show sar9 4 (Int.toNat 14) = 0 by decide] at e
    unfold StE; omega
  · rw [show sar9 1 (Int.toNat 15) = 0 by decide, show sar9 2 (Int.toNat 15) = 0 by decide] at d
    rw [show sar9 3 (Int.toNat 15) = 0 by decide, show sar9 4 (Int.toNat 15) = 0 by decide] at e
    unfold StE; omega
/-- a version's row -/
def PgX (r : Rst) (x : Int) : Prop := 0 ≤ x ∧ x < 15 ∧ 1 ≤ r 5 x ∧ r 5 x ≤ 12 ∧ ∀ s, 0 ≤ s → s < r 5 x →
  0 ≤ r 2 (12 * x + s) ∧ r 2 (12 * x + s) ≤ 15 ∧ -99 ≤ r 3 (12 * x + s) ∧ r 3 (12 * x + s) ≤ 99 ∧ -99 ≤ r 4 (12 * x + s) ∧ r 4 (12 * x + s) ≤ 100 ∧
  (r 2 (12 * x + s) = 10 → 0 ≤ r 3 (12 * x + s) ∧ r 3 (12 * x + s) ≤ 3) ∧ (r 2 (12 * x + s) = 11 → 1 ≤ r 3 (12 * x + s) ∧ r 3 (12 * x + s) ≤ 11) ∧
  (r 2 (12 * x + s) = 5 ∨ r 2 (12 * x + s) = 10 → 1 ≤ r 4 (12 * x + s) ∧ s + 1 + r 4 (12 * x + s) ≤ r 5 x) ∧ (r 2 (12 * x + s) = 6 → 1 ≤ r 4 (12 * x + s) ∧ 0 ≤ s - r 4 (12 * x + s)) ∧
  (r 2 (12 * x + s) = 4 → 1 ≤ r 3 (12 * x + s) ∧ r 3 (12 * x + s) ≤ 3 ∧ s + r 3 (12 * x + s) < r 5 x ∧ ∀ i, 1 ≤ i → i ≤ r 3 (12 * x + s) → r 2 (12 * x + (s + i)) ≤ 3) ∧ (r 2 (12 * x + s) = 2 → 0 ≤ r 4 (12 * x + s)) ∧ (r 2 (12 * x + s) = 13 → 1 ≤ r 3 (12 * x + s) ∧ r 3 (12 * x + s) ≤ 9) ∧ (r 2 (12 * x + s) = 12 → 0 ≤ r 3 (12 * x + s) ∧ r 3 (12 * x + s) ≤ 1)
theorem pgx : PgR (ur r 77 0 x) ↔ PgX r x := by
  unfold PgR PgX
  rw [ur_e (j := 77) (a := 77) rfl rfl, ur_ne (j := 77) (a := 5) (by omega), ur_ne (j := 77) (a := 2) (by omega), ur_ne (j := 77) (a := 3) (by omega), ur_ne (j := 77) (a := 4) (by omega)]
theorem PgX.fr (h : PgX r x) (e5 : r' 5 x = r 5 x) (er : ∀ (j : Nat) i, 2 ≤ j → j ≤ 4 → 12 * x ≤ i → i < 12 * x + r 5 x → r' j i = r j i) : PgX r' x := by
  obtain ⟨a1, a2, a3, a4, a5⟩ := h
  unfold PgX
  rw [e5]
  refine ⟨a1, a2, a3, a4, fun s s0 s1 => ?_⟩
  rw [er 2 (12 * x + s) (by omega) (by omega) (by omega) (by omega), er 3 (12 * x + s) (by omega) (by omega) (by omega) (by omega), er 4 (12 * x + s) (by omega) (by omega) (by omega) (by omega)]
  obtain ⟨b1, b2, b3, b4, b5, b6, b7, b8, b9, c1, c2, c3⟩ := a5 s s0 s1
  refine ⟨b1, b2, b3, b4, b5, b6, b7, b8, b9, c1, fun h => ?_, c3⟩
  obtain ⟨d1, d2, d3, d4⟩ := c2 h
  refine ⟨d1, d2, d3, fun i i0 i1 => ?_⟩
  rw [er 2 _ (by omega) (by omega) (by omega) (by omega)]
  exact d4 i i0 i1
theorem Pm.fr2 {P row : Int} (h : Pm r m P row) (em : ∀ i, P ≤ i → i ≤ P + 3 → m' i = m i) (e5 : r' 5 row = r 5 row) (er : ∀ (j : Nat) i, 2 ≤ j → j ≤ 4 → 12 * row ≤ i → i < 12 * row + r 5 row → r' j i = r j i) : Pm r' m' P row := by
  unfold Pm at *
  rw [em P (by omega) (by omega), em (P + 1) (by omega) (by omega), em (P + 2) (by omega) (by omega), em (P + 3) (by omega) (by omega), e5]
  refine ⟨h.1, fun s a b => ?_⟩
  rw [er 2 _ (by omega) (by omega) (by omega) (by omega), er 3 _ (by omega) (by omega) (by omega) (by omega), er 4 _ (by omega) (by omega) (by omega) (by omega)]
  exact h.2 s a b
theorem GI.gp (h : GI N r) : GP r := h.2.1
theorem GI.b12 (h : GI N r) {s : Int} (a : 0 ≤ s) (b : s < 3) (c : 0 ≤ k) (d : k ≤ r 6 s) : 0 ≤ r 5 (rowk r s k) ∧ r 5 (rowk r s k) ≤ 12 := by
  have p := h.gp.2 s a b
  unfold rowk
  by_cases e : k < r 6 s
  · rw [if_t e]
    have q := pgx.1 (p.2.2 (k + 1) (by omega) (by omega))
    rw [show 5 * s + (k + 1) - 1 = 5 * s + k by omega] at q
    have := q.2.2.1
    exact ⟨by omega, q.2.2.2.1⟩
  · rw [if_f e]
    exact ⟨p.2.1.1, p.2.1.2.1⟩
theorem GI.prog (h : GI N r) (e : ∀ j : Nat, j = 1 ∨ 7 ≤ j → r' j = r j) (gp : GP r') : GI N r' := by
  obtain ⟨c1, c2, c3, c4, c5, c6, c7, c8, c9⟩ := h
  refine ⟨by rw [e 16 (by omega)]; exact c1, gp, ?_, ?_, ?_, fun w a b => ?_, ?_, ?_, ?_⟩
  · unfold Fb Pt at *
    rw [e 60 (by omega), e 61 (by omega), e 62 (by omega), e 66 (by omega), e 78 (by omega), e 79 (by omega)]
    exact c3
  · unfold GW at *
    rw [e 16 (by omega), e 7 (by omega), e 8 (by omega), e 12 (by omega)]
    exact c4
  · unfold GU at *
    rw [e 16 (by omega), e 12 (by omega), e 13 (by omega), e 18 (by omega)]
    exact c5
  · rw [e 16 (by omega)] at b
    have e9 : ∀ w, rw9 r' w = rw9 r w := fun w => by unfold rw9; rw [e 12 (by omega)]
    exact (c6 w a b).fr (by rw [e 12 (by omega)]) (by rw [e 18 (by omega)]) (fun j i c d _ _ => by rw [e j (by omega)]) (by rw [e 22 (by omega)]) (by rw [e 30 (by omega)]) (by rw [e 32 (by omega)]) (Or.inl (by rw [e 17 (by omega)])) (fun n c d g => by rw [e 23 (by omega)]; exact g) (fun n c d => by rw [e 33 (by omega)]) (fun n c d g k => by rw [e9, e 17 (by omega)]; exact k)
  · unfold GC at *
    rw [e 16 (by omega), e 32 (by omega), e 33 (by omega), e 9 (by omega), e 10 (by omega), e 11 (by omega), e 12 (by omega)]
    exact c7
  · unfold GK at *
    rw [e 38 (by omega), e 39 (by omega), e 23 (by omega), e 16 (by omega), e 22 (by omega), e 25 (by omega), e 26 (by omega), e 27 (by omega), e 1 (by omega)]
    exact c8
  · unfold GN at *
    rw [e 1 (by omega), e 29 (by omega), e 36 (by omega), e 37 (by omega)]
    exact c9
/-- what is told, in both -/
theorem RelM.told (h : RelM r m) (t0 : 0 ≤ t) (t1 : t < 3) (g : Rg r) : (m (1000 * (t + 1)) 1 = r 6 t ∧ m (1000 * (t + 1)) 2 = 1000 * (t + 1) + 10 * (r 6 t + 1)) ∧ Pm r m (1000 * (t + 1) + 10 * (r 6 t + 1)) (5 * t + 4) := by
  have f := h.2.2.1 t t0 t1
  have g6 := g.2.1 t t0 t1
  have p := f.2.2 (r 6 t) (by omega) (by omega)
  unfold rowk at p
  rw [if_f (by omega)] at p
  exact ⟨⟨f.1.2.2.1, f.1.2.2.2⟩, p⟩
/-- the told row alone changes -/
theorem RelC.told (h : RelC N r m) (t0 : 0 ≤ t) (t1 : t < 3) (em : ∀ i, ¬ (1000 * (t + 1) + 10 * (r 6 t + 1) ≤ i ∧ i ≤ 1000 * (t + 1) + 10 * (r 6 t + 1) + 3) → m' i = m i) (er : ∀ (j : Nat) i, ¬ (j = 0 ∨ (2 ≤ j ∧ j ≤ 4 ∧ 60 * t + 48 ≤ i ∧ i < 60 * t + 60) ∨ (j = 5 ∧ i = 5 * t + 4)) → r' j i = r j i) (pm : Pm r' m' (1000 * (t + 1) + 10 * (r 6 t + 1)) (5 * t + 4)) (b5 : 0 ≤ r' 5 (5 * t + 4) ∧ r' 5 (5 * t + 4) ≤ 12 ∧ (r 6 t = 4 → r' 5 (5 * t + 4) = 0)) (st : StC r') : RelC N r' m' := by
  have g := h.2.2.rg
  have g6 := g.2.1 t t0 t1
  have e6 : ∀ s, r' 6 s = r 6 s := fun s => er 6 s (by omega)
  have b10 := g.1
  have ef : ∀ j : Nat, j = 1 ∨ 7 ≤ j → r' j = r j := fun j hj => by
    funext i
    exact er j i (by omega)
  refine h.mk (rel_fm h.1 g (fun s k a b c d => (h.2.2.b12 a b c d).2) t0 t1 (fun i a b c => em i (by omega)) (fun i c => by rw [em (-1) (by omega)]) (fun j i hj => er j i (by omega)) ?_ (fun i a b => ?_)) (h.2.2.prog ef ⟨st, fun s a b => ?_⟩) (fun w a b => em _ ?_) fun j hj => ef j (by omega)
  · have f := h.1.2.2.1 t t0 t1
    unfold Fm at *
    rw [e6, em 2 (by omega), em (1000 * (t + 1)) (by omega), em (1000 * (t + 1) + 1) (by omega)]
    refine ⟨f.1, f.2.1, fun k k0 k1 => ?_⟩
    by_cases c : k < r 6 t
    · have p := f.2.2 k k0 k1
      have b := h.2.2.b12 t0 t1 k0 k1
      unfold rowk at *
      rw [e6, if_t c] at *
      exact p.fr2 (fun i a b => em i (by omega)) (er 5 _ (by omega)) fun j i a b c d => er j i (by omega)
    · unfold rowk
      rw [e6, if_f c, show k = r 6 t by omega]
      exact pm
  · rw [e6] at a
    rw [em (-1) (by omega)]
    exact h.1.2.2.2.2.2.2.2.2.2 t t0 t1 i a b
  · have p := h.2.2.gp.2 s a b
    rw [e6]
    refine ⟨p.1, ?_, fun v v0 v1 => ?_⟩
    · by_cases c : s = t
      · rw [c]; exact b5
      · rw [er 5 _ (by omega)]; exact p.2.1
    · have q := pgx.1 (p.2.2 v v0 v1)
      have q4 := q.2.2.2.1
      exact pgx.2 (q.fr (er 5 _ (by omega)) fun j i c d e f => er j i (by omega))
  · have s1 := (g.2.2 w a b).1
    have eR : Rl r w = 100000 * (w + 1) + 10000 * r 12 w := rfl
    omega
theorem CallR.own2 {o : Option R3} {g : Option G2} (h : RelC N r m) {v : Int} {m' : Mem} {r' : Rst} (ho : o = some (0, v, m')) (hg : g = some (v, r')) (h' : RelC N r' m') (t' : GT r') (e0 : r' 0 0 = cd 0) (em : ∀ i, i < 1000 → m' i = m i) (e16 : r' 16 0 = r 16 0) : CallR cd N r m o g := by
  refine ⟨0, v, m', v, r', ho, hg, Or.inl rfl, e0, fun _ => rfl, h'.mono (by omega), t', fun i a b => em i (by omega), em _ (by omega), em _ (by omega), ?_, ?_⟩
  · rw [em _ (by omega)]; omega
  · rw [em _ (by omega)]; omega
theorem c_forget (h : RelC N r m) (tt : GT r) (h0 : cd 0 = 0) (h1 : cd 1 = 1) : CallR cd N r m (X11_forget 1 t m) (G_forget t r) := by
  have g := h.2.2.rg
  unfold X11_forget X11_forget_0 G_forget G_forget_0 G_forget_13
  rw [chk_t (by omega), x_familyOf h.1, g_isType, cag_e]
  by_cases c : 0 ≤ t ∧ t ≤ 2
  · have g6 := g.2.1 t c.1 (by omega)
    have td := h.1.told c.1 (by omega) g
    have hz := h.z0
    rw [if_t c, if_t c, calX_0, chk_t (by omega), td.1.2, chk_t (by omega), td.2.1.2.2.2, st_e, if_f (by decide), g_fine0, cag_e, if_f (by decide), g_rowOf c.1 (by omega) (by omega) (by omega), cag_e, chk_t (by omega), g_rowOf c.1 (by omega) (by omega) (by omega), cag_e, chk_t (by omega), stg_e, show 5 * t + 5 - 1 = 5 * t + 4 by omega]
    have er : ∀ (j : Nat) i, ¬ (j = 0 ∨ (j = 5 ∧ i = 5 * t + 4)) → ur (ur r 0 0 0) 5 (5 * t + 4) 0 j i = r j i := fun j i hj => by rw [ur_n (by omega), ur_n (by omega)]
    have e5 : ur (ur r 0 0 0) 5 (5 * t + 4) 0 5 (5 * t + 4) = 0 := ur_e rfl rfl
    have em : ∀ i, i ≠ 1000 * (t + 1) + 10 * (r 6 t + 1) → upd9 m (1000 * (t + 1) + 10 * (r 6 t + 1)) 3 0 i = m i := fun i hi => upd9_row hi
    refine CallR.own2 h rfl (by rw [ur_n (by omega)]) (h.told c.1 (by omega) (fun i hi => em i (by omega)) (fun j i hj => er j i (by omega)) ?_ (by rw [e5]; omega) ?_) (tt.fr fun j hj => ?_) ?_ (fun i hi => em i (by omega)) (er 16 0 (by omega))
    · unfold Pm
      rw [e5]
      refine ⟨⟨?_, ?_, ?_, ?_⟩, fun s a b => by omega⟩
      · rw [upd9_n (by omega)]; exact td.2.1.1
      · rw [upd9_n (by omega)]; exact td.2.1.2.1
      · rw [upd9_n (by omega)]; exact td.2.1.2.2.1
      · exact upd9_e rfl rfl
    · have := h.2.2.gp.1
      unfold StC at *
      intro i i0 i1
      rw [er 2 i (by omega), er 3 i (by omega), er 4 i (by omega)]
      exact this i i0 i1
    · funext i
      exact er j i (by omega)
    · rw [ur_n (by omega), ur_e rfl rfl, h0]
  · rw [if_f c, if_f c, calX_e (by decide), if_t rfl, g_fineE (by decide), cag_e, if_t rfl]
    exact CallR.thr h tt (e := 1) rfl (by rw [h1]) (Or.inl rfl)
theorem c_step (h : RelC N r m) (tt : GT r) (h0 : cd 0 = 0) (h1 : cd 1 = 1) (h2 : cd 2 = 2) (h3 : cd 3 = 3) : CallR cd N r m (X11_step 1 t k a b m) (G_step t k a b r) := by
  have g := h.2.2.rg
  unfold X11_step X11_step_0 G_step G_step_0
  rw [chk_t (by omega), x_familyOf h.1, g_isType, cag_e]
  by_cases c : 0 ≤ t ∧ t ≤ 2
  · have g6 := g.2.1 t c.1 (by omega)
    have td := h.1.told c.1 (by omega) g
    have gp := h.2.2.gp.2 t c.1 (by omega)
    have P3 := td.2.1.2.2.2
    rw [if_t c, if_t c, calX_0, x_isStep, cal_e, if_f (show ¬ (1 : Int) = 0 by decide), g_rowOf c.1 (by omega) (by omega) (by omega), cag_e, show 5 * t + 5 - 1 = 5 * t + 4 by omega]
    unfold G_step_20 G_step_73
    rw [if_f (show ¬ (1 : Int) = 0 by decide), g_isStep, cag_e]
    by_cases d : stOk k a b
    · have se := stOk_e d
      rw [if_t d, if_f (show ¬ (1 : Int) = 0 by decide), if_f (show ¬ (1 : Int) = 0 by decide), chk_t (by omega), td.1.1, td.1.2, P3, chk_t (by omega)]
      by_cases e : r 5 (5 * t + 4) = 12
      · rw [if_t e, g_fineE (by decide), cag_e, if_t rfl, chk_t (by omega), if_f (show ¬ r 5 (5 * t + 4) < 12 by omega)]
        refine CallR.thr h tt (e := 3) ?_ (by rw [h3]) (by omega)
        split <;> rfl
      · rw [if_f e, chk_t (by omega), chk_t (by omega)]
        by_cases f : r 6 t = 4
        · rw [if_t f, if_t (by omega), g_fineE (by decide), cag_e, if_t rfl]
          exact CallR.thr h tt (e := 3) rfl (by rw [h3]) (by omega)
        · rw [if_f f, if_f (show ¬ 4 ≤ r 6 t by omega), if_t (show r 5 (5 * t + 4) < 12 by omega), g_fine0, cag_e, if_f (by decide)]
          have a0 := td.2.1.1
          have a1 := td.2.1.2.1
          have a2 := td.2.1.2.2.1
          have td1 := td.1.1
          have td2 := td.1.2
          have tdr := td.2.2
          generalize hP : 1000 * (t + 1) + 10 * (r 6 t + 1) = P at *
          generalize hC : r 5 (5 * t + 4) = C at *
          have bC : 0 ≤ C ∧ C ≤ 11 := by omega
          have bP : 1000 ≤ P ∧ P < 5000 := by omega
          have xe : X5_add P k a b m = some (0, upd9 (upd9 (upd9 (upd9 m (P + 1) C k) (P + 2) C a) (P + 3) C b) P 3 (C + 1)) := by
            unfold X5_add X5_add_0
            rw [chk_t (by omega), P3, if_f (by omega), a0, chk_t (by omega), st_e]
            have b1 : upd9 m (P + 1) C k P 1 = P + 2 := by rw [upd9_n (by omega)]; exact a1
            have b3 : upd9 m (P + 1) C k P 3 = C := by rw [upd9_n (by omega)]; exact P3
            rw [b1, b3, chk_t (by omega), st_e]
            have c1 : upd9 (upd9 m (P + 1) C k) (P + 2) C a P 2 = P + 3 := by rw [upd9_n (by omega), upd9_n (by omega)]; exact a2
            have c3 : upd9 (upd9 m (P + 1) C k) (P + 2) C a P 3 = C := by rw [upd9_n (by omega)]; exact b3
            rw [c1, c3, chk_t (by omega), st_e]
            have d3 : upd9 (upd9 (upd9 m (P + 1) C k) (P + 2) C a) (P + 3) C b P 3 = C := by rw [upd9_n (by omega)]; exact c3
            rw [d3, chk_t (by omega), st_e]
          rw [xe, cal_e]
          have z5 : ur r 0 0 0 5 (5 * t + 4) = C := by rw [ur_n (by omega)]; exact hC
          have y5 : ur (ur r 0 0 0) 2 (12 * (5 * t + 4) + C) k 5 (5 * t + 4) = C := by rw [ur_n (by omega)]; exact z5
          have x5 : ur (ur (ur r 0 0 0) 2 (12 * (5 * t + 4) + C) k) 3 (12 * (5 * t + 4) + C) a 5 (5 * t + 4) = C := by rw [ur_n (by omega)]; exact y5
          have w5 : ur (ur (ur (ur r 0 0 0) 2 (12 * (5 * t + 4) + C) k) 3 (12 * (5 * t + 4) + C) a) 4 (12 * (5 * t + 4) + C) b 5 (5 * t + 4) = C := by rw [ur_n (by omega)]; exact x5
          have m2 : upd9 (upd9 (upd9 (upd9 m (P + 1) C k) (P + 2) C a) (P + 3) C b) P 3 (C + 1) (1000 * (t + 1)) 2 = P := by rw [upd9_n (by omega), upd9_n (by omega), upd9_n (by omega), upd9_n (by omega)]; exact td2
          have m3 : upd9 (upd9 (upd9 (upd9 m (P + 1) C k) (P + 2) C a) (P + 3) C b) P 3 (C + 1) P 3 = C + 1 := upd9_e rfl rfl
          rw [m2, chk_t (by omega), m3]
          rw [chk_t (by omega), chk_t (by omega), z5, chk_t (by omega), chk_t (by omega), stg_e, chk_t (by omega), chk_t (by omega), y5, chk_t (by omega), chk_t (by omega), stg_e, chk_t (by omega), chk_t (by omega), x5, chk_t (by omega), chk_t (by omega), stg_e, chk_t (by omega), w5, chk_t (by omega), chk_t (by omega), stg_e, chk_t (by omega)]
          have r5 : ur (ur (ur (ur (ur r 0 0 0) 2 (12 * (5 * t + 4) + C) k) 3 (12 * (5 * t + 4) + C) a) 4 (12 * (5 * t + 4) + C) b) 5 (5 * t + 4) (C + 1) 5 (5 * t + 4) = C + 1 := ur_e rfl rfl
          have er : ∀ (j : Nat) i, ¬ (j = 0 ∨ (2 ≤ j ∧ j ≤ 4 ∧ i = 12 * (5 * t + 4) + C) ∨ (j = 5 ∧ i = 5 * t + 4)) → ur (ur (ur (ur (ur r 0 0 0) 2 (12 * (5 * t + 4) + C) k) 3 (12 * (5 * t + 4) + C) a) 4 (12 * (5 * t + 4) + C) b) 5 (5 * t + 4) (C + 1) j i = r j i := fun j i hj => by rw [ur_n (by omega), ur_n (by omega), ur_n (by omega), ur_n (by omega), ur_n (by omega)]
          have v2 : ur (ur (ur (ur (ur r 0 0 0) 2 (12 * (5 * t + 4) + C) k) 3 (12 * (5 * t + 4) + C) a) 4 (12 * (5 * t + 4) + C) b) 5 (5 * t + 4) (C + 1) 2 (12 * (5 * t + 4) + C) = k := by rw [ur_n (by omega), ur_n (by omega), ur_n (by omega), ur_e rfl rfl]
          have v3 : ur (ur (ur (ur (ur r 0 0 0) 2 (12 * (5 * t + 4) + C) k) 3 (12 * (5 * t + 4) + C) a) 4 (12 * (5 * t + 4) + C) b) 5 (5 * t + 4) (C + 1) 3 (12 * (5 * t + 4) + C) = a := by rw [ur_n (by omega), ur_n (by omega), ur_e rfl rfl]
          have v4 : ur (ur (ur (ur (ur r 0 0 0) 2 (12 * (5 * t + 4) + C) k) 3 (12 * (5 * t + 4) + C) a) 4 (12 * (5 * t + 4) + C) b) 5 (5 * t + 4) (C + 1) 4 (12 * (5 * t + 4) + C) = b := by rw [ur_n (by omega), ur_e rfl rfl]
          have v0 : ur (ur (ur (ur (ur r 0 0 0) 2 (12 * (5 * t + 4) + C) k) 3 (12 * (5 * t + 4) + C) a) 4 (12 * (5 * t + 4) + C) b) 5 (5 * t + 4) (C + 1) 0 0 = 0 := by rw [ur_n (by omega), ur_n (by omega), ur_n (by omega), ur_n (by omega), ur_e rfl rfl]
          have em : ∀ i, ¬ (P ≤ i ∧ i ≤ P + 3) → upd9 (upd9 (upd9 (upd9 m (P + 1) C k) (P + 2) C a) (P + 3) C b) P 3 (C + 1) i = m i := fun i hi => by rw [upd9_row (by omega), upd9_row (by omega), upd9_row (by omega), upd9_row (by omega)]
          refine CallR.own2 h rfl (by rw [r5]) (h.told c.1 (by omega) (fun i hi => em i (by omega)) (fun j i hj => er j i (by omega)) ?_ (by rw [r5]; omega) ?_) (tt.fr fun j hj => ?_) (by rw [v0, h0]) (fun i hi => em i (by omega)) (er 16 0 (by omega))
          · rw [hP]
            unfold Pm
            rw [r5]
            refine ⟨⟨?_, ?_, ?_, ?_⟩, fun s s0 s1 => ?_⟩
            · rw [upd9_n (by omega), upd9_n (by omega), upd9_n (by omega), upd9_n (by omega)]; exact a0
            · rw [upd9_n (by omega), upd9_n (by omega), upd9_n (by omega), upd9_n (by omega)]; exact a1
            · rw [upd9_n (by omega), upd9_n (by omega), upd9_n (by omega), upd9_n (by omega)]; exact a2
            · exact upd9_e rfl rfl
            · by_cases l : s = C
              · rw [l, v2, v3, v4]
                refine ⟨?_, ?_, ?_⟩
                · rw [upd9_n (by omega), upd9_n (by omega), upd9_n (by omega), upd9_e rfl rfl]
                · rw [upd9_n (by omega), upd9_n (by omega), upd9_e rfl rfl]
                · rw [upd9_n (by omega), upd9_e rfl rfl]
              · rw [er 2 _ (by omega), er 3 _ (by omega), er 4 _ (by omega)]
                have q := tdr s s0 (by omega)
                refine ⟨?_, ?_, ?_⟩
                · rw [upd9_n (by omega), upd9_n (by omega), upd9_n (by omega), upd9_n (by omega)]; exact q.1
                · rw [upd9_n (by omega), upd9_n (by omega), upd9_n (by omega), upd9_n (by omega)]; exact q.2.1
                · rw [upd9_n (by omega), upd9_n (by omega), upd9_n (by omega), upd9_n (by omega)]; exact q.2.2
          · have st := h.2.2.gp.1
            unfold StC at *
            intro i i0 i1
            by_cases l : i = 12 * (5 * t + 4) + C
            · rw [l, v2, v3, v4]
              exact se
            · rw [er 2 i (by omega), er 3 i (by omega), er 4 i (by omega)]
              exact st i i0 i1
          · funext i
            exact er j i (by omega)
    · rw [if_f d, if_t rfl, if_t rfl, g_fineE (by decide), cag_e, if_t rfl]
      exact CallR.thr h tt (e := 2) rfl (by rw [h2]) (by omega)
  · unfold G_step_20 G_step_73
    rw [if_f c, if_f c, calX_e (by decide), if_t rfl, if_t rfl, g_fineE (by decide), cag_e, if_t rfl]
    exact CallR.thr h tt (e := 1) rfl (by rw [h1]) (Or.inl rfl)
end PS
