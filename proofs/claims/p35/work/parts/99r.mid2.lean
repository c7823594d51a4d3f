/-! the middle of a decide: what changes one thing -/
section ML
variable {N N' : Int} {uf : Int → Int} {r r' r1 r2 : Rst} {m m' : Mem} {w n k x y q s b c a v row : Int}
theorem caw_put (g : Rg r) (h : ∀ w, 0 ≤ w → w < r 16 0 → CaW r m w ∧ m (Rl r w) 6 = uf w) (hk6 : k ≠ 6) (w0 : 0 ≤ w) (w1 : w < r 16 0) (b80 : r 18 (rw9 r w) < 80) : ∀ w2, 0 ≤ w2 → w2 < r 16 0 → CaW (wr w k x y r) (put9 (Rl r w + 1) k x y m) w2 ∧ put9 (Rl r w + 1) k x y m (Rl (wr w k x y r) w2) 6 = uf w2 := fun w2 c d => by
  have u := h w2 c d
  refine ⟨u.1.ev g hk6 w0 w1 c d b80, ?_⟩
  have s := g.2.2 w w0 w1
  have s2 := g.2.2 w2 c d
  have t1 := s.1
  have t2 := s.2.1
  have t3 := s2.1
  have t4 := s2.2.1
  have eR : Rl r w = 100000 * (w + 1) + 10000 * r 12 w := rfl
  have eR2 : Rl r w2 = 100000 * (w2 + 1) + 10000 * r 12 w2 := rfl
  rw [Rl_wr]
  unfold put9
  by_cases e : w2 = w
  · subst e
    rw [upd9_n (by omega), upd9_n (by omega), upd9_n (by omega), upd9_n (by omega)]
    exact u.2
  · rw [upd9_n (by omega), upd9_n (by omega), upd9_n (by omega), upd9_n (by omega)]
    exact u.2
/-- an event is put down, and more is done that touches no history -/
theorem RelK.comb (h : RelK N uf r m) (w0 : 0 ≤ w) (w1 : w < r 16 0) (b80 : r 18 (rw9 r w) < 80) (hk6 : k ≠ 6) (h1 : RelM r' m') (g' : GI N' r') (em : ∀ w2, 0 ≤ w2 → w2 < r 16 0 → m' (Rl r w2) 10 = put9 (Rl r w + 1) k x y m (Rl r w2) 10 ∧ m' (Rl r w2) 6 = put9 (Rl r w + 1) k x y m (Rl r w2) 6) (er : ∀ j : Nat, j = 12 ∨ j = 16 ∨ j = 18 ∨ j = 19 → r' j = wr w k x y r j) : RelK N' uf r' m' := by
  refine ⟨h1, fun w2 a b => ?_, g'⟩
  have e12 : wr w k x y r 12 = r 12 := wr_n (by omega)
  rw [er 16 (by omega), wr_n (by omega)] at b
  have u := caw_put (x := x) (y := y) h.2.2.rg h.2.1 hk6 w0 w1 b80 w2 a b
  have e := em w2 a b
  unfold CaW hk rw9 Rl at *
  rw [er 12 (by omega), er 18 (by omega), er 19 (by omega), e12] at *
  rw [e12] at u
  rw [e.1, e.2]
  exact u
theorem RelK.put (h : RelK N uf r m) (w0 : 0 ≤ w) (w1 : w < r 16 0) (hr : r 17 (rw9 r w) = 20) (b80 : r 18 (rw9 r w) < 80) (hk9 : k = 7 ∨ k = 9 ∨ k = 11 ∨ k = 13 ∨ k = 14) (hl : 7 < k → 7 ≤ hk r w (r 18 (rw9 r w) - 1)) : RelK N uf (wr w k x y r) (put9 (Rl r w + 1) k x y m) := by
  have g := h.2.2.rg
  have b10 := g.1
  have s := g.2.2 w w0 w1
  have s1 := s.1
  have s2 := s.2.1
  have lt := h.2.2.lt w0 w1
  have ew : rw9 r w = 9 * w + r 12 w - 1 := rfl
  have z : pA k = false ∧ pT k = false ∧ pM k = false := by
    rcases hk9 with rfl | rfl | rfl | rfl | rfl <;> exact ⟨rfl, rfl, rfl⟩
  have zi : ∀ p : Int → Bool, p k = false → (if p k = true then (1 : Int) else 0) = 0 := fun p e => by rw [e]; rfl
  have gi := h.2.2
  have hi := gi.hi w0 w1
  refine ⟨rel_put h.1 g w0 w1 b80, fun w2 a b => caw_put g h.2.1 (by omega) w0 w1 b80 w2 a (by rw [wr_n (by omega)] at b; exact b), gi.own w0 w1 (fun j a b c d e => wr_n (by omega)) ?_ (fun i a => by rw [wr_n (by omega)]) (fun i a => by rw [wr_n (by omega)]) (Or.inl (by rw [wr_n (by omega)])) (fun i a => wr_o (by omega) (by omega)) (fun j i a b c => wr_o (by omega) (by omega)) (fun j i a b => by rw [wr_n (by omega)]) (fun j i a b => by rw [wr_n (by omega)]) ?_ (by rw [wr_n (by omega)]; exact Int.le_refl _) (fun n a b => by rw [wr_n (by omega)]) (fun n a b => by rw [wr_n (by omega)] at b; omega) (fun n a b => ?_) (fun q a b => ?_) ?_⟩
  · have f := h.2.2.2.2.1
    unfold Fb Pt at *
    simp (disch := omega) only [wr_n]
    exact f
  · refine hi.app (k := k) (b := r 18 (rw9 r w)) rfl b80 hr (by omega) (by omega) (fun e => by omega) hl (by rw [wr_n (by omega)]) wr_18 wr_v.1 (fun j i a b c d => wr_o (by omega) (by omega)) (by rw [wr_n (by omega), zi _ z.1]; omega) (by rw [wr_n (by omega), zi _ z.2.1]; omega) (by rw [wr_n (by omega), zi _ z.2.2]; omega) (fun n a b e => by rw [wr_n (by omega)]; exact e) (fun n a b => by rw [wr_n (by omega)]) (fun n a b e f => by rw [rw9_wr, wr_n (by omega)]; exact f)
  · rw [wr_n (by omega)] at b
    rw [wr_n (by omega), wr_n (by omega), wr_n (by omega), wr_n (by omega)]
    exact gi.2.2.2.2.2.2.2.1.2 w n w0 w1 a b
  · rw [wr_n (by omega), wr_n (by omega)]
    exact (gi.2.2.2.2.2.2.2.1.1 q a b).2
  · rw [wr_n (by omega)]
    exact gi.2.2.2.2.2.2.2.2.2.1
/-- an activity is over -/
def Off (w n : Int) (r r' : Rst) : Prop := (∀ j : Nat, j ≠ 39 → j ≠ 23 → r' j = r j) ∧ (∀ i, r' 23 i = if i = 80 * w + n then 0 else r 23 i) ∧ ∀ i, r' 39 i = if 0 ≤ i ∧ i < 4 ∧ r 39 i = 80 * w + n then -1 else r 39 i
theorem Off.uniq (h1 : Off w n r r1) (h2 : Off w n r r2) : r1 = r2 := by
  funext j
  by_cases c : j = 39
  · subst c
    funext i
    rw [h1.2.2, h2.2.2]
  · by_cases d : j = 23
    · subst d
      funext i
      rw [h1.2.1, h2.2.1]
    · rw [h1.1 j c d, h2.1 j c d]
theorem Off.ov (h : Off w n r r') : Off w n (ur r 18 row c) (ur r' 18 row c) := by
  refine ⟨fun j a b => ?_, fun i => ?_, fun i => ?_⟩
  · funext i
    by_cases e : j = 18 ∧ i = row
    · rw [ur_e e.1 e.2, ur_e e.1 e.2]
    · rw [ur_n (by omega), ur_n (by omega), h.1 j a b]
  · rw [ur_n (by omega), ur_n (by omega)]; exact h.2.1 i
  · rw [ur_n (by omega), ur_n (by omega)]; exact h.2.2 i
theorem g_off (hw : 0 ≤ w ∧ w < 10) (hn : 0 ≤ n ∧ n < 80) : ∃ r', G_takesOff w n r = some (0, r') ∧ Off w n r r' := by
  obtain ⟨r', y1, y2, y3, y4, y5, y6⟩ := g_takesOff (r := r) hw hn
  refine ⟨r', y1, y2, fun i => ?_, fun i => ?_⟩
  · by_cases c : i = 80 * w + n
    · rw [if_t c, c, y4]
    · rw [if_f c, y3 i c]
  · by_cases c : 0 ≤ i ∧ i < 4
    · rw [y6 i c.1 c.2]
      by_cases d : r 39 i = 80 * w + n
      · rw [if_t d, if_t ⟨c.1, c.2, d⟩]
      · rw [if_f d, if_f (fun hh => d hh.2.2)]
    · rw [y5 i (by omega), if_f (fun hh => c ⟨hh.1, hh.2.1⟩)]
theorem RelK.off (h : RelK N uf r m) (w0 : 0 ≤ w) (w1 : w < r 16 0) (n0 : 0 ≤ n) (n1 : n < r 22 w) : ∃ m' r', X11_takeOff 1 (Rl r w + 100 + n) m = some (0, m') ∧ Off w n r r' ∧ RelK N uf r' m' ∧ (∀ i, (i < 5100 ∨ 5104 ≤ i) → i ≠ Rl r w + 100 + n → m' i = m i) := by
  have g := h.2.2.rg
  have b10 := g.1
  have s := g.2.2 w w0 w1
  have s1 := s.1
  have s2 := s.2.1
  have lt := h.2.2.lt w0 w1
  obtain ⟨m', r', y1, y2, y3, y4, y5, y6, y7, y8, y9, y10⟩ := rel_off h.1 g w0 w1 n0 n1
  obtain ⟨r3, z1, z2⟩ := g_off (r := r) (w := w) (n := n) (by omega) (by omega)
  have e3 : r3 = r' := by
    rw [y2] at z1
    injection z1 with z1
    injection z1 with _ z1
    exact z1.symm
  subst e3
  have gi := h.2.2
  have hi := gi.hi w0 w1
  have ew : rw9 r w = 9 * w + r 12 w - 1 := rfl
  have eR : Rl r w = 100000 * (w + 1) + 10000 * r 12 w := rfl
  refine ⟨m', r3, y1, z2, h.mk y3 (gi.own w0 w1 (fun j a b c d e => y6 j e (by omega)) ?_ (fun i a => by rw [y6 13 (by omega) (by omega)]) (fun i a => by rw [y6 17 (by omega) (by omega)]) (Or.inl (by rw [y6 17 (by omega) (by omega)])) (fun i a => by rw [y6 18 (by omega) (by omega)]) (fun j i a b c => by rw [y6 j (by omega) (by omega)]) (fun j i a b => by rw [y6 j (by omega) (by omega)]) (fun j i a b => ?_) ?_ (by rw [y6 32 (by omega) (by omega)]; exact Int.le_refl _) (fun n a b => by rw [y6 33 (by omega) (by omega)]) (fun n a b => by rw [y6 32 (by omega) (by omega)] at b; omega) (fun n2 a b => ?_) (fun q a b => ?_) ?_) (fun w2 a b => ?_) (fun j hj => y6 j (by omega) (by omega)), y4⟩
  · have f := h.2.2.2.2.1
    unfold Fb Pt at *
    simp (disch := omega) only [y6]
    exact f
  · by_cases c : j = 23
    · rw [c, y7 i (by omega)]
    · rw [y6 j (by omega) c]
  · refine hi.fr (by rw [y6 12 (by omega) (by omega)]) (by rw [y6 18 (by omega) (by omega)]) (fun j i a b c d => by rw [y6 j (by omega) (by omega)]) (by rw [y6 22 (by omega) (by omega)]) (by rw [y6 30 (by omega) (by omega)]) (by rw [y6 32 (by omega) (by omega)]) (Or.inl (by rw [y6 17 (by omega) (by omega)])) (fun n2 a b e => ?_) (fun n a b => by rw [y6 33 (by omega) (by omega)]) (fun n a b e f => by
      have : ∀ w2, rw9 r3 w2 = rw9 r w2 := fun w2 => by unfold rw9; rw [y6 12 (by omega) (by omega)]
      rw [this, y6 17 (by omega) (by omega)]; exact f)
    rw [z2.2.1]
    split
    · rfl
    · exact e
  · rw [y6 22 (by omega) (by omega)] at b
    have k := gi.2.2.2.2.2.2.2.1.2 w n2 w0 w1 a b
    rw [y6 25 (by omega) (by omega), y6 26 (by omega) (by omega), y6 27 (by omega) (by omega)]
    by_cases c : n2 = n
    · rw [c, y8]
      exact ⟨fun e => by omega, fun e => by omega, fun e => by omega⟩
    · rw [y7 _ (by omega)]; exact k
  · have k := (gi.2.2.2.2.2.2.2.1.1 q a b).2
    rw [z2.2.2]
    by_cases c : r 39 q = 80 * w + n
    · rw [if_t ⟨a, b, c⟩]; exact Or.inl rfl
    · rw [if_f (fun hh => c hh.2.2)]
      rcases k with k | k
      · exact Or.inl k
      · rw [y7 _ c]; exact Or.inr k
  · rw [y6 29 (by omega) (by omega)]
    exact gi.2.2.2.2.2.2.2.2.2.1
  · have t1 := (g.2.2 w2 a b).1
    have eR2 : Rl r w2 = 100000 * (w2 + 1) + 10000 * r 12 w2 := rfl
    have t2 := (g.2.2 w2 a b).2.1
    rw [y4 _ (by omega) (by omega)]
    exact ⟨rfl, rfl⟩
/-- a timer is set to another tick -/
theorem RelK.toff (h : RelK N uf r m) (w0 : 0 ≤ w) (w1 : w < r 16 0) (n0 : 0 ≤ n) (n1 : n < r 30 w) : X7_dropTimer (Rl r w) n m = some (0, upd9 m (Rl r w + 6) n 0) ∧ RelK N uf (ur r 31 (80 * w + n) 0) (upd9 m (Rl r w + 6) n 0) := by
  have g := h.2.2.rg
  have b10 := g.1
  have s := g.2.2 w w0 w1
  have s1 := s.1
  have s2 := s.2.1
  have lt := h.2.2.lt w0 w1
  have eR : Rl r w = 100000 * (w + 1) + 10000 * r 12 w := rfl
  have f := h.1.2.2.2.2.2.1 w w0 w1
  have l := f.2.2.1
  have u := f.2.1 (r 12 w) s1 (Int.le_refl _)
  rw [← eR] at u
  refine ⟨?_, h.mk (rel_timer h.1 g w0 w1 n0 n1) (h.2.2.fr fun j hj => ur_ne (by omega)) (fun w2 a b => ?_) (fun j hj => ur_ne (by omega))⟩
  · unfold X7_dropTimer X7_dropTimer_0
    rw [if_f (by omega), l.2.1, u.1.2.2.1, if_f (by omega)]
    repeat rw [chk_t (by omega)]
    rw [st_e]
  · have t1 := (g.2.2 w2 a b).1
    have t2 := (g.2.2 w2 a b).2.1
    have eR2 : Rl r w2 = 100000 * (w2 + 1) + 10000 * r 12 w2 := rfl
    rw [upd9_row (by omega)]
    exact ⟨rfl, rfl⟩
/-- a run is over in another way than by its own history -/
theorem RelK.stop (h : RelK N uf r m) (w0 : 0 ≤ w) (w1 : w < r 16 0) (hv : v ≠ 20) : X7_stop (Rl r w) v m = some (0, upd9 (upd9 m (Rl r w) 7 v) (Rl r w) 9 (-1)) ∧ RelK N uf (ur (ur r 17 (rw9 r w) v) 15 w (-1)) (upd9 (upd9 m (Rl r w) 7 v) (Rl r w) 9 (-1)) := by
  have g := h.2.2.rg
  have b10 := g.1
  have s := g.2.2 w w0 w1
  have s1 := s.1
  have s2 := s.2.1
  have lt := h.2.2.lt w0 w1
  have eR : Rl r w = 100000 * (w + 1) + 10000 * r 12 w := rfl
  have ew : rw9 r w = 9 * w + r 12 w - 1 := rfl
  have nj : ∀ j : Nat, j ≠ 17 → j ≠ 15 → ur (ur r 17 (rw9 r w) v) 15 w (-1) j = r j := fun j a b => by rw [ur_ne b, ur_ne a]
  have e17 : ur (ur r 17 (rw9 r w) v) 15 w (-1) 17 (rw9 r w) = v := by rw [ur_n (by omega), ur_e rfl rfl]
  have n17 : ∀ i, i ≠ rw9 r w → ur (ur r 17 (rw9 r w) v) 15 w (-1) 17 i = r 17 i := fun i a => by rw [ur_n (by omega), ur_n (by omega)]
  have l := (h.1.2.2.2.2.2.1 w w0 w1).2.2.1
  have gi := h.2.2
  have hi := gi.hi w0 w1
  have er9 : ∀ w2, rw9 (ur (ur r 17 (rw9 r w) v) 15 w (-1)) w2 = rw9 r w2 := fun w2 => by
    have e := congrFun (nj 12 (by omega) (by omega)) w2
    unfold rw9 at *
    rw [e]
  have eRl : ∀ w2, Rl (ur (ur r 17 (rw9 r w) v) 15 w (-1)) w2 = Rl r w2 := fun w2 => by
    unfold Rl
    rw [nj 12 (by omega) (by omega)]
  refine ⟨?_, h.mk (rel_row h.1 g w0 w1 (fun i a => by rw [upd9_row a, upd9_row a]) ⟨by rw [upd9_n (by omega), upd9_n (by omega)], by rw [upd9_n (by omega), upd9_n (by omega)], by rw [upd9_n (by omega), upd9_n (by omega)]⟩ (by rw [upd9_n (by omega), upd9_e rfl rfl, e17]) ?_ (fun j i a => by rw [ur_n (by omega), ur_n (by omega)])) (gi.own w0 w1 (fun j a b c d e => nj j (by omega) (by omega)) ?_ (fun i a => by rw [nj 13 (by omega) (by omega)]) n17 (Or.inr (by rw [e17]; exact hv)) (fun i a => by rw [nj 18 (by omega) (by omega)]) (fun j i a b c => by rw [nj j (by omega) (by omega)]) (fun j i a b => by rw [nj j (by omega) (by omega)]) (fun j i a b => by rw [nj j (by omega) (by omega)]) ?_ (by rw [nj 32 (by omega) (by omega)]; exact Int.le_refl _) (fun n a b => by rw [nj 33 (by omega) (by omega)]) (fun n a b => by rw [nj 32 (by omega) (by omega)] at b; omega) (fun n2 a b => ?_) (fun q a b => ?_) ?_) (fun w2 a b => ?_) (fun j hj => nj j (by omega) (by omega))⟩
  · unfold X7_stop X7_stop_0
    rw [chk_t (by omega), st_e, st_e]
  · unfold Lt at *
    rw [eRl, nj 22 (by omega) (by omega), nj 30 (by omega) (by omega), nj 32 (by omega) (by omega), nj 14 (by omega) (by omega), ur_e rfl rfl]
    refine ⟨?_, ?_, ?_, ?_, upd9_e rfl rfl⟩
    · rw [upd9_n (by omega), upd9_n (by omega)]; exact l.1
    · rw [upd9_n (by omega), upd9_n (by omega)]; exact l.2.1
    · rw [upd9_n (by omega), upd9_n (by omega)]; exact l.2.2.1
    · rw [upd9_n (by omega), upd9_n (by omega)]; exact l.2.2.2.1
  · have f := h.2.2.2.2.1
    unfold Fb Pt at *
    simp (disch := omega) only [ur_ne]
    exact f
  · refine hi.fr (by rw [nj 12 (by omega) (by omega)]) (by rw [nj 18 (by omega) (by omega)]) (fun j i a b c d => by rw [nj j (by omega) (by omega)]) (by rw [nj 22 (by omega) (by omega)]) (by rw [nj 30 (by omega) (by omega)]) (by rw [nj 32 (by omega) (by omega)]) (Or.inr (by rw [e17]; exact hv)) (fun n2 a b e => by rw [nj 23 (by omega) (by omega)]; exact e) (fun n a b => by rw [nj 33 (by omega) (by omega)]) (fun n a b e f => ?_)
    rw [er9]
    by_cases c : rw9 r (r 33 (80 * w + n)) = rw9 r w
    · rw [c, e17]; exact hv
    · rw [n17 _ c]; exact f
  · rw [nj 22 (by omega) (by omega)] at b
    rw [nj 23 (by omega) (by omega), nj 25 (by omega) (by omega), nj 26 (by omega) (by omega), nj 27 (by omega) (by omega)]
    exact gi.2.2.2.2.2.2.2.1.2 w n2 w0 w1 a b
  · rw [nj 39 (by omega) (by omega), nj 23 (by omega) (by omega)]
    exact (gi.2.2.2.2.2.2.2.1.1 q a b).2
  · rw [nj 29 (by omega) (by omega)]
    exact gi.2.2.2.2.2.2.2.2.2.1
  · have t1 := (g.2.2 w2 a b).1
    have t2 := (g.2.2 w2 a b).2.1
    have eR2 : Rl r w2 = 100000 * (w2 + 1) + 10000 * r 12 w2 := rfl
    by_cases e : w2 = w
    · rw [e, upd9_n (by omega), upd9_n (by omega), upd9_n (by omega), upd9_n (by omega)]
      exact ⟨rfl, rfl⟩
    · rw [upd9_row (by omega), upd9_row (by omega)]
      exact ⟨rfl, rfl⟩
end ML
