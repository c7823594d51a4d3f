/-! what was decided is put down and takes effect, one after another; the run's end is put down -/
section EP
variable {N N' : Int} {uf : Int → Int} {r r' z r0 : Rst} {m m' m0 : Mem} {w n k x y q s b c a v row I A R o t l u f W E M p nu pa L : Int}
/-- what the player has decided lies in its own rows -/
def Dq (r0 : Rst) (m0 : Mem) (n : Int) : Prop := m0 101 0 = 102 ∧ m0 101 1 = 103 ∧ m0 101 2 = 104 ∧ m0 101 3 = n ∧ ∀ k, 0 ≤ k → k < n → k < 80 → m0 102 k = r0 72 k ∧ m0 103 k = r0 73 k ∧ m0 104 k = r0 74 k
theorem x_down1 (hr : RelM r m) (g : Rg r) (w0 : 0 ≤ w) (w1 : w < r 16 0) (b80 : r 18 (rw9 r w) < 80) (k0 : 0 ≤ k) (k1 : k < n) (k80 : k < 80) (dq : Dq r0 m n) {m' : Mem} (ef : X11_takeEffect 1 (100000 * (w + 1)) (r0 72 k) (r0 73 k) (r0 74 k) (put9 (Rl r w + 1) (r0 72 k) (r0 73 k) (r0 74 k) m) = some (0, m')) : X11_putDown_97 (t.toNat + 1) 1 (100000 * (w + 1)) (Rl r w) 101 k m = X11_putDown_97 t.toNat 1 (100000 * (w + 1)) (Rl r w) 101 (k + 1) m' := by
  have s := g.2.2 w w0 w1
  have s1 := s.1
  have s2 := s.2.1
  have b10 := g.1
  have ew : rw9 r w = 9 * w + r 12 w - 1 := rfl
  have s6 := s.2.2.2.2.2 (rw9 r w) (by omega) (by omega)
  have eR : Rl r w = 100000 * (w + 1) + 10000 * r 12 w := rfl
  have u := (hr.2.2.2.2.2.1 w w0 w1).2.1 (r 12 w) s1 (Int.le_refl _)
  rw [← eR, ← ew] at u
  obtain ⟨⟨u0, u1, u2, u7, v0, v1, v2, v3⟩, -⟩ := u
  obtain ⟨d0, d1, d2, d3, d4⟩ := dq
  obtain ⟨d5, d6, d7⟩ := d4 k k0 k1 k80
  obtain ⟨pm, pj⟩ := put_m (k := r0 72 k) (x := r0 73 k) (y := r0 74 k) (m := m) (R := Rl r w) (by omega)
  have xp := put_ok (h := Rl r w + 1) (k := r0 72 k) (x := r0 73 k) (y := r0 74 k) (m := m) (by omega) (by rw [v0]; omega) (by rw [v1]; omega) (by rw [v2]; omega) (by rw [v3]; omega) (by rw [v3]; omega)
  rw [X11_putDown_97, d3, if_f (by omega), if_f (by omega), d0, d1, d2, d5, d6, d7, u0, xp, cal_e, pm 101 (by omega), d0, d1, d2, pm 102 (by omega), pm 103 (by omega), pm 104 (by omega), d5, d6, d7, ef, cal_e]
  repeat rw [chk_t (by omega)]
theorem Lp.dq (h : Lp N w E r0 m0 k r m) (dq : Dq r0 m0 n) : Dq r0 m n := by
  obtain ⟨u, h1, h2, h3, h4, h5, h6, h7, h8, h9, g1, g2, g3⟩ := h
  unfold Dq at *
  rw [g1 101 (by omega), g1 102 (by omega), g1 103 (by omega), g1 104 (by omega)]
  exact dq
theorem Lp.rl (h : Lp N w E r0 m0 k r m) : Rl r w = Rl r0 w ∧ rw9 r w = rw9 r0 w := by
  obtain ⟨u, h1, h2, h3, h4, h5, h6, h7, h8, h9, g1, g2, g3⟩ := h
  unfold Rl rw9
  rw [h5.1]
  exact ⟨rfl, rfl⟩
theorem lp_loop (w0 : 0 ≤ w) (w1 : w < r0 16 0) (hN : N ≤ 601) (h29 : r0 29 0 + L ≤ 100 * N) (hv : -100000 ≤ r0 14 w ∧ r0 14 w ≤ 100000) (h5e : ∀ i, 0 ≤ i → i < E + L → r0 19 (80 * rw9 r0 w + i) = 5 → r0 20 (80 * rw9 r0 w + i) < r0 32 w) (hn : L ≤ r0 76 0) (h32 : 0 ≤ r0 32 w) (dq : Dq r0 m0 (r0 76 0)) (kq : ∀ k, 0 ≤ k → k < L → Kq r0 w E k) (hL : L ≤ 80) : ∀ (d : Nat) (k : Int) (r : Rst) (m : Mem), L - k = d → 0 ≤ k → Lp N w E r0 m0 k r m → ∃ r' m', Lp N w E r0 m0 L r' m' ∧ (∀ (k165 : Int → Int → Rst → Option G2) (t : Nat) (l2 : Int), G_does_9 k165 (t + d) w l2 k r = G_does_9 k165 t w l2 L r') ∧ ∀ t : Nat, X11_putDown_97 (t + d) 1 (100000 * (w + 1)) (Rl r0 w) 101 k m = X11_putDown_97 t 1 (100000 * (w + 1)) (Rl r0 w) 101 L m' := by
  intro d
  induction d with
  | zero =>
    intro k r m hd k0 h
    have : k = L := by omega
    subst this
    exact ⟨r, m, h, fun _ _ _ => rfl, fun _ => rfl⟩
  | succ d ih =>
    intro k r m hd k0 h
    have q := kq k k0 (by omega)
    obtain ⟨m1, r1, y1, y2, y3⟩ := lp_step h q w0 w1 (by omega) hN (by omega) hv (fun i a b => h5e i a (by omega)) (by omega) h32
    obtain ⟨r', m', z1, z2, z3⟩ := ih (k + 1) r1 m1 (by omega) (by omega) y3
    obtain ⟨⟨e9, eRl⟩, ⟨p18, p17, pl⟩, pw, po⟩ := h.pre q
    have hq := h.dq dq
    have q8 := q.2.2.2.2.2.2.2.1
    obtain ⟨u, h1, h2, h3, h4, h5, h6, h7, h8, h9, g1, g2, g3⟩ := id h
    refine ⟨r', m', z1, fun k165 t l2 => ?_, fun t => ?_⟩
    · rw [show t + (d + 1) = (t + d) + 1 from rfl, y2, z2]
    · have e := x_down1 (t := ((t + d : Nat) : Int)) h1.1 h1.2.2.rg w0 (by rw [po _ _ (by omega)]; omega) (by rw [p18]; omega) k0 (by omega) (by omega) hq (by rw [eRl]; exact y1)
      rw [eRl, h.rl.1, show ((t + d : Nat) : Int).toNat = t + d by omega] at e
      rw [show t + (d + 1) = (t + d) + 1 from rfl, e, z3]
/-- a run is over by what it has decided -/
theorem RelK.over (h : RelK N uf r m) (w0 : 0 ≤ w) (w1 : w < r 16 0) (hr : r 17 (rw9 r w) = 20) (b80 : r 18 (rw9 r w) < 80) (hl : 7 ≤ hk r w (r 18 (rw9 r w) - 1)) (hv : v ≠ 20) : RelK N uf (ur (ur (wr w 16 x y r) 17 (rw9 r w) v) 15 w (-1)) (upd9 (upd9 (put9 (Rl r w + 1) 16 x y m) (Rl r w) 7 v) (Rl r w) 9 (-1)) := by
  have g := h.2.2.rg
  have b10 := g.1
  have s := g.2.2 w w0 w1
  have s1 := s.1
  have s2 := s.2.1
  have gi := h.2.2
  have hi := gi.hi w0 w1
  have lt := gi.lt w0 w1
  have ew : rw9 r w = 9 * w + r 12 w - 1 := rfl
  have eR : Rl r w = 100000 * (w + 1) + 10000 * r 12 w := rfl
  have p := rel_put (k := 16) (x := x) (y := y) h.1 g w0 w1 b80
  have gz := rg_wr (k := 16) (x := x) (y := y) g w0 w1 b80
  obtain ⟨z, hz⟩ : ∃ z, z = wr w 16 x y r := ⟨_, rfl⟩
  have zn : ∀ j : Nat, j < 18 ∨ 21 < j → z j = r j := fun j hj => by rw [hz]; exact wr_n hj
  have zo : ∀ (j : Nat) i, (j = 18 → i ≠ rw9 r w) → (19 ≤ j → j ≤ 21 → i ≠ 80 * rw9 r w + r 18 (rw9 r w)) → z j i = r j i := fun j i a b => by rw [hz]; exact wr_o a b
  have z18 : z 18 (rw9 r w) = r 18 (rw9 r w) + 1 := by rw [hz]; exact wr_18
  have z19 : z 19 (80 * rw9 r w + r 18 (rw9 r w)) = 16 := by rw [hz]; exact wr_v.1
  have eRz : Rl z w = Rl r w := by unfold Rl; rw [zn 12 (by omega)]
  have e9z : rw9 z w = rw9 r w := by unfold rw9; rw [zn 12 (by omega)]
  obtain ⟨pm, pj⟩ := put_m (k := 16) (x := x) (y := y) (m := m) (R := Rl r w) (by omega)
  obtain ⟨mp, hmp⟩ : ∃ mp, mp = put9 (Rl r w + 1) 16 x y m := ⟨_, rfl⟩
  rw [← hz] at p gz ⊢
  rw [← hmp] at p pm pj ⊢
  have nj : ∀ j : Nat, j ≠ 17 → j ≠ 15 → ur (ur z 17 (rw9 r w) v) 15 w (-1) j = z j := fun j a b => by rw [ur_ne b, ur_ne a]
  have nz : ∀ j : Nat, j ≠ 17 → j ≠ 15 → j < 18 ∨ 21 < j → ur (ur z 17 (rw9 r w) v) 15 w (-1) j = r j := fun j a b c => by rw [nj j a b, zn j c]
  have e17 : ur (ur z 17 (rw9 r w) v) 15 w (-1) 17 (rw9 r w) = v := by rw [ur_n (by omega), ur_e rfl rfl]
  have n17 : ∀ i, i ≠ rw9 r w → ur (ur z 17 (rw9 r w) v) 15 w (-1) 17 i = r 17 i := fun i a => by rw [ur_n (by omega), ur_n (by omega), zn 17 (by omega)]
  have l := (p.2.2.2.2.2.1 w w0 (by rw [zn 16 (by omega)]; exact w1)).2.2.1
  have er9 : ∀ w2, rw9 (ur (ur z 17 (rw9 r w) v) 15 w (-1)) w2 = rw9 r w2 := fun w2 => by
    have e := congrFun (nz 12 (by omega) (by omega) (by omega)) w2
    unfold rw9 at *
    rw [e]
  have eRl : Rl (ur (ur z 17 (rw9 r w) v) 15 w (-1)) w = Rl r w := by
    unfold Rl
    rw [nz 12 (by omega) (by omega) (by omega)]
  have rn : RelM (ur (ur z 17 (rw9 r w) v) 15 w (-1)) (upd9 (upd9 mp (Rl r w) 7 v) (Rl r w) 9 (-1)) := by
    refine rel_row p gz w0 (by rw [zn 16 (by omega)]; exact w1) (fun i a => ?_) ?_ ?_ ?_ (fun j i a => ?_)
    · rw [eRz] at a
      rw [upd9_row a, upd9_row a]
    · rw [eRz]
      exact ⟨by rw [upd9_n (by omega), upd9_n (by omega)], by rw [upd9_n (by omega), upd9_n (by omega)], by rw [upd9_n (by omega), upd9_n (by omega)]⟩
    · rw [eRz, e9z, upd9_n (by omega), upd9_e rfl rfl, e17]
    · unfold Lt at *
      rw [eRz] at l
      rw [eRl, nj 22 (by omega) (by omega), nj 30 (by omega) (by omega), nj 32 (by omega) (by omega), nj 14 (by omega) (by omega), ur_e rfl rfl]
      refine ⟨?_, ?_, ?_, ?_, upd9_e rfl rfl⟩
      · rw [upd9_n (by omega), upd9_n (by omega)]; exact l.1
      · rw [upd9_n (by omega), upd9_n (by omega)]; exact l.2.1
      · rw [upd9_n (by omega), upd9_n (by omega)]; exact l.2.2.1
      · rw [upd9_n (by omega), upd9_n (by omega)]; exact l.2.2.2.1
    · rw [e9z] at a
      rw [ur_n (by omega), ur_n (by omega)]
  have zp : ∀ pp : Int → Bool, pp 16 = false → (if pp 16 = true then (1 : Int) else 0) = 0 := fun pp e => by rw [e]; rfl
  refine h.comb (k := 16) (x := x) (y := y) w0 w1 b80 (by omega) rn (gi.own w0 w1 (fun j a b c d e => nz j (by omega) (by omega) (by omega)) ?_ (fun i a => by rw [nz 13 (by omega) (by omega) (by omega)]) n17 (Or.inr (by rw [e17]; exact hv)) (fun i a => by rw [nj 18 (by omega) (by omega), zo 18 i (by omega) (by omega)]) (fun j i a b c => by rw [nj j (by omega) (by omega), zo j i (by omega) (by omega)]) (fun j i a b => by rw [nz j (by omega) (by omega) (by omega)]) (fun j i a b => by rw [nz j (by omega) (by omega) (by omega)]) ?_ (by rw [nz 32 (by omega) (by omega) (by omega)]; exact Int.le_refl _) (fun n a b => by rw [nz 33 (by omega) (by omega) (by omega)]) (fun n a b => by rw [nz 32 (by omega) (by omega) (by omega)] at b; omega) (fun n2 a b => ?_) (fun q a b => ?_) ?_) (fun w2 a b => ?_) (fun j hj => by rw [← hz, nj j (by omega) (by omega)])
  · have f := h.2.2.2.2.1
    unfold Fb Pt at *
    simp (disch := omega) only [nz]
    exact f
  · refine hi.app (k := 16) (b := r 18 (rw9 r w)) rfl b80 hr (by omega) (by omega) (fun e => by rw [e17]; exact hv) (fun _ => hl) (by rw [nz 12 (by omega) (by omega) (by omega)]) (by rw [nj 18 (by omega) (by omega)]; exact z18) (by rw [nj 19 (by omega) (by omega)]; exact z19) (fun j i a b c d => by rw [nj j (by omega) (by omega), zo j _ (by omega) (by omega)]) (by rw [nz 22 (by omega) (by omega) (by omega), zp pA rfl]; omega) (by rw [nz 30 (by omega) (by omega) (by omega), zp pT rfl]; omega) (by rw [nz 32 (by omega) (by omega) (by omega), zp pM rfl]; omega) (fun n a b e => by rw [nz 23 (by omega) (by omega) (by omega)]; exact e) (fun n a b => by rw [nz 33 (by omega) (by omega) (by omega)]) (fun n a b e f9 => ?_)
    rw [er9]
    by_cases c : rw9 r (r 33 (80 * w + n)) = rw9 r w
    · rw [c, e17]; exact hv
    · rw [n17 _ c]; exact f9
  · rw [nz 22 (by omega) (by omega) (by omega)] at b
    rw [nz 23 (by omega) (by omega) (by omega), nz 25 (by omega) (by omega) (by omega), nz 26 (by omega) (by omega) (by omega), nz 27 (by omega) (by omega) (by omega)]
    exact gi.2.2.2.2.2.2.2.1.2 w n2 w0 w1 a b
  · rw [nz 39 (by omega) (by omega) (by omega), nz 23 (by omega) (by omega) (by omega)]
    exact (gi.2.2.2.2.2.2.2.1.1 q a b).2
  · rw [nz 29 (by omega) (by omega) (by omega)]
    exact gi.2.2.2.2.2.2.2.2.2.1
  · have t1 := (g.2.2 w2 a b).1
    have t2 := (g.2.2 w2 a b).2.1
    have eR2 : Rl r w2 = 100000 * (w2 + 1) + 10000 * r 12 w2 := rfl
    rw [← hmp]
    by_cases e : w2 = w
    · rw [e, upd9_n (by omega), upd9_n (by omega), upd9_n (by omega), upd9_n (by omega)]
      exact ⟨rfl, rfl⟩
    · rw [upd9_row (by omega), upd9_row (by omega)]
      exact ⟨rfl, rfl⟩
end EP
