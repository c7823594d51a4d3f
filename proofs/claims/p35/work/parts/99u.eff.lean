/-! effects of decisions: a timer, a property, a child that finds no room -/
section EC
variable {N N' : Int} {uf : Int → Int} {r r' : Rst} {m m' : Mem} {w n k x y q s b c a v row I A R o t l u f : Int}
def tmR (w x : Int) (r : Rst) : Rst := ur (ur r 31 (80 * w + r 30 w) (r 1 0 + x)) 30 w (r 30 w + 1)
theorem tm_o {j : Nat} {i : Int} (h : ¬ (j = 30 ∧ i = w ∨ j = 31 ∧ i = 80 * w + r 30 w)) : tmR w x r j i = r j i := by
  unfold tmR
  rw [ur_n (by omega), ur_n (by omega)]
theorem tm_j {j : Nat} (h : j < 30 ∨ 31 < j) : tmR w x r j = r j := by
  funext i
  exact tm_o (by omega)
theorem tm_v : tmR w x r 30 w = r 30 w + 1 ∧ tmR w x r 31 (80 * w + r 30 w) = r 1 0 + x := by
  unfold tmR
  exact ⟨ur_e rfl rfl, by rw [ur_n (by omega), ur_e rfl rfl]⟩
theorem tm_ov : tmR w x (ur r 18 row c) = ur (tmR w x r) 18 row c := by
  unfold tmR
  rw [ur_n (j := 18) (a := 30) (by omega), ur_n (j := 18) (a := 1) (by omega), ur_comm (j := 18) (a := 31) (by omega), ur_comm (j := 18) (a := 30) (by omega)]
theorem rel_newtimer (h : RelM r m) (g : Rg r) (w0 : 0 ≤ w) (w1 : w < r 16 0) (n80 : r 30 w < 80) : RelM (tmR w x r) (upd9 (upd9 m (Rl r w + 6) (r 30 w) (r 1 0 + x)) (Rl r w) 4 (r 30 w + 1)) := by
  have s := g.2.2 w w0 w1
  obtain ⟨s1, s2, s3, s4, s5, s6⟩ := s
  have eR9 : Rl r w = 100000 * (w + 1) + 10000 * r 12 w := rfl
  obtain ⟨f1, f2, f3, f4, f5⟩ := h.2.2.2.2.2.1 w w0 w1
  have eRl : Rl (tmR w x r) w = Rl r w := by unfold Rl; rw [tm_j (by omega)]
  have em : ∀ i, i ≠ Rl r w → i ≠ Rl r w + 6 → upd9 (upd9 m (Rl r w + 6) (r 30 w) (r 1 0 + x)) (Rl r w) 4 (r 30 w + 1) i = m i := fun i a b => by rw [upd9_row a, upd9_row b]
  have eR : ∀ j, j ≠ 4 → upd9 (upd9 m (Rl r w + 6) (r 30 w) (r 1 0 + x)) (Rl r w) 4 (r 30 w + 1) (Rl r w) j = m (Rl r w) j := fun j hj => by rw [upd9_n (by omega), upd9_n (by omega)]
  obtain ⟨v30, v31⟩ := tm_v (w := w) (x := x) (r := r)
  refine h.run g w0 w1 (fun i a b => em i (by omega) (by omega)) (fun i a b => em i (by omega) (by omega)) (fun j i a b c => tm_o (fun d => c (by unfold Own; omega))) ⟨f1.fr (fun i a b => em i (by omega) (by omega)) (fun j i a b => by rw [tm_j (by omega)]), f2.frow s1 s2 (fun row a b => (s6 row a b).2) (fun k i a b c d e => em i (by omega) (by omega)) ⟨eR _ (by decide), eR _ (by decide), eR _ (by decide), eR _ (by decide)⟩ (fun j i a b => by rw [tm_j (by omega)]), ?_, f4.fr s3.2 (fun i a => em i (by omega) (by omega)) (fun j i a b => by rw [tm_j (by omega)]), fun n2 a b => ?_⟩
  · unfold Lt at *
    rw [eRl, v30, tm_j (by omega), tm_j (by omega), tm_j (by omega), tm_j (by omega), eR 3 (by decide), eR 5 (by decide), eR 8 (by decide), eR 9 (by decide), upd9_e rfl rfl]
    exact ⟨f3.1, rfl, f3.2.2⟩
  · rw [v30] at b
    rw [eRl, upd9_n (by omega)]
    by_cases c : n2 = r 30 w
    · rw [upd9_e rfl c, c, v31]
    · rw [upd9_n (by omega), tm_o (by omega)]
      exact f5 n2 a (by omega)
/-- a timer is decided -/
theorem RelK.timer (h : RelK N uf r m) (w0 : 0 ≤ w) (w1 : w < r 16 0) (hr : r 17 (rw9 r w) = 20) (b80 : r 18 (rw9 r w) < 80) (hl : 7 ≤ hk r w (r 18 (rw9 r w) - 1)) (hx : -100 ≤ x ∧ x ≤ 100) (hN : N ≤ 601) : ∃ m', X11_takeEffect 1 (100000 * (w + 1)) 10 x y (put9 (Rl r w + 1) 10 x y m) = some (0, m') ∧ RelK N uf (tmR w x (wr w 10 x y r)) m' ∧ StF 0 m m' := by
  have g := h.2.2.rg
  have b10 := g.1
  have s := g.2.2 w w0 w1
  have s1 := s.1
  have s2 := s.2.1
  have lt := h.2.2.lt w0 w1
  have gi := h.2.2
  have hi := gi.hi w0 w1
  have ew : rw9 r w = 9 * w + r 12 w - 1 := rfl
  have eR : Rl r w = 100000 * (w + 1) + 10000 * r 12 w := rfl
  have p := rel_put (k := 10) (x := x) (y := y) h.1 g w0 w1 b80
  have gz := rg_wr (k := 10) (x := x) (y := y) g w0 w1 b80
  obtain ⟨z, hz⟩ : ∃ z, z = wr w 10 x y r := ⟨_, rfl⟩
  have zn : ∀ j : Nat, j < 18 ∨ 21 < j → z j = r j := fun j hj => by rw [hz]; exact wr_n hj
  have zo : ∀ (j : Nat) i, (j = 18 → i ≠ rw9 r w) → (19 ≤ j → j ≤ 21 → i ≠ 80 * rw9 r w + r 18 (rw9 r w)) → z j i = r j i := fun j i a b => by rw [hz]; exact wr_o a b
  have z18 : z 18 (rw9 r w) = r 18 (rw9 r w) + 1 := by rw [hz]; exact wr_18
  have z19 : z 19 (80 * rw9 r w + r 18 (rw9 r w)) = 10 := by rw [hz]; exact wr_v.1
  have eRz : Rl z w = Rl r w := by unfold Rl; rw [zn 12 (by omega)]
  obtain ⟨pm, pj⟩ := put_m (k := 10) (x := x) (y := y) (m := m) (R := Rl r w) (by omega)
  obtain ⟨mp, hmp⟩ : ∃ mp, mp = put9 (Rl r w + 1) 10 x y m := ⟨_, rfl⟩
  rw [← hz] at p gz ⊢
  rw [← hmp] at p pm pj ⊢
  have fA := h.1.2.2.2.2.2.1 w w0 w1
  have f := fA.1
  have l := fA.2.2.1
  have u := fA.2.1 (r 12 w) s1 (Int.le_refl _)
  rw [← eR] at u
  have rt := h.1.1
  have c9 := gi.2.2.2.2.2.2.2.2
  have c91 := c9.1
  have mA : mp (100000 * (w + 1)) = m (100000 * (w + 1)) := pm _ (by omega)
  have mR : mp (Rl r w) = m (Rl r w) := pm _ (by omega)
  have m1 : mp 1 = m 1 := pm _ (by omega)
  have rn := rel_newtimer (x := x) p gz w0 (by rw [zn 16 (by omega)]; exact w1) (by rw [zn 30 (by omega)]; omega)
  rw [eRz, zn 30 (by omega), zn 1 (by omega)] at rn
  obtain ⟨v30, v31⟩ := tm_v (w := w) (x := x) (r := z)
  rw [zn 30 (by omega)] at v30 v31
  have pz : ∀ (j : Nat), j < 18 ∨ (21 < j ∧ j < 30) ∨ 31 < j → tmR w x z j = r j := fun j hj => by rw [tm_j (by omega), zn j (by omega)]
  refine ⟨_, ?_, h.comb (k := 10) (x := x) (y := y) w0 w1 b80 (by omega) rn (gi.own w0 w1 (fun j a b c d e => pz j (by omega)) ?_ (fun i a => by rw [pz 13 (by omega)]) (fun i a => by rw [pz 17 (by omega)]) (Or.inl (by rw [pz 17 (by omega)])) (fun i a => by rw [tm_j (by omega), zo 18 i (by omega) (by omega)]) (fun j i a b c => by rw [tm_j (by omega), zo j i (by omega) (by omega)]) (fun j i a b => by rw [tm_o (by omega), zn j (by omega)]) (fun j i a b => by rw [pz j (by omega)]) ?_ (by rw [pz 32 (by omega)]; exact Int.le_refl _) (fun n a b => by rw [pz 33 (by omega)]) (fun n a b => by rw [pz 32 (by omega)] at b; omega) (fun n2 a b => ?_) (fun q a b => ?_) ?_) (fun w2 a b => ?_) (fun j hj => by rw [← hz, tm_j (by omega)]), ⟨fun i hi => by rw [upd9_row (by omega), upd9_row (by omega), pm i (by omega)], by rw [upd9_n (by omega), upd9_n (by omega), pm (-2) (by omega)]; omega, by rw [upd9_n (by omega), upd9_n (by omega), pm (-2) (by omega)]; omega⟩⟩
  · unfold X11_takeEffect X11_takeEffect_0 X7_addTimer X7_addTimer_0
    rw [if_f (show ¬ (10 : Int) = 8 by decide), if_f (show ¬ (10 : Int) = 9 by decide), if_t (show (10 : Int) = 10 from rfl), mA, f.1.2.2.2.2.2.2.1, m1, rt.1.2.2.2.2.2.2.2, mR, l.2.1, u.1.2.2.1, if_f (by omega), st_e]
    have q4 : upd9 mp (Rl r w + 6) (r 30 w) (r 1 0 + x) (Rl r w) 4 = r 30 w := by rw [upd9_n (by omega), mR, l.2.1]
    rw [q4]
    repeat rw [chk_t (by omega)]
    rw [st_e, cal_e]
  · have f := h.2.2.2.2.1
    unfold Fb Pt at *
    simp (disch := omega) only [pz]
    exact f
  · refine hi.app (k := 10) (b := r 18 (rw9 r w)) rfl b80 hr (by omega) (by omega) (fun e => by omega) (fun _ => hl) (by rw [pz 12 (by omega)]) (by rw [tm_j (by omega)]; exact z18) (by rw [tm_j (by omega)]; exact z19) (fun j i a b c d => by rw [tm_j (by omega), zo j _ (by omega) (by omega)]) (by rw [pz 22 (by omega), show pA 10 = false from rfl]; exact (Int.add_zero _).symm) (by rw [v30, show pT 10 = true from rfl, if_t rfl]) (by rw [pz 32 (by omega), show pM 10 = false from rfl]; exact (Int.add_zero _).symm) (fun n a b e => by rw [pz 23 (by omega)]; exact e) (fun n a b => by rw [pz 33 (by omega)]) (fun n a b e f => ?_)
    have : ∀ w2, rw9 (tmR w x z) w2 = rw9 r w2 := fun w2 => by unfold rw9; rw [pz 12 (by omega)]
    rw [this, pz 17 (by omega)]; exact f
  · rw [pz 22 (by omega)] at b
    rw [pz 23 (by omega), pz 25 (by omega), pz 26 (by omega), pz 27 (by omega)]
    exact gi.2.2.2.2.2.2.2.1.2 w n2 w0 w1 a b
  · rw [pz 39 (by omega), pz 23 (by omega)]
    exact (gi.2.2.2.2.2.2.2.1.1 q a b).2
  · rw [pz 29 (by omega)]; exact c9.2.1
  · have t1 := (g.2.2 w2 a b).1
    have t2 := (g.2.2 w2 a b).2.1
    have eR2 : Rl r w2 = 100000 * (w2 + 1) + 10000 * r 12 w2 := rfl
    rw [← hmp]
    by_cases e : w2 = w
    · rw [e, upd9_n (by omega), upd9_n (by omega), upd9_n (by omega), upd9_n (by omega)]
      exact ⟨rfl, rfl⟩
    · rw [upd9_row (by omega), upd9_row (by omega)]
      exact ⟨rfl, rfl⟩
/-- a property is told -/
theorem RelK.tell (h : RelK N uf r m) (w0 : 0 ≤ w) (w1 : w < r 16 0) (k0 : 0 ≤ k) (k1 : k < 2) : X10_tell (100000 * (w + 1)) k v m = some (0, upd9 m (100000 * (w + 1) + 1) k v) ∧ RelK N uf (ur r 13 (2 * w + k) v) (upd9 m (100000 * (w + 1) + 1) k v) := by
  have g := h.2.2.rg
  have b10 := g.1
  have s := g.2.2 w w0 w1
  have s1 := s.1
  have s2 := s.2.1
  have gi := h.2.2
  have hi := gi.hi w0 w1
  have eR : Rl r w = 100000 * (w + 1) + 10000 * r 12 w := rfl
  have f := h.1.2.2.2.2.2.1 w w0 w1
  have nj : ∀ j : Nat, j ≠ 13 → ur r 13 (2 * w + k) v j = r j := fun j hj => ur_ne hj
  have em : ∀ i, i ≠ 100000 * (w + 1) + 1 → upd9 m (100000 * (w + 1) + 1) k v i = m i := fun i hi => upd9_row hi
  have eo : ∀ (j : Nat) i, ¬ (j = 13 ∧ i = 2 * w + k) → ur r 13 (2 * w + k) v j i = r j i := fun j i hj => ur_n (by omega)
  refine ⟨?_, h.mk ?_ (gi.own w0 w1 (fun j a b c d e => nj j (by omega)) ?_ (fun i a => eo 13 i (by omega)) (fun i a => by rw [nj 17 (by omega)]) (Or.inl (by rw [nj 17 (by omega)])) (fun i a => by rw [nj 18 (by omega)]) (fun j i a b c => by rw [nj j (by omega)]) (fun j i a b => by rw [nj j (by omega)]) (fun j i a b => by rw [nj j (by omega)]) ?_ (by rw [nj 32 (by omega)]; exact Int.le_refl _) (fun n a b => by rw [nj 33 (by omega)]) (fun n a b => by rw [nj 32 (by omega)] at b; omega) (fun n2 a b => ?_) (fun q a b => ?_) ?_) (fun w2 a b => ?_) fun j hj => nj j (by omega)⟩
  · unfold X10_tell X10_tell_0
    rw [if_f (by omega), if_f (by omega), f.1.1.2.2.2.1]
    repeat rw [chk_t (by omega)]
    rw [st_e]
  · have fl : Fl (ur r 13 (2 * w + k) v) (upd9 m (100000 * (w + 1) + 1) k v) w := by
      have f1 := f.1
      unfold Fl Rl at *
      rw [em (100000 * (w + 1)) (by omega), em (100000 * (w + 1) + 2) (by omega), nj 7 (by omega), nj 8 (by omega), nj 9 (by omega), nj 10 (by omega), nj 11 (by omega), nj 12 (by omega)]
      refine ⟨f1.1, f1.2.1, ⟨?_, ?_⟩, f1.2.2.2⟩
      · by_cases c : k = 0
        · rw [upd9_e rfl (by omega), ur_e rfl (by omega)]
        · rw [upd9_n (by omega), ur_n (by omega)]; exact f1.2.2.1.1
      · by_cases c : k = 1
        · rw [upd9_e rfl (by omega), ur_e rfl (by omega)]
        · rw [upd9_n (by omega), ur_n (by omega)]; exact f1.2.2.1.2
    refine h.1.flow g w0 w1 (h.1.1.fr ⟨em 1 (by omega), em 3 (by omega)⟩ (by rw [nj 1 (by omega)]) (by rw [nj 16 (by omega)]) (by rw [nj 29 (by omega)])) (fun i hi => em i (by omega)) (fun j a b => nj j (by omega)) (by rw [nj 16 (by omega)]) (fun j i a b c d e => eo j i (fun hh => e (by unfold Own; omega))) (fun q a b => (h.1.2.2.2.1 q a b).fr a b (fun i c => em i (by omega)) fun j c d => nj j (by omega)) (fun q a b => (h.1.2.2.2.2.1 q a b).fr a b (fun i c => em i (by omega)) (nj 38 (by omega)) (nj 39 (by omega)) (by rw [nj 16 (by omega)]; omega) (fun w c d => by rw [nj 12 (by omega)]) (fun w c d => by rw [nj 22 (by omega)]; exact Int.le_refl _)) ⟨fl, f.2.1.fr s2 (fun row a b => (s.2.2.2.2.2 row a b).2) (fun k i a b c d => em i (by omega)) (fun j i a b => by rw [nj j (by omega)]), f.2.2.1.fr (em _ (by omega)) (fun j a => by rw [nj j (by omega)]), f.2.2.2.1.fr s.2.2.1.2 (fun i a => em i (by omega)) (fun j i a b => by rw [nj j (by omega)]), f.2.2.2.2.fr s.2.2.2.1.2 (em _ (by omega)) fun j i a b => by rw [nj j (by omega)]⟩ (h.1.2.2.2.2.2.2.1.fr (fun w a b => by rw [em _ (by omega)]) (by rw [nj 16 (by omega)]) (fun j c => nj j (by omega))) (h.1.2.2.2.2.2.2.2.fr (em _ (by omega)) (by rw [nj 16 (by omega)]) (fun t a b => by rw [nj 6 (by omega)]) (fun w a b => by rw [nj 12 (by omega)]) (fun w a b => by rw [nj 22 (by omega)]))
  · have f := h.2.2.2.2.1
    unfold Fb Pt at *
    simp (disch := omega) only [ur_ne]
    exact f
  · refine hi.fr (by rw [nj 12 (by omega)]) (by rw [nj 18 (by omega)]) (fun j i a b c d => by rw [nj j (by omega)]) (by rw [nj 22 (by omega)]) (by rw [nj 30 (by omega)]) (by rw [nj 32 (by omega)]) (Or.inl (by rw [nj 17 (by omega)])) (fun n2 a b e => by rw [nj 23 (by omega)]; exact e) (fun n a b => by rw [nj 33 (by omega)]) (fun n a b e f => ?_)
    have : ∀ w2, rw9 (ur r 13 (2 * w + k) v) w2 = rw9 r w2 := fun w2 => by unfold rw9; rw [nj 12 (by omega)]
    rw [this, nj 17 (by omega)]; exact f
  · rw [nj 22 (by omega)] at b
    rw [nj 23 (by omega), nj 25 (by omega), nj 26 (by omega), nj 27 (by omega)]
    exact gi.2.2.2.2.2.2.2.1.2 w n2 w0 w1 a b
  · rw [nj 39 (by omega), nj 23 (by omega)]
    exact (gi.2.2.2.2.2.2.2.1.1 q a b).2
  · rw [nj 29 (by omega)]
    exact gi.2.2.2.2.2.2.2.2.2.1
  · have t1 := (g.2.2 w2 a b).1
    have t2 := (g.2.2 w2 a b).2.1
    have eR2 : Rl r w2 = 100000 * (w2 + 1) + 10000 * r 12 w2 := rfl
    rw [em _ (by omega)]
    exact ⟨rfl, rfl⟩
end EC
