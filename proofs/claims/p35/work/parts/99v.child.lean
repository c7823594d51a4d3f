/-! effects of decisions: a child that finds no room, and one that is counted before it is made -/
section ED
variable {N N' : Int} {uf : Int → Int} {r r' : Rst} {m m' : Mem} {w n k x y q s b c a v row I A R o t l u f : Int}
def umR (w f : Int) (r : Rst) : Rst := ur (ur (ur r 34 (80 * w + r 32 w) f) 33 (80 * w + r 32 w) (-1)) 32 w (r 32 w + 1)
theorem um_o {j : Nat} {i : Int} (h : ¬ (j = 32 ∧ i = w ∨ (j = 33 ∨ j = 34) ∧ i = 80 * w + r 32 w)) : umR w f r j i = r j i := by
  unfold umR
  rw [ur_n (by omega), ur_n (by omega), ur_n (by omega)]
theorem um_j {j : Nat} (h : j < 32 ∨ 34 < j) : umR w f r j = r j := by
  funext i
  exact um_o (by omega)
theorem um_v : umR w f r 32 w = r 32 w + 1 ∧ umR w f r 33 (80 * w + r 32 w) = -1 ∧ umR w f r 34 (80 * w + r 32 w) = f := by
  unfold umR
  refine ⟨ur_e rfl rfl, ?_, ?_⟩ <;> simp (disch := omega) only [ur_n, ur_e]
theorem um_ov : umR w f (ur r 18 row c) = ur (umR w f r) 18 row c := by
  unfold umR
  rw [ur_n (j := 18) (a := 32) (by omega), ur_comm (j := 18) (a := 34) (by omega), ur_comm (j := 18) (a := 33) (by omega), ur_comm (j := 18) (a := 32) (by omega)]
theorem rel_um (h : RelM r m) (g : Rg r) (w0 : 0 ≤ w) (w1 : w < r 16 0) (hc : ∀ c, 0 ≤ c → c < r 16 0 → r 9 c = w → r 10 c = r 12 w → r 11 c ≠ r 32 w) (hc0 : ∀ c, 0 ≤ c → c < r 16 0 → r 9 c ≠ -1 → r 10 c = r 12 (r 9 c) → 0 ≤ r 9 c ∧ r 9 c < r 16 0 ∧ 0 ≤ r 11 c ∧ r 11 c < 80) (em : ∀ i, i ≠ Rl r w → m' i = m i) (eR : ∀ j, j ≠ 6 → m' (Rl r w) j = if j = 5 then r 32 w + 1 else m (Rl r w) j) (n80 : 0 ≤ r 32 w ∧ r 32 w < 80) : RelM (umR w f r) m' := by
  have s := g.2.2 w w0 w1
  obtain ⟨s1, s2, s3, s4, s5, s6⟩ := s
  have b10 := g.1
  have eR9 : Rl r w = 100000 * (w + 1) + 10000 * r 12 w := rfl
  obtain ⟨f1, f2, f3, f4, f5⟩ := h.2.2.2.2.2.1 w w0 w1
  have eRl : Rl (umR w f r) w = Rl r w := by unfold Rl; rw [um_j (by omega)]
  obtain ⟨v32, v33, v34⟩ := um_v (w := w) (f := f) (r := r)
  refine h.flow g w0 w1 (h.1.fr ⟨em 1 (by omega), em 3 (by omega)⟩ (by rw [um_j (by omega)]) (by rw [um_j (by omega)]) (by rw [um_j (by omega)])) (fun i hi => em i (by omega)) (fun j a b => um_j (by omega)) (by rw [um_j (by omega)]) (fun j i a b c d e => um_o (fun hh => e (by unfold Own; omega))) (fun q a b => (h.2.2.2.1 q a b).fr a b (fun i c => em i (by omega)) fun j c d => um_j (by omega)) (fun q a b => (h.2.2.2.2.1 q a b).fr a b (fun i c => em i (by omega)) (um_j (by omega)) (um_j (by omega)) (by rw [um_j (by omega)]; omega) (fun w c d => by rw [um_j (by omega)]) (fun w c d => by rw [um_j (by omega)]; exact Int.le_refl _)) ⟨f1.fr (fun i a b => em i (by omega)) (fun j i a b => by rw [um_j (by omega)]), f2.frow s1 s2 (fun row a b => (s6 row a b).2) (fun k i a b c d e => em i (by omega)) ⟨by rw [eR _ (by decide), if_f (by decide)], by rw [eR _ (by decide), if_f (by decide)], by rw [eR _ (by decide), if_f (by decide)], by rw [eR _ (by decide), if_f (by decide)]⟩ (fun j i a b => by rw [um_j (by omega)]), ?_, f4.fr s3.2 (fun i a => em i (by omega)) (fun j i a b => by rw [um_j (by omega)]), f5.fr s4.2 (em _ (by omega)) fun j i a b => by rw [um_j (by omega)]⟩ (fun c a b d e => ?_) (h.2.2.2.2.2.2.2.fr (em _ (by omega)) (by rw [um_j (by omega)]) (fun t a b => by rw [um_j (by omega)]) (fun w a b => by rw [um_j (by omega)]) (fun w a b => by rw [um_j (by omega)]))
  · unfold Lt at *
    rw [eRl, v32, um_j (by omega), um_j (by omega), um_j (by omega), um_j (by omega), eR _ (by decide), eR _ (by decide), eR _ (by decide), eR _ (by decide), eR _ (by decide), if_f (by decide), if_f (by decide), if_t rfl, if_f (by decide), if_f (by decide)]
    exact ⟨f3.1, f3.2.1, rfl, f3.2.2.2⟩
  · rw [um_j (by omega)] at b
    rw [um_j (by omega)] at d
    rw [um_j (j := 10) (by omega), um_j (j := 12) (by omega), um_j (j := 9) (by omega)] at e
    have z := hc0 c a b d e
    have k := h.2.2.2.2.2.2.1 c a b d e
    rw [em _ (by omega), um_j (j := 9) (by omega), um_j (j := 11) (by omega), k]
    by_cases p : r 9 c = w
    · have := hc c a b p (by rw [← p]; exact e)
      rw [um_o (by omega)]
    · rw [um_o (by omega)]
/-- a child is decided; if it isn't made -/
theorem RelK.um (h : RelK N uf r m) (w0 : 0 ≤ w) (w1 : w < r 16 0) (hr : r 17 (rw9 r w) = 20) (b80 : r 18 (rw9 r w) < 80) (hl : 7 ≤ hk r w (r 18 (rw9 r w) - 1)) (u : Int) (em : ∀ i, i ≠ Rl r w → m' i = put9 (Rl r w + 1) 12 x y m i) (eR : ∀ j, m' (Rl r w) j = if j = 5 then r 32 w + 1 else if j = 6 then u else m (Rl r w) j) : RelK N (fun w2 => if w2 = w then u else uf w2) (umR w f (wr w 12 x y r)) m' := by
  have g := h.2.2.rg
  have b10 := g.1
  have s := g.2.2 w w0 w1
  have s1 := s.1
  have s2 := s.2.1
  have lt := h.2.2.lt w0 w1
  have gi := h.2.2
  have hi := gi.hi w0 w1
  have ew : rw9 r w = 9 * w + r 12 w - 1 := rfl
  have eR9 : Rl r w = 100000 * (w + 1) + 10000 * r 12 w := rfl
  have p := rel_put (k := 12) (x := x) (y := y) h.1 g w0 w1 b80
  have gz := rg_wr (k := 12) (x := x) (y := y) g w0 w1 b80
  have cp := caw_put (k := 12) (x := x) (y := y) g h.2.1 (by omega) w0 w1 b80
  obtain ⟨z, hz⟩ : ∃ z, z = wr w 12 x y r := ⟨_, rfl⟩
  have zn : ∀ j : Nat, j < 18 ∨ 21 < j → z j = r j := fun j hj => by rw [hz]; exact wr_n hj
  have zo : ∀ (j : Nat) i, (j = 18 → i ≠ rw9 r w) → (19 ≤ j → j ≤ 21 → i ≠ 80 * rw9 r w + r 18 (rw9 r w)) → z j i = r j i := fun j i a b => by rw [hz]; exact wr_o a b
  have z18 : z 18 (rw9 r w) = r 18 (rw9 r w) + 1 := by rw [hz]; exact wr_18
  have z19 : z 19 (80 * rw9 r w + r 18 (rw9 r w)) = 12 := by rw [hz]; exact wr_v.1
  have eRz : ∀ w2, Rl z w2 = Rl r w2 := fun w2 => by unfold Rl; rw [zn 12 (by omega)]
  obtain ⟨pm, pj⟩ := put_m (k := 12) (x := x) (y := y) (m := m) (R := Rl r w) (by omega)
  rw [← hz] at p gz cp ⊢
  have mR : put9 (Rl r w + 1) 12 x y m (Rl r w) = m (Rl r w) := pm _ (by omega)
  have gc := gi.2.2.2.2.2.2.1
  have gcz : ∀ c, 0 ≤ c → c < r 16 0 → r 9 c ≠ -1 → r 10 c = r 12 (r 9 c) → 0 ≤ r 9 c ∧ r 9 c < r 16 0 ∧ 0 ≤ r 11 c ∧ r 11 c < r 32 (r 9 c) := fun c a b d e => by
    have k := (gc.2 c a b).resolve_left d
    have k4 := k.2.2.2 e
    exact ⟨k.1, by omega, k4.1, k4.2.1⟩
  have rn : RelM (umR w f z) m' := by
    refine rel_um p gz w0 (by rw [zn 16 (by omega)]; exact w1) (fun c a b d e => ?_) (fun c a b d e => ?_) (fun i a => em i (by rw [eRz] at a; exact a)) (fun j a => ?_) (by rw [zn 32 (by omega)]; omega)
    · rw [zn 16 (by omega)] at b
      rw [zn 9 (by omega)] at d
      rw [zn 10 (by omega), zn 12 (by omega)] at e
      have k := gcz c a b (by omega) (by rw [d]; exact e)
      rw [d] at k
      rw [zn 11 (by omega), zn 32 (by omega)]
      omega
    · rw [zn 16 (by omega)] at b
      rw [zn 9 (by omega)] at d
      rw [zn 10 (by omega), zn 12 (by omega), zn 9 (by omega)] at e
      have k := gcz c a b d e
      have l3 := gi.lt k.1 k.2.1
      rw [zn 9 (by omega), zn 11 (by omega), zn 16 (by omega)]
      omega
    · rw [eRz, eR, mR, zn 32 (by omega)]
      by_cases e : j = 5
      · rw [if_t e, if_t e]
      · rw [if_f e, if_f e, if_f a]
  obtain ⟨v32, v33, v34⟩ := um_v (w := w) (f := f) (r := z)
  rw [zn 32 (by omega)] at v32 v33 v34
  have pz : ∀ (j : Nat), j < 18 ∨ (21 < j ∧ j < 32) ∨ 34 < j → umR w f z j = r j := fun j hj => by rw [um_j (by omega), zn j (by omega)]
  have po : ∀ (j : Nat) i, 21 < j → ¬ (j = 32 ∧ i = w ∨ (j = 33 ∨ j = 34) ∧ i = 80 * w + r 32 w) → umR w f z j i = r j i := fun j i a b => by rw [um_o (by rw [zn 32 (by omega)]; exact b), zn j (by omega)]
  refine ⟨rn, fun w2 a b => ?_, gi.own w0 w1 (fun j a b c d e => pz j (by omega)) ?_ (fun i a => by rw [pz 13 (by omega)]) (fun i a => by rw [pz 17 (by omega)]) (Or.inl (by rw [pz 17 (by omega)])) (fun i a => by rw [um_j (by omega), zo 18 i (by omega) (by omega)]) (fun j i a b c => by rw [um_j (by omega), zo j i (by omega) (by omega)]) (fun j i a b => po j i (by omega) (by omega)) (fun j i a b => po j i (by omega) (by omega)) ?_ (by rw [v32]; omega) (fun n a b => po 33 _ (by omega) (by omega)) (fun n a b => by rw [v32] at b; rw [show n = r 32 w by omega]; exact v33) (fun n2 a b => ?_) (fun q a b => ?_) ?_⟩
  · rw [pz 16 (by omega)] at b
    have t1 := (g.2.2 w2 a b).1
    have t2 := (g.2.2 w2 a b).2.1
    have eR2 : Rl r w2 = 100000 * (w2 + 1) + 10000 * r 12 w2 := rfl
    have cw := cp w2 a b
    have e1 : Rl (umR w f z) w2 = Rl r w2 := by unfold Rl; rw [pz 12 (by omega)]
    unfold CaW hk rw9 at *
    rw [eRz] at cw
    rw [e1, um_j (j := 12) (by omega), um_j (j := 18) (by omega), um_j (j := 19) (by omega)]
    show _ ∧ _ = (if w2 = w then u else uf w2)
    by_cases e : w2 = w
    · rw [e, if_t rfl, eR, eR, if_f (by decide), if_f (by decide), if_f (by decide), if_t rfl]
      rw [e, mR] at cw
      exact ⟨cw.1, rfl⟩
    · rw [if_f e, em _ (by omega)]
      exact cw
  · have f := h.2.2.2.2.1
    unfold Fb Pt at *
    simp (disch := omega) only [pz]
    exact f
  · refine hi.app (k := 12) (b := r 18 (rw9 r w)) rfl b80 hr (by omega) (by omega) (fun e => by omega) (fun _ => hl) (by rw [pz 12 (by omega)]) (by rw [um_j (by omega)]; exact z18) (by rw [um_j (by omega)]; exact z19) (fun j i a b c d => by rw [um_j (by omega), zo j _ (by omega) (by omega)]) (by rw [pz 22 (by omega), show pA 12 = false from rfl]; exact (Int.add_zero _).symm) (by rw [pz 30 (by omega), show pT 12 = false from rfl]; exact (Int.add_zero _).symm) (by rw [v32, show pM 12 = true from rfl, if_t rfl]) (fun n a b e => by rw [pz 23 (by omega)]; exact e) (fun n a b => po 33 _ (by omega) (by omega)) (fun n a b e f9 => ?_)
    have : ∀ w2, rw9 (umR w f z) w2 = rw9 r w2 := fun w2 => by unfold rw9; rw [pz 12 (by omega)]
    rw [this, pz 17 (by omega)]; exact f9
  · rw [pz 22 (by omega)] at b
    rw [pz 23 (by omega), pz 25 (by omega), pz 26 (by omega), pz 27 (by omega)]
    exact gi.2.2.2.2.2.2.2.1.2 w n2 w0 w1 a b
  · rw [pz 39 (by omega), pz 23 (by omega)]
    exact (gi.2.2.2.2.2.2.2.1.1 q a b).2
  · rw [pz 29 (by omega)]
    exact gi.2.2.2.2.2.2.2.2.2.1
/-- 33 is the reference's own -/
theorem RelM.n33 (h : RelM r m) {i : Int} : RelM (ur r 33 i v) m := by
  unfold RelM Rt Fm Pm rowk Qu Wk FlA Fl Hi Ru Lt Ac ActC Ti Fa Fz Rl at *
  simp (disch := omega) only [ur_ne] at h ⊢
  exact h
/-- a workflow becomes the child of another -/
theorem RelC.adopt (h : RelC N r m) {W : Int} (w0 : 0 ≤ w) (wW : w < W) (W1 : W < r 16 0) (e9 : r 9 W = -1) (n0 : 0 ≤ n) (n1 : n < r 32 w) (e33 : r 33 (80 * w + n) = -1) (h5 : ∀ i, 0 ≤ i → i < r 18 (rw9 r w) → hk r w i = 5 → r 20 (80 * rw9 r w + i) ≠ n) (em : ∀ i, i ≠ 100000 * (W + 1) → m' i = m i) (eA : ∀ j, m' (100000 * (W + 1)) j = if j = 7 then w else if j = 8 then r 12 w else if j = 9 then n else if j = 10 then r 34 (80 * w + n) else m (100000 * (W + 1)) j) : RelC N (ur (ur (ur (ur r 33 (80 * w + n) W) 9 W w) 10 W (r 12 w)) 11 W n) m' := by
  have g := h.2.2.rg
  have b10 := g.1
  have w1 : w < r 16 0 := by omega
  have s := g.2.2 W (by omega) W1
  have s1 := s.1
  have s2 := s.2.1
  have sw := g.2.2 w w0 w1
  have lt := h.2.2.lt w0 w1
  have gi := h.2.2
  have eRW : Rl r W = 100000 * (W + 1) + 10000 * r 12 W := rfl
  obtain ⟨z, hz⟩ : ∃ z, z = ur (ur (ur (ur r 33 (80 * w + n) W) 9 W w) 10 W (r 12 w)) 11 W n := ⟨_, rfl⟩
  have zj : ∀ j : Nat, j ≠ 33 → j ≠ 9 → j ≠ 10 → j ≠ 11 → z j = r j := fun j a b c d => by rw [hz, ur_ne d, ur_ne c, ur_ne b, ur_ne a]
  have zo : ∀ (j : Nat) i, ¬ (j = 33 ∧ i = 80 * w + n) → ¬ ((j = 9 ∨ j = 10 ∨ j = 11) ∧ i = W) → z j i = r j i := fun j i a b => by rw [hz, ur_n (by omega), ur_n (by omega), ur_n (by omega), ur_n (by omega)]
  have z33 : z 33 (80 * w + n) = W := by rw [hz]; simp (disch := omega) only [ur_n, ur_e]
  have z9 : z 9 W = w ∧ z 10 W = r 12 w ∧ z 11 W = n := by
    rw [hz]
    refine ⟨?_, ?_, ?_⟩ <;> simp (disch := omega) only [ur_n, ur_e]
  rw [← hz]
  clear hz
  have e16 : z 16 = r 16 := zj 16 (by omega) (by omega) (by omega) (by omega)
  have e12 : z 12 = r 12 := zj 12 (by omega) (by omega) (by omega) (by omega)
  have eRl : ∀ w2, Rl z w2 = Rl r w2 := fun w2 => by unfold Rl; rw [e12]
  have er9 : ∀ w2, rw9 z w2 = rw9 r w2 := fun w2 => by unfold rw9; rw [e12]
  have gc := gi.2.2.2.2.2.2.1
  have h33 := h.1.n33 (i := 80 * w + n) (v := W)
  have g33 : Rg (ur r 33 (80 * w + n) W) := by
    unfold Rg Sz at *
    simp (disch := omega) only [ur_ne]
    exact g
  have yj : ∀ j : Nat, j ≠ 33 → ur r 33 (80 * w + n) W j = r j := fun j hj => ur_ne hj
  have fA := h.1.2.2.2.2.2.1 W (by omega) W1
  refine ⟨?_, fun w2 a b => ?_, ?_⟩
  · refine h33.flow (w := W) g33 (by omega) (by rw [yj 16 (by omega)]; exact W1) (h.1.1.fr ⟨em 1 (by omega), em 3 (by omega)⟩ (by rw [zj 1 (by omega) (by omega) (by omega) (by omega)]) (by rw [e16]) (by rw [zj 29 (by omega) (by omega) (by omega) (by omega)])) (fun i hi => em i (by omega)) (fun j a b => by rw [zj j (by omega) (by omega) (by omega) (by omega), yj j (by omega)]) (by rw [e16, yj 16 (by omega)]) (fun j i a b c d e => ?_) (fun q a b => (h.1.2.2.2.1 q a b).fr a b (fun i c => em i (by omega)) fun j c d => zj j (by omega) (by omega) (by omega) (by omega)) (fun q a b => (h.1.2.2.2.2.1 q a b).fr a b (fun i c => em i (by omega)) (zj 38 (by omega) (by omega) (by omega) (by omega)) (zj 39 (by omega) (by omega) (by omega) (by omega)) (by rw [e16]; omega) (fun w2 c d => by rw [e12]) (fun w2 c d => by rw [zj 22 (by omega) (by omega) (by omega) (by omega)]; exact Int.le_refl _)) ⟨?_, fA.2.1.fr s2 (fun row a b => (s.2.2.2.2.2 row a b).2) (fun k i a b c d => em i (by omega)) (fun j i a b => by rw [zj j (by omega) (by omega) (by omega) (by omega)]), fA.2.2.1.fr (em _ (by omega)) (fun j a => by rw [zj j (by omega) (by omega) (by omega) (by omega)]), fA.2.2.2.1.fr s.2.2.1.2 (fun i a => em i (by omega)) (fun j i a b => by rw [zj j (by omega) (by omega) (by omega) (by omega)]), fA.2.2.2.2.fr s.2.2.2.1.2 (em _ (by omega)) fun j i a b => by rw [zj j (by omega) (by omega) (by omega) (by omega)]⟩ (fun c a b d e => ?_) (h.1.2.2.2.2.2.2.2.fr (em _ (by omega)) (by rw [e16]) (fun t a b => by rw [zj 6 (by omega) (by omega) (by omega) (by omega)]) (fun w a b => by rw [e12]) (fun w a b => by rw [zj 22 (by omega) (by omega) (by omega) (by omega)]))
    · by_cases c3 : j = 33
      · subst c3
        by_cases c4 : i = 80 * w + n
        · rw [c4, z33, ur_e rfl rfl]
        · rw [zo 33 i (by omega) (by omega), ur_n (by omega)]
      · rw [zo j i (by omega) (fun hh => e (by unfold Own; omega)), ur_n (by omega)]
    · obtain ⟨⟨f0, f1, f2, f3, f4, f5, f6, f7⟩, f8, f9, f10⟩ := fA.1
      refine ⟨⟨?_, ?_, ?_, ?_, ?_, ?_, ?_, ?_⟩, fun _ => ⟨?_, ?_⟩, ⟨?_, ?_⟩, fun k a b => ?_⟩
      · rw [eA, if_f (by decide), if_f (by decide), if_f (by decide), if_f (by decide)]; exact f0
      · rw [eA, if_f (by decide), if_f (by decide), if_f (by decide), if_f (by decide), zj 7 (by omega) (by omega) (by omega) (by omega)]; exact f1
      · rw [eA, if_f (by decide), if_f (by decide), if_f (by decide), if_f (by decide), zj 8 (by omega) (by omega) (by omega) (by omega)]; exact f2
      · rw [eA, if_f (by decide), if_f (by decide), if_f (by decide), if_f (by decide)]; exact f3
      · rw [eA, if_f (by decide), if_f (by decide), if_f (by decide), if_f (by decide)]; exact f4
      · rw [eA, if_f (by decide), if_f (by decide), if_f (by decide), if_f (by decide), e12]; exact f5
      · rw [eA, if_f (by decide), if_f (by decide), if_f (by decide), if_f (by decide), eRl]; exact f6
      · rw [eA, if_t rfl, z9.1]
      · rw [eA, if_f (by decide), if_t rfl, z9.2.1]
      · rw [eA, if_f (by decide), if_f (by decide), if_t rfl, z9.2.2]
      · rw [em _ (by omega), zj 13 (by omega) (by omega) (by omega) (by omega)]; exact f9.1
      · rw [em _ (by omega), zj 13 (by omega) (by omega) (by omega) (by omega)]; exact f9.2
      · rw [e12] at b
        rw [em _ (by omega)]; exact f10 k a b
    · rw [e16] at b
      by_cases c4 : c = W
      · rw [c4, eA, if_f (by decide), if_f (by decide), if_f (by decide), if_t rfl, z9.1, z9.2.2, zj 34 (by omega) (by omega) (by omega) (by omega)]
      · rw [zo 9 c (by omega) (by omega)] at d e ⊢
        rw [zo 10 c (by omega) (by omega), e12] at e
        rw [zo 11 c (by omega) (by omega), zj 34 (by omega) (by omega) (by omega) (by omega), em _ (by omega)]
        exact h.1.2.2.2.2.2.2.1 c a b d e
  · rw [e16] at b
    have k := h.2.1 w2 a b
    have t1 := (g.2.2 w2 a b).1
    have t2 := (g.2.2 w2 a b).2.1
    have eR2 : Rl r w2 = 100000 * (w2 + 1) + 10000 * r 12 w2 := rfl
    unfold CaW hk at *
    rw [eRl, er9, zj 18 (by omega) (by omega) (by omega) (by omega), zj 19 (by omega) (by omega) (by omega) (by omega), em _ (by omega)]
    exact k
  · obtain ⟨c1, c2, c3, c4, c5, c6, c7, c8, c9⟩ := gi
    refine ⟨by rw [e16]; exact c1, ?_, ?_, ?_, ?_, fun w2 a b => ?_, ⟨fun w2 n2 a b c d => ?_, fun c a b => ?_⟩, ?_, ?_⟩
    · unfold GP StC PgR at *
      simp (disch := omega) only [ur_ne, ur_e] at c2 ⊢
      rw [zj 2 (by omega) (by omega) (by omega) (by omega), zj 3 (by omega) (by omega) (by omega) (by omega), zj 4 (by omega) (by omega) (by omega) (by omega), zj 5 (by omega) (by omega) (by omega) (by omega), zj 6 (by omega) (by omega) (by omega) (by omega)]
      exact c2
    · unfold Fb Pt at *
      simp (disch := omega) only [zj]
      exact c3
    · unfold GW at *
      rw [e16, zj 7 (by omega) (by omega) (by omega) (by omega), zj 8 (by omega) (by omega) (by omega) (by omega), e12]
      exact c4
    · unfold GU at *
      rw [e16, e12, zj 13 (by omega) (by omega) (by omega) (by omega), zj 18 (by omega) (by omega) (by omega) (by omega)]
      exact c5
    · rw [e16] at b
      have hi := c6 w2 a b
      have l2 := h.2.2.lt a b
      have t := g.2.2 w2 a b
      obtain ⟨a1, a2, a3, a4, a5, a6, a7, a8, a9, b1, b2, b3, b4⟩ := hi
      unfold HI hk at *
      rw [er9, zj 18 (by omega) (by omega) (by omega) (by omega), zj 19 (by omega) (by omega) (by omega) (by omega), zj 20 (by omega) (by omega) (by omega) (by omega), zj 21 (by omega) (by omega) (by omega) (by omega), zj 22 (by omega) (by omega) (by omega) (by omega), zj 23 (by omega) (by omega) (by omega) (by omega), zj 32 (by omega) (by omega) (by omega) (by omega), zj 30 (by omega) (by omega) (by omega) (by omega), zj 17 (by omega) (by omega) (by omega) (by omega)]
      refine ⟨a1, a2, a3, a4, a5, a6, a7, a8, fun i c d e => ?_, b1, b2, b3, b4⟩
      have k := a9 i c d e
      have k6 := a6 i c d (by omega) (by omega)
      refine ⟨k.1, ?_⟩
      by_cases f : w2 = w
      · rw [f] at d e k ⊢
        have := h5 i c d e
        rw [zo 33 _ (by omega) (by omega), er9]
        exact k.2
      · rw [zo 33 _ (by omega) (by omega), er9]
        exact k.2
    · rw [e16] at b ⊢
      rw [zj 32 (by omega) (by omega) (by omega) (by omega)] at d
      have l2 := h.2.2.lt a b
      rw [e12]
      by_cases f : w2 = w ∧ n2 = n
      · rw [f.1, f.2, z33, z9.1, z9.2.1, z9.2.2]
        exact Or.inr ⟨wW, W1, rfl, rfl, rfl⟩
      · rw [zo 33 _ (by omega) (by omega)]
        rcases c7.1 w2 n2 a b c d with k | ⟨k1, k2, k3, k4, k5⟩
        · exact Or.inl k
        · have : r 33 (80 * w2 + n2) ≠ W := fun e => by rw [e, e9] at k3; omega
          rw [zo 9 _ (by omega) (by omega), zo 10 _ (by omega) (by omega), zo 11 _ (by omega) (by omega)]
          exact Or.inr ⟨k1, k2, k3, k4, k5⟩
    · rw [e16] at b
      by_cases f : c = W
      · rw [f, z9.1, z9.2.1, z9.2.2, e12, zj 32 (by omega) (by omega) (by omega) (by omega), z33]
        exact Or.inr ⟨w0, wW, Int.le_refl _, fun _ => ⟨n0, n1, rfl⟩⟩
      · rw [zo 9 c (by omega) (by omega), zo 10 c (by omega) (by omega), zo 11 c (by omega) (by omega), e12, zj 32 (by omega) (by omega) (by omega) (by omega)]
        rcases c7.2 c a b with k | ⟨k1, k2, k3, k4⟩
        · exact Or.inl k
        · refine Or.inr ⟨k1, k2, k3, fun e => ?_⟩
          obtain ⟨y1, y2, y3⟩ := k4 e
          refine ⟨y1, y2, ?_⟩
          have l2 := h.2.2.lt k1 (by omega)
          by_cases p : r 9 c = w ∧ r 11 c = n
          · rw [p.1, p.2, e33] at y3; omega
          · rw [zo 33 _ (by omega) (by omega)]; exact y3
    · unfold GK at *
      rw [e16, zj 38 (by omega) (by omega) (by omega) (by omega), zj 39 (by omega) (by omega) (by omega) (by omega), zj 23 (by omega) (by omega) (by omega) (by omega), zj 22 (by omega) (by omega) (by omega) (by omega), zj 25 (by omega) (by omega) (by omega) (by omega), zj 26 (by omega) (by omega) (by omega) (by omega), zj 27 (by omega) (by omega) (by omega) (by omega), zj 1 (by omega) (by omega) (by omega) (by omega)]
      exact c8
    · unfold GN at *
      rw [zj 1 (by omega) (by omega) (by omega) (by omega), zj 29 (by omega) (by omega) (by omega) (by omega), zj 36 (by omega) (by omega) (by omega) (by omega), zj 37 (by omega) (by omega) (by omega) (by omega)]
      exact c9
end ED
