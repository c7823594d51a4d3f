/-! effects of decisions: an activity (2), a timer, a property -/
section EB
variable {N N' : Int} {uf : Int → Int} {r r' : Rst} {m m' : Mem} {w n k x y q s b c a v row I A R o t l : Int}
/-- what an effect leaves of the rest, and what room it takes -/
def StF (d : Int) (m m' : Mem) : Prop := (∀ i, (10 ≤ i ∧ i < 1000) ∨ i = -3 ∨ i = -4 → m' i = m i) ∧ m' (-2) 0 ≤ m (-2) 0 + 1 + 10 * d ∧ m' (-2) 1 ≤ m (-2) 1 + 10 + 700 * d
theorem rel_newact (h : RelM r m) (g : Rg r) (w0 : 0 ≤ w) (w1 : w < r 16 0) (n80 : r 22 w < 80) (em : ∀ i, i ≠ 1 → i ≠ Rl r w → i ≠ Rl r w + 5 → i ≠ Rl r w + 100 + r 22 w → i ≠ -1 → i ≠ -2 → m' i = m i) (ez : ∀ i, i ≠ Rl r w + 100 + r 22 w → m' (-1) i = m (-1) i) (e1 : ∀ j, m' 1 j = if j = 6 then m 1 6 + 1 else m 1 j) (eR : ∀ j, m' (Rl r w) j = if j = 3 then r 22 w + 1 else m (Rl r w) j) (e5 : ∀ j, m' (Rl r w + 5) j = if j = r 22 w then Rl r w + 100 + r 22 w else m (Rl r w + 5) j) (eI : m' (Rl r w + 100 + r 22 w) 0 = Rl r w ∧ m' (Rl r w + 100 + r 22 w) 1 = r 22 w ∧ m' (Rl r w + 100 + r 22 w) 2 = q ∧ m' (Rl r w + 100 + r 22 w) 3 = m (100000 * (w + 1)) 2 ∧ m' (Rl r w + 100 + r 22 w) 4 = m 1 6 ∧ m' (Rl r w + 100 + r 22 w) 5 = 1000 * m (100000 * (w + 1)) 0 + 100 * m (100000 * (w + 1)) 5 + r 22 w ∧ m' (Rl r w + 100 + r 22 w) 6 = 0 ∧ m' (Rl r w + 100 + r 22 w) 7 = m 1 7 ∧ m' (Rl r w + 100 + r 22 w) 9 = 0) : RelM (paR w q r) m' := by
  have s := g.2.2 w w0 w1
  obtain ⟨s1, s2, s3, s4, s5, s6⟩ := s
  have b10 := g.1
  have eR9 : Rl r w = 100000 * (w + 1) + 10000 * r 12 w := rfl
  obtain ⟨f1, f2, f3, f4, f5⟩ := h.2.2.2.2.2.1 w w0 w1
  obtain ⟨⟨q0, q1, q2, q3, q4, q5, q6, q7⟩, q8⟩ := h.1
  have eRl : ∀ w2, Rl (paR w q r) w2 = Rl r w2 := fun w2 => by unfold Rl; rw [pa_j (by omega)]
  obtain ⟨v22, v29, v23, v24, v25, v26, v28⟩ := pa_v (w := w) (q := q) (r := r)
  have m22 : ∀ w2, r 22 w2 ≤ paR w q r 22 w2 := fun w2 => by
    by_cases c : w2 = w
    · rw [c, v22]; omega
    · rw [pa_o (by omega)]; exact Int.le_refl _
  have fz := h.2.2.2.2.2.2.2
  refine h.flow g w0 w1 ⟨⟨?_, ?_, ?_, ?_, ?_, ?_, ?_, ?_⟩, fun w2 a b => ?_⟩ (fun i hi => em i (by omega) (by omega) (by omega) (by omega) (by omega) (by omega)) (fun j a b => pa_j (by omega)) (by rw [pa_j (by omega)]) (fun j i a b c d e => pa_o (fun hh => e (by unfold Own; omega))) (fun q2 a b => (h.2.2.2.1 q2 a b).fr a b (fun i c => em i (by omega) (by omega) (by omega) (by omega) (by omega) (by omega)) (fun j c d => pa_j (by omega))) (fun q2 a b => (h.2.2.2.2.1 q2 a b).fr a b (fun i c => em i (by omega) (by omega) (by omega) (by omega) (by omega) (by omega)) (pa_j (by omega)) (pa_j (by omega)) (by rw [pa_j (by omega)]; exact Int.le_refl _) (fun w2 c d => by rw [pa_j (by omega)]) (fun w2 c d => m22 w2)) ⟨f1.fr (fun i a b => em i (by omega) (by omega) (by omega) (by omega) (by omega) (by omega)) (fun j i a b => by rw [pa_j (by omega)]), f2.frow s1 s2 (fun row a b => (s6 row a b).2) (fun k i a b c d e => em i (by omega) (by omega) (by omega) (by omega) (by omega) (by omega)) ⟨?_, ?_, ?_, ?_⟩ (fun j i a b => by rw [pa_j (by omega)]), ?_, fun n2 a b => ?_, f5.fr s4.2 (em _ (by omega) (by omega) (by omega) (by omega) (by omega) (by omega)) (fun j i a b => by rw [pa_j (by omega)])⟩ (h.2.2.2.2.2.2.1.fr (fun w2 a b => by rw [em _ (by omega) (by omega) (by omega) (by omega) (by omega) (by omega)]) (by rw [pa_j (by omega)]) (fun j a => pa_j (by omega))) ⟨fun w2 a b i c d => ?_, fun w2 a b i c d => ?_, fun t a b i c d => ?_⟩
  · rw [e1, if_f (by decide)]; exact q0
  · rw [e1, if_f (by decide)]; exact q1
  · rw [e1, if_f (by decide)]; exact q2
  · rw [e1, if_f (by decide)]; exact q3
  · rw [e1, if_f (by decide)]; exact q4
  · rw [e1, if_f (by decide), pa_j (by omega)]; exact q5
  · rw [e1, if_t rfl, v29, q6]
  · rw [e1, if_f (by decide), pa_j (by omega)]; exact q7
  · rw [pa_j (by omega)] at b
    rw [em 3 (by omega) (by omega) (by omega) (by omega) (by omega) (by omega)]; exact q8 w2 a b
  · rw [eR, if_f (by decide)]
  · rw [eR, if_f (by decide)]
  · rw [eR, if_f (by decide)]
  · rw [eR, if_f (by decide)]
  · unfold Lt at *
    rw [eRl, v22, pa_j (by omega), pa_j (by omega), pa_j (by omega), pa_j (by omega), eR, eR, eR, eR, eR, if_t rfl, if_f (by decide), if_f (by decide), if_f (by decide), if_f (by decide)]
    exact ⟨rfl, f3.2⟩
  · rw [v22] at b
    rw [eRl, e5]
    by_cases c : n2 = r 22 w
    · rw [if_t c, c]
      refine ⟨rfl, ?_⟩
      unfold ActC
      rw [eRl, v24, v25, v23, v26, v28, pa_j (j := 8) (by omega), pa_j (j := 12) (by omega)]
      obtain ⟨i0, i1, i2, i3, i4, i5, i6, i7, i9⟩ := eI
      rw [f1.1.1, f1.1.2.2.2.2.2.1] at i5
      exact ⟨⟨i0, i1, i2, by rw [i3]; exact f1.1.2.2.1, by rw [i4]; exact q6, i5, i9⟩, Or.inl ⟨rfl, i6, by rw [i7]; exact q7⟩⟩
    · rw [if_f c, em (Rl r w + 100 + n2) (by omega) (by omega) (by omega) (by omega) (by omega) (by omega)]
      have u := f4 n2 a (by omega)
      exact ⟨u.1, u.2.fr (by rw [pa_j (by omega)]) (by rw [pa_j (by omega)]) (fun j d e => pa_o (by omega))⟩
  · rw [pa_j (by omega)] at a
    rw [ez i (by omega)]
    exact fz.1 w2 a b i c d
  · rw [pa_j (by omega)] at b
    rw [eRl] at c
    have h22 := m22 w2
    have t := g.2.2 w2 a b
    have t1 := t.1
    have t3 := t.2.2.1
    have eR2 : Rl r w2 = 100000 * (w2 + 1) + 10000 * r 12 w2 := rfl
    by_cases e : w2 = w
    · rw [e] at c d
      rw [v22] at c
      rw [ez i (by omega)]
      exact fz.2.1 w w0 w1 i (by omega) d
    · rw [ez i (by omega)]
      exact fz.2.1 w2 a b i (by omega) d
  · rw [pa_j (by omega)] at c
    have g6 := g.2.1 t a b
    rw [ez i (by omega)]
    exact fz.2.2 t a b i c d
theorem put_m {R : Int} (hR : 1000 < R) : (∀ i, i < R + 1 ∨ R + 4 < i → put9 (R + 1) k x y m i = m i) ∧ (∀ j, j ≠ 3 → put9 (R + 1) k x y m (R + 1) j = m (R + 1) j) := by
  refine ⟨fun i hi => ?_, fun j hj => ?_⟩
  · unfold put9
    rw [upd9_row (by omega), upd9_row (by omega), upd9_row (by omega), upd9_row (by omega)]
  · unfold put9
    rw [upd9_n (by omega), upd9_n (by omega), upd9_n (by omega), upd9_n (by omega)]
theorem rg_wr (g : Rg r) (w0 : 0 ≤ w) (w1 : w < r 16 0) (b80 : r 18 (rw9 r w) < 80) : Rg (wr w k x y r) := by
  have s := g.2.2 w w0 w1
  have s1 := s.1
  have s2 := s.2.1
  have e : rw9 r w = 9 * w + r 12 w - 1 := rfl
  have s6 := s.2.2.2.2.2 (rw9 r w) (by omega) (by omega)
  unfold Rg Sz at *
  simp (disch := omega) only [wr_n]
  refine ⟨g.1, g.2.1, fun w2 a b => ?_⟩
  obtain ⟨a1, a2, a3, a4, a5, a6⟩ := g.2.2 w2 a b
  refine ⟨a1, a2, a3, a4, a5, fun row c d => ?_⟩
  by_cases f : row = rw9 r w
  · rw [f, wr_18]; omega
  · rw [wr_o (by omega) (by omega)]; exact a6 row c d
/-- an activity is decided -/
theorem RelK.act (h : RelK N uf r m) (w0 : 0 ≤ w) (w1 : w < r 16 0) (hr : r 17 (rw9 r w) = 20) (b80 : r 18 (rw9 r w) < 80) (hk9 : k = 8 ∨ k = 15) (hl : 7 ≤ hk r w (r 18 (rw9 r w) - 1)) (h29 : r 29 0 + 1 ≤ 100 * N) (hN : N ≤ 601) : ∃ m', X11_takeEffect 1 (100000 * (w + 1)) k x y (put9 (Rl r w + 1) k x y m) = some (0, m') ∧ RelK N uf (paR w y (wr w k x y r)) m' ∧ StF 0 m m' := by
  have g := h.2.2.rg
  have b10 := g.1
  have s := g.2.2 w w0 w1
  have s1 := s.1
  have s2 := s.2.1
  have lt := h.2.2.lt w0 w1
  have gi := h.2.2
  have hi := gi.hi w0 w1
  have ew : rw9 r w = 9 * w + r 12 w - 1 := rfl
  have eR : Rl r w = 100000 * (w + 1) + 10000 * r 12 w := rfl
  have p := rel_put (k := k) (x := x) (y := y) h.1 g w0 w1 b80
  have gz := rg_wr (k := k) (x := x) (y := y) g w0 w1 b80
  obtain ⟨z, hz⟩ : ∃ z, z = wr w k x y r := ⟨_, rfl⟩
  have zn : ∀ j : Nat, j < 18 ∨ 21 < j → z j = r j := fun j hj => by rw [hz]; exact wr_n hj
  have zo : ∀ (j : Nat) i, (j = 18 → i ≠ rw9 r w) → (19 ≤ j → j ≤ 21 → i ≠ 80 * rw9 r w + r 18 (rw9 r w)) → z j i = r j i := fun j i a b => by rw [hz]; exact wr_o a b
  have z18 : z 18 (rw9 r w) = r 18 (rw9 r w) + 1 := by rw [hz]; exact wr_18
  have z19 : z 19 (80 * rw9 r w + r 18 (rw9 r w)) = k := by rw [hz]; exact wr_v.1
  have eRz : Rl z w = Rl r w := by unfold Rl; rw [zn 12 (by omega)]
  have e9z : rw9 z w = rw9 r w := by unfold rw9; rw [zn 12 (by omega)]
  obtain ⟨pm, pj⟩ := put_m (k := k) (x := x) (y := y) (m := m) (R := Rl r w) (by omega)
  obtain ⟨mp, hmp⟩ : ∃ mp, mp = put9 (Rl r w + 1) k x y m := ⟨_, rfl⟩
  rw [← hz] at p gz
  rw [← hmp] at p pm pj ⊢
  have fA := h.1.2.2.2.2.2.1 w w0 w1
  have f := fA.1
  have l := fA.2.2.1
  have u := fA.2.1 (r 12 w) s1 (Int.le_refl _)
  rw [← eR] at u
  have rt := h.1.1
  have c29 := gi.2.2.2.2.2.2.2.2.2.1
  have c9 := gi.2.2.2.2.2.2.2.2
  have mA : mp (100000 * (w + 1)) = m (100000 * (w + 1)) := pm _ (by omega)
  have mR : mp (Rl r w) = m (Rl r w) := pm _ (by omega)
  have m1 : mp 1 = m 1 := pm _ (by omega)
  have fz0 := h.1.2.2.2.2.2.2.2.2.1 w w0 w1 (Rl r w + 100 + r 22 w) (by omega) (by omega)
  obtain ⟨m', y0, y1, y2, y3, y4, y5, y6, y7⟩ := x_newact (m := mp) (A := 100000 * (w + 1)) (R := Rl r w) (n := r 22 w) (l := k) (a := x) (q := y) (by omega) (by omega) (by rw [mA]; exact f.1.2.2.2.2.2.2.1) (by rw [mR]; exact l.1) (by rw [mR]; exact u.1.2.1) (by omega) (by omega) (by rw [mA, f.1.1, f.1.2.2.2.2.2.1]; omega) (by rw [pm _ (by omega)]; exact fz0) (by rw [m1, rt.1.2.2.2.2.2.2.1]; omega) hk9
  have rn : RelM (paR w y z) m' := by
    refine rel_newact p gz w0 (by rw [zn 16 (by omega)]; exact w1) (by rw [zn 22 (by omega)]; omega) ?_ ?_ y4 ?_ ?_ ?_
    · rw [eRz, zn 22 (by omega)]; exact y1
    · rw [eRz, zn 22 (by omega)]; exact y2
    · rw [eRz, zn 22 (by omega)]; exact y5
    · rw [eRz, zn 22 (by omega)]; exact y6
    · rw [eRz, zn 22 (by omega)]; exact y7
  obtain ⟨v22, v29, v23, v24, v25, v26, v28⟩ := pa_v (w := w) (q := y) (r := z)
  rw [zn 22 (by omega)] at v22 v23 v24 v25 v26 v28
  rw [zn 29 (by omega)] at v29
  have pz : ∀ (j : Nat), j < 18 ∨ j = 27 ∨ 29 < j → paR w y z j = r j := fun j hj => by rw [pa_j (by omega), zn j (by omega)]
  have po : ∀ (j : Nat) i, ¬ (j = 22 ∧ i = w ∨ (23 ≤ j ∧ j ≤ 28 ∧ j ≠ 27) ∧ i = 80 * w + r 22 w ∨ j = 29 ∧ i = 0) → (18 ≤ j → 21 < j) → paR w y z j i = r j i := fun j i a b => by rw [pa_o (by rw [zn 22 (by omega)]; exact a), zn j (by omega)]
  have z1 : ∀ p : Int → Bool, p k = true → (if p k = true then (1 : Int) else 0) = 1 := fun p e => by rw [e]; rfl
  have z0 : ∀ p : Int → Bool, p k = false → (if p k = true then (1 : Int) else 0) = 0 := fun p e => by rw [e]; rfl
  have zp : pA k = true ∧ pT k = false ∧ pM k = false := by
    rcases hk9 with rfl | rfl <;> exact ⟨rfl, rfl, rfl⟩
  refine ⟨m', y0, ?_, ⟨fun i hi => by rw [y1 i (by omega) (by omega) (by omega) (by omega) (by omega) (by omega), pm i (by omega)], by rw [y3.1, pm (-2) (by omega)]; omega, by rw [y3.2, pm (-2) (by omega)]; omega⟩⟩
  rw [← hz]
  refine h.comb (k := k) (x := x) (y := y) w0 w1 b80 (by omega) rn (gi.own w0 w1 (fun j a b c d e => pz j (by omega)) ?_ (fun i a => by rw [pz 13 (by omega)]) (fun i a => by rw [pz 17 (by omega)]) (Or.inl (by rw [pz 17 (by omega)])) (fun i a => by rw [pa_j (by omega), zo 18 i (by omega) (by omega)]) (fun j i a b c => by rw [pa_j (by omega), zo j i (by omega) (by omega)]) (fun j i a b => po j i (by omega) (by omega)) (fun j i a b => po j i (by omega) (by omega)) ?_ (by rw [pz 32 (by omega)]; exact Int.le_refl _) (fun n a b => by rw [pz 33 (by omega)]) (fun n a b => by rw [pz 32 (by omega)] at b; omega) (fun n2 a b => ?_) (fun q a b => ?_) ?_) (fun w2 a b => ?_) (fun j hj => by rw [← hz, pa_j (by omega)])
  · have f := h.2.2.2.2.1
    unfold Fb Pt at *
    simp (disch := omega) only [pz]
    exact f
  · refine hi.app (k := k) (b := r 18 (rw9 r w)) rfl b80 hr (by omega) (by omega) (fun e => by omega) (fun _ => hl) (by rw [pz 12 (by omega)]) (by rw [pa_j (by omega)]; exact z18) (by rw [pa_j (by omega)]; exact z19) (fun j i a b c d => by rw [pa_j (by omega), zo j _ (by omega) (by omega)]) (by rw [v22, z1 _ zp.1]) (by rw [pz 30 (by omega), z0 _ zp.2.1]; omega) (by rw [pz 32 (by omega), z0 _ zp.2.2]; omega) (fun n a b e => by rw [po 23 _ (by omega) (by omega)]; exact e) (fun n a b => by rw [pz 33 (by omega)]) (fun n a b e f => ?_)
    have : ∀ w2, rw9 (paR w y z) w2 = rw9 r w2 := fun w2 => by unfold rw9; rw [pz 12 (by omega)]
    rw [this, pz 17 (by omega)]; exact f
  · rw [v22] at b
    by_cases e : n2 = r 22 w
    · rw [e, v23, v25]
      exact ⟨fun _ => by omega, fun e => by omega, fun e => by omega⟩
    · have k9 := gi.2.2.2.2.2.2.2.1.2 w n2 w0 w1 a (by omega)
      rw [po 23 _ (by omega) (by omega), po 25 _ (by omega) (by omega), po 26 _ (by omega) (by omega), po 27 _ (by omega) (by omega)]
      exact k9
  · have k9 := (gi.2.2.2.2.2.2.2.1.1 q a b).2
    have wk := (h.1.2.2.2.2.1 q a b).2.2
    rw [pz 39 (by omega)]
    rcases k9 with k9 | k9
    · exact Or.inl k9
    · refine Or.inr ?_
      rcases wk with wk | ⟨w3, n3, a1, a2, a3, a4, a5, a6⟩
      · rw [wk.1] at k9
        by_cases e : (-1 : Int) = 80 * w + r 22 w
        · omega
        · rw [wk.1, po 23 _ (by omega) (by omega)]; exact k9
      · have l3 := gi.lt a1 a2
        by_cases e : w3 = w
        · rw [e] at a4 a5
          rw [po 23 _ (by omega) (by omega)]; exact k9
        · rw [po 23 _ (by omega) (by omega)]; exact k9
  · rw [v29]; omega
  · have t1 := (g.2.2 w2 a b).1
    have t2 := (g.2.2 w2 a b).2.1
    have eR2 : Rl r w2 = 100000 * (w2 + 1) + 10000 * r 12 w2 := rfl
    rw [← hmp]
    by_cases e : w2 = w
    · rw [e, y5, y5, if_f (by decide), if_f (by decide)]
      exact ⟨rfl, rfl⟩
    · rw [y1 _ (by omega) (by omega) (by omega) (by omega) (by omega) (by omega)]
      exact ⟨rfl, rfl⟩
end EB
