/-! what always holds besides, when a run is over -/
section OVR
variable {X Y Z : Int → Prop} {r r' z : Rst} {w c s x v row : Int}
theorem Sov.n (h : Sov s) : s ≠ 20 ∧ s ≠ 24 ∧ (s ≠ 14 → 20 ≤ s ∧ s ≤ 24) := by
  unfold Sov at h
  omega
/-- the state of a run that is over -/
theorem Px.ovr (h : Px nob nob (fun c => c = w) r) (w0 : 0 ≤ w) (w1 : w < r 16 0) (hs : Sov s) (hS : Sx (rwf r 19 (rw9 r w)) (rwf r 20 (rw9 r w)) (r 18 (rw9 r w)) s) (hC : Ct3 r w) (h15 : r 15 w = -1) : Px (fun c => c = w) (fun c => c = w ∧ s = 14) nob (ur r 17 (rw9 r w) s) := by
  have hr9 : rw9 r w = 9 * w + r 12 w - 1 := rfl
  obtain ⟨q1, q2, q3, q4, q5, q6, q7, q8, q9⟩ := h.pw w0 w1
  obtain ⟨s1, s2, s3⟩ := hs.n
  have u : ∀ j : Nat, j ≠ 17 → ur r 17 (rw9 r w) s j = r j := fun j a => ur_ne a
  have u17 : ur r 17 (rw9 r w) s 17 (rw9 r w) = s := ur_e rfl rfl
  have u17n : ∀ i, i ≠ rw9 r w → ur r 17 (rw9 r w) s 17 i = r 17 i := fun i hi => ur_n (by omega)
  have urw : rw9 (ur r 17 (rw9 r w) s) w = rw9 r w := rw9_e (u 12 (by omega))
  generalize ur r 17 (rw9 r w) s = y at *
  refine h.one (w := w) w0 w1 (by rw [u 16 (by omega)]) (fun d _ => by rw [u 12 (by omega)]) (fun i _ => by rw [u 18 (by omega)]) (fun d d0 d1 d2 j i hi => ?_) (Or.inl ⟨by rw [u 12 (by omega)], by rw [u 32 (by omega)]; omega⟩) (fun k a b => ?_) (h.2.2.2.2.fr (u 39 (by omega))) ?_ fun d hd => ⟨fun a => a.elim, fun a => a.elim, fun a => absurd a hd⟩
  · by_cases j17 : j = 17
    · subst j17; exact u17n i (by unfold Own at hi; omega)
    · rw [u j j17]
  · rw [u 12 (by omega)] at a
    rw [u 18 (by omega)]
    have := h.1
    exact h.2.2.2.1 w k w0 (by omega) a b
  · unfold Pw
    rw [urw, u17, u 15 (by omega), u 12 (by omega), u 14 (by omega), u 22 (by omega), u 23 (by omega), u 9 (by omega), u 10 (by omega), u 11 (by omega), u 32 (by omega), u 33 (by omega), u 16 (by omega)]
    have fr : ∀ row, Hr r row → Hr y row := fun row hh => hh.fr (by rw [u 18 (by omega)]) fun j i _ _ _ _ => by rw [u j (by omega)]
    refine ⟨q1, fun k a b => ?_, fr _ q3, fun _ => ⟨?_, ?_⟩, fun n => s3 fun e => n ⟨rfl, e⟩, ⟨q6.1, by omega, fun _ => h15⟩, fun x => absurd rfl x, q8, q9⟩
    · obtain ⟨g1, g2, g3⟩ := q2 k a b
      have e17 := u17n (9 * w + k - 1) (by omega)
      exact ⟨fr _ g1, g2.fr g1.n e17 (by rw [u 18 (by omega)]) fun j i _ _ _ _ => by rw [u j (by omega)], by rw [e17]; exact g3⟩
    · unfold Sr rwf at *
      rw [u17, u 18 (by omega), u 19 (by omega), u 20 (by omega)]
      exact hS
    · exact hC.fr q3.n urw ⟨by rw [u 22 (by omega)], by rw [u 30 (by omega)], by rw [u 32 (by omega)]⟩ (by rw [u 18 (by omega)]) fun j i _ _ _ _ => by rw [u j (by omega)]
/-- the new run of AGAIN -/
theorem Px.nrun (h : Px X Y nob r) (w0 : 0 ≤ w) (w1 : w < r 16 0) (r8 : r 12 w ≤ 8) (h14 : r 17 (rw9 r w) = 14) (bv : B3 v) (nr : NRun r w v r') : Px X (fun c => Y c ∧ c ≠ w) nob r' := by
  have hr9 : rw9 r w = 9 * w + r 12 w - 1 := rfl
  have r10 := h.1
  obtain ⟨n1, n2, n3, n4, n5, n6⟩ := nr
  obtain ⟨q1, q2, q3, q4, q5, q6, q7, q8, q9⟩ := h.pw w0 w1
  have urw : rw9 r' w = 9 * w + r 12 w := by unfold rw9; rw [n1]; omega
  refine h.one (w := w) w0 w1 (n6 16 0 (by omega)) (fun d _ => n6 12 d (by omega)) (fun i _ => n6 18 i (by omega)) (fun d d0 d1 d2 j i hi => n6 j i (by unfold Own at hi; omega)) (Or.inr (by omega)) (fun k a b => ?_) (h.2.2.2.2.fr (by funext i; exact n6 39 i (by omega))) ?_ fun d hd => ⟨id, fun a => ⟨a, hd⟩, id⟩
  · rw [n6 18 _ (by omega)]
    exact h.2.2.2.1 w k w0 (by omega) (by omega) b
  · unfold Pw
    rw [urw, n1, n2, n4.1, n4.2.1, n4.2.2.1, n4.2.2.2.2, n6 9 w (by omega), n6 10 w (by omega), n6 11 w (by omega), n6 16 0 (by omega)]
    have rows : ∀ k, 1 ≤ k → k ≤ r 12 w → r' 17 (9 * w + k - 1) = r 17 (9 * w + k - 1) ∧ r' 18 (9 * w + k - 1) = r 18 (9 * w + k - 1) ∧ ∀ (j : Nat) i, 19 ≤ j → j ≤ 21 → 0 ≤ i → i < 80 → r' j (80 * (9 * w + k - 1) + i) = r j (80 * (9 * w + k - 1) + i) := fun k k0 k1 => ⟨n6 17 _ (by omega), n6 18 _ (by omega), fun j i a b c d => n6 j _ (by omega)⟩
    refine ⟨by omega, fun k a b => ?_, ?_, fun _ => ⟨?_, ?_⟩, fun _ => by omega, ⟨⟨by decide, by decide⟩, by decide, fun _ => rfl⟩, fun _ h => absurd rfl h, fun p => ?_, fun n a b c => by omega⟩
    · obtain ⟨e1, e2, e3⟩ := rows k a (by omega)
      by_cases d : k < r 12 w
      · obtain ⟨g1, g2, g3⟩ := q2 k a d
        exact ⟨g1.fr e2 e3, g2.fr g1.n e1 e2 e3, by rw [e1]; exact g3⟩
      · obtain rfl : k = r 12 w := by omega
        rw [← hr9] at e1 e2 e3 ⊢
        exact ⟨q3.fr e2 e3, (q4 (fun a => a)).1.fr q3.n e1 e2 e3, by rw [e1]; exact h14⟩
    · unfold Hr rwf
      rw [n3]
      refine ⟨by omega, ⟨by dsimp only; rw [Int.add_zero]; exact n5.1, by dsimp only; rw [Int.add_zero, n5.2.1]; exact bv⟩, fun i a b => by omega, fun i j a b c => by omega⟩
    · unfold Sr
      rw [n2, n3]
      exact ⟨fun i a b => by omega, fun h => absurd rfl h⟩
    · unfold Ct3
      rw [urw, n4.2.2.1, n4.2.2.2.1, n4.2.2.2.2]
      exact ⟨cntP_0, cntP_0, cntP_0⟩
    · obtain ⟨p1, p2, p3, p4⟩ := q8 p
      rw [n6 12 _ (by omega), n6 32 _ (by omega)]
      exact ⟨p1, p2, p3, p4⟩
/-- one row of the histories, and its run's state, are kept -/
def Rk (row : Int) (z r : Rst) : Prop := r 17 row = z 17 row ∧ r 18 row = z 18 row ∧ ∀ (j : Nat) i, 19 ≤ j → j ≤ 21 → 0 ≤ i → i < 80 → r j (80 * row + i) = z j (80 * row + i)
theorem Rk.rf : Rk row r r := ⟨rfl, rfl, fun _ _ _ _ _ _ => rfl⟩
theorem Rk.tr (h : Rk row z r) (k : Rk row r r') : Rk row z r' := ⟨k.1.trans h.1, k.2.1.trans h.2.1, fun j i a b c d => (k.2.2 j i a b c d).trans (h.2.2 j i a b c d)⟩
theorem Rk.ev {k x y : Int} (h : Rk row z r) (hc : rw9 r c ≠ row) (n0 : 0 ≤ r 18 (rw9 r c)) (n8 : r 18 (rw9 r c) < 80) : Rk row z (wr c k x y r) := h.tr ⟨by rw [wr_n (by omega)], wr_o (by omega) (by omega), fun j i a b d e => wr_o (by omega) (by omega)⟩
theorem Kp.rk (h : Kp w z r) (w0 : 0 ≤ w) : Rk (rw9 z w) z r := by
  obtain ⟨a, b, d⟩ := h.2 w w0 (Int.le_refl _)
  refine ⟨b, d 18 _ (Or.inl ⟨rfl, rfl⟩), fun j i j0 j1 i0 i1 => d j _ (Or.inr ?_)⟩
  omega
theorem Px.rne (h : Px X Y Z r) (w0 : 0 ≤ w) (w1 : w < r 16 0) (c0 : 0 ≤ c) (c1 : c < r 16 0) (hc : c ≠ w) : rw9 r c ≠ rw9 r w := by
  have a := (h.bb w0 w1).2.1
  have b := (h.bb c0 c1).2.1
  unfold rw9
  omega
/-- the signals that were not taken are told again, and the CANCEL -/
theorem p_over39 (w0 : 0 ≤ w) (w1 : w < z 16 0) : ∀ (t : Nat) (l : Int) (r : Rst), Px nob nob nob r → (∀ i, 0 < i → i < r 18 (rw9 r w) → hk r w i ≠ 6) → (∀ k, B3 (r 66 k)) → (∀ j : Nat, j < 18 ∨ 21 < j → r j = z j) → row ≠ rw9 z w → Rk row z r → Pv (fun r' => Px nob nob nob r' ∧ (∀ j : Nat, j < 18 ∨ 21 < j → r' j = z j) ∧ Rk row z r') (G_over_39 G_over_94 t w l r) := by
  intro t
  induction t with
  | zero => intro l r _ _ _ _ _ _; exact Pv.no
  | succ t ih =>
    intro l r h h6 h66 hf hrow rk
    have er : rw9 r w = rw9 z w := rw9_e (hf 12 (by omega))
    have w2 : w < r 16 0 := by rw [hf 16 (by omega)]; exact w1
    have bb := h.bb w0 w2
    rw [G_over_39]
    refine Pv.ite (fun c => ?_) fun c => Pv.chk fun _ => Pv.ite (fun c1 => Pv.chk fun _ => Pv.chk fun _ => ?_) fun c1 => Pv.chk fun _ => ih _ _ h h6 h66 hf hrow rk
    · unfold G_over_94
      refine Pv.ite (fun _ => Pv.ret ⟨h, hf, rk⟩) fun _ => ?_
      obtain ⟨v, r1, k1, k2, k3⟩ := h.happens (k := 6) (x := 0) (y := 0) w0 w2 (fun _ _ => ⟨by omega, fun h => by omega, fun h => by omega, fun h => by omega, fun h => by omega, fun h => by omega, fun _ i i0 i1 => h6 i i0 i1⟩) (by decide)
      rw [k1, cag_e]
      have fin : Px nob nob nob r1 ∧ (∀ j : Nat, j < 18 ∨ 21 < j → r1 j = z j) ∧ Rk row z r1 := by
        rcases k2 with ⟨rfl, -⟩ | ⟨rfl, -, -, k4⟩
        · exact ⟨k3, hf, rk⟩
        · exact ⟨k3, fun j hj => by rw [wr_n hj, hf j hj], rk.ev (by rw [er]; exact hrow.symm) (by omega) (by omega)⟩
      exact Pv.ite (fun _ => Pv.ret fin) fun _ => Pv.ret fin
    · obtain ⟨v, r1, k1, k2, k3⟩ := h.happens (k := 4) (x := r 65 l) (y := r 66 l) w0 w2 (fun _ _ => ⟨by omega, fun h => by omega, fun h => by omega, fun h => by omega, fun h => by omega, fun _ => h66 l, fun h => by omega⟩) (by decide)
      rw [k1, cag_e]
      have fin : Pv (fun r' => Px nob nob nob r' ∧ (∀ j : Nat, j < 18 ∨ 21 < j → r' j = z j) ∧ Rk row z r') (G_over_39 G_over_94 t w (l + 1) r1) := by
        rcases k2 with ⟨rfl, -⟩ | ⟨rfl, -, -, k4⟩
        · exact ih _ _ h h6 h66 hf hrow rk
        · refine ih _ _ k3 (fun i i0 i1 => ?_) (by rw [wr_n (by omega)]; exact h66) (fun j hj => by rw [wr_n hj, hf j hj]) hrow (rk.ev (by rw [er]; exact hrow.symm) (by omega) (by omega))
          rw [hk_wr]
          rw [rw9_wr, wr_18] at i1
          by_cases e : i = r 18 (rw9 r w)
          · rw [if_t e]; decide
          · rw [if_f e]; exact h6 i i0 (by omega)
      exact Pv.ite (fun _ => Pv.chk fun _ => fin) fun _ => Pv.chk fun _ => fin
/-- what stands behind a run's end -/
def Ovd (w s row : Int) (z r : Rst) : Prop := (r 17 row = s ∧ r 18 row = z 18 row ∧ ∀ (j : Nat) i, 19 ≤ j → j ≤ 21 → 0 ≤ i → i < 80 → r j (80 * row + i) = z j (80 * row + i)) ∧ r 12 w = z 12 w + (if s = 14 then 1 else 0) ∧ (s ≠ 14 → r 14 w = z 14 w) ∧ ∀ j : Nat, j < 9 → r j = z j
theorem p_over (h : Px nob nob (fun c => c = w) z) (w0 : 0 ≤ w) (w1 : w < z 16 0) (hs : Sov s) (hS : Sx (rwf z 19 (rw9 z w)) (rwf z 20 (rw9 z w)) (z 18 (rw9 z w)) s) (hC : Ct3 z w) (h15 : z 15 w = -1) (h14 : s = 14 → z 12 w ≤ 8) (bx : B3 x) (h66 : ∀ k, B3 (z 66 k)) : Pv (fun r' => Px nob nob nob r' ∧ Ovd w s (rw9 z w) z r') (G_over w s x z) := by
  have hb := h.bb w0 w1
  have h1 := h.ovr w0 w1 hs hS hC h15
  have u : ∀ j : Nat, j ≠ 17 → ur z 17 (rw9 z w) s j = z j := fun j a => ur_ne a
  have u17 : ur z 17 (rw9 z w) s 17 (rw9 z w) = s := ur_e rfl rfl
  have urw : rw9 (ur z 17 (rw9 z w) s) w = rw9 z w := rw9_e (u 12 (by omega))
  unfold G_over G_over_0
  rw [g_rowOfRun w0 hb.1 (by omega) hb.2.1.2, cag_e]
  refine Pv.chk fun _ => Pv.st ?_
  generalize ur z 17 (rw9 z w) s = y at *
  refine Pv.cag fun v r e => Pv.chk fun _ => ?_
  obtain ⟨p1, p2⟩ := p_closes w0 (by rw [u 16 (by omega)]; exact w1) h1 v r e
  have rk := p2.rk w0
  have er : rw9 r w = rw9 z w := by rw [p2.rw, urw]
  rw [urw] at rk
  have e12 : r 12 = z 12 := by rw [p2.1 12 (by omega), u 12 (by omega)]
  have e9 : ∀ j : Nat, j < 9 ∨ j = 14 ∨ j = 16 ∨ j = 66 → r j = z j := fun j hj => by rw [p2.1 j (by omega), u j (by omega)]
  have w2 : w < r 16 0 := by rw [e9 16 (by omega)]; exact w1
  have ov0 : r 17 (rw9 z w) = s ∧ r 18 (rw9 z w) = z 18 (rw9 z w) ∧ ∀ (j : Nat) i, 19 ≤ j → j ≤ 21 → 0 ≤ i → i < 80 → r j (80 * rw9 z w + i) = z j (80 * rw9 z w + i) := ⟨rk.1.trans u17, by rw [rk.2.1, u 18 (by omega)], fun j i a b c d => by rw [rk.2.2 j i a b c d, u j (by omega)]⟩
  have r10 := p1.1
  refine Pv.ite (fun c14 => ?_) fun c14 => ?_
  · have e12w : r 12 w = z 12 w := by rw [e12]
    have r8 := h14 c14
    have e18 : r 18 (9 * w + r 12 w) = 0 := by
      have := p1.2.2.2.1 w (r 12 w + 1) w0 (by omega) (by omega) (by omega)
      rw [show 9 * w + (r 12 w + 1) - 1 = 9 * w + r 12 w by omega] at this
      exact this
    obtain ⟨r2, k1, k2⟩ := g_beginsRun (r := r) (v := x) w0 (by omega) (by omega) (by omega) e18
    rw [k1, cag_e]
    have p3 := (p1.nrun w0 w2 (by omega) (by rw [er, ov0.1]; exact c14) bx k2).wk (X' := nob) (Y' := nob) (Z' := nob) fun c => ⟨id, fun a => absurd a.1.1 a.2, id⟩
    obtain ⟨n1, n2, n3, n4, n5, n6⟩ := k2
    have r9 : rw9 r2 w = 9 * w + r 12 w := by unfold rw9; rw [n1]; omega
    have z9 : rw9 z w = 9 * w + z 12 w - 1 := rfl
    have rk2 : Rk (rw9 z w) r r2 := ⟨n6 17 _ (by omega), n6 18 _ (by omega), fun j i a b c d => n6 j _ (by omega)⟩
    intro v3 r3 e3
    obtain ⟨m1, m2, m3⟩ := p_over39 (z := r2) (row := rw9 z w) w0 (by rw [n6 16 0 (by omega)]; exact w2) _ _ r2 p3 (fun i i0 i1 => by rw [r9, n3] at i1; omega) (fun k => by rw [n6 66 k (by omega), e9 66 (by omega)]; exact h66 k) (fun _ _ => rfl) (by omega) Rk.rf v3 r3 e3
    have rk3 := rk2.tr m3
    refine ⟨m1, ⟨rk3.1.trans ov0.1, rk3.2.1.trans ov0.2.1, fun j i a b c d => (rk3.2.2 j i a b c d).trans (ov0.2.2 j i a b c d)⟩, by rw [m2 12 (by omega), n1, if_t c14, e12w], fun h => absurd c14 h, fun j hj => ?_⟩
    rw [m2 j (by omega)]
    funext i
    rw [n6 j i (by omega), e9 j (by omega)]
  · have fin : Px nob nob nob r ∧ Ovd w s (rw9 z w) z r := ⟨p1.wk fun c => ⟨id, fun a => absurd a.2 c14, id⟩, ov0, by rw [e12, if_f c14]; omega, fun _ => by rw [e9 14 (by omega)], fun j hj => e9 j (by omega)⟩
    refine Pv.ite (fun _ => Pv.ret fin) fun cp => Pv.chk fun _ => Pv.chk fun _ => ?_
    have kid := (p1.pw w0 w2).2.2.2.2.2.2.2.1 cp
    generalize r 9 w = p at *
    refine Pv.ite (fun ce => Pv.chk fun _ => ?_) fun _ => Pv.ret fin
    have n5 := kid.2.2.2 ce.symm
    have bp := fin.1.bb kid.1 (show p < r 16 0 by omega)
    have cp3 := ((fin.1.pw kid.1 (show p < r 16 0 by omega)).2.2.2.1 (fun a => a)).2.2.2
    have go : ∀ y, B3 y → Pv (fun r' => Px nob nob nob r' ∧ Ovd w s (rw9 z w) z r') (G_over_166 y (r 11 w) 5 p r) := fun y hy => by
      unfold G_over_166
      obtain ⟨v, r1, k1, k2, k3⟩ := fin.1.happens (k := 5) (x := r 11 w) (y := y) kid.1 (show p < r 16 0 by omega) (fun _ _ => ⟨by omega, fun h => by omega, fun h => by omega, fun h => by omega, fun _ => Int.lt_of_lt_of_le n5 cp3, fun _ => hy, fun h => by omega⟩) (by decide)
      rw [k1, cag_e]
      refine Pv.ret ⟨k3, ?_⟩
      rcases k2 with ⟨rfl, -⟩ | ⟨rfl, -, -, k4⟩
      · exact fin.2
      · have ne := fin.1.rne w0 w2 kid.1 (show p < r 16 0 by omega) (by omega)
        obtain ⟨m1, m2, m3⟩ := (Rk.rf (row := rw9 z w) (r := r)).ev (c := p) (k := 5) (x := r 11 w) (y := y) (by rw [← er]; exact ne) (by omega) (by omega)
        obtain ⟨f1, f2, f3, f4⟩ := fin.2
        exact ⟨⟨m1.trans f1.1, m2.trans f1.2.1, fun j i a b c d => (m3 j i a b c d).trans (f1.2.2 j i a b c d)⟩, by rw [wr_n (by omega)]; exact f2, fun h => by rw [wr_n (by omega)]; exact f3 h, fun j hj => by rw [wr_n (by omega)]; exact f4 j hj⟩
    exact Pv.ite (fun _ => go _ bx) fun _ => go _ ⟨by decide, by decide⟩
end OVR
