/-! what always holds besides, while what was decided is done: children, and the whole of it -/
section DOW
variable {X Y Z : Int → Prop} {r r' z y : Rst} {w c s x v row W a b pa nu p l : Int}
theorem d_child (h : Dz w z l r) (hd : Dh w z) (l0 : 0 ≤ l) (l1 : l < z 76 0) (hk : z 72 l = 12) : Pv (Dz w z (l + 1)) (G_makesChild w l r) := by
  obtain ⟨e1, e2, e3, e4⟩ := h.e hd
  have d0 := hd.1
  have d1 := hd.2.1
  have d2 := hd.2.2.1.2.2
  have d3 := hd.2.2.2.1
  have c1 := cntP_s (q := pM) (f := z 72) l0
  have c2 := cntP_m (q := pM) (f := z 72) (l := l + 1) (n := z 76 0) (by omega) (by omega)
  have c3 := cntP_0 (p := pM) (f := z 72) (n := l.toNat)
  have c4 := cntP_le (p := pM) (f := rwf z 19 (rw9 z w)) (n := (z 18 (rw9 z w)).toNat)
  have pa : pA (z 72 l) = false := decide_eq_false (by omega)
  have pt : pT (z 72 l) = false := decide_eq_false (by omega)
  have pm : pM (z 72 l) = true := decide_eq_true hk
  rw [pm, if_t rfl] at c1
  have h32 := h.2.2.2.2.2.2
  have b75 := (hd.2.2.2.2.2 l l0 l1).2.2
  have f75 : r 75 = z 75 := h.2.1 75 (by omega)
  rw [← f75] at b75
  have r10 := h.1.1
  unfold G_makesChild G_makesChild_0
  refine Pv.chk fun _ => Pv.chk fun _ => Pv.chk fun _ => Pv.chk fun _ => Pv.chk fun _ => Pv.ste fun y ey => ?_
  have yo : ∀ j : Nat, j ≠ 34 → y j = r j := fun j a => by rw [ey, ur_ne a]
  have py : Px nob nob (fun c => c = w) y := h.1.fr fun j hj => yo j (by omega)
  have y16 := yo 16 (by omega)
  have y32 := yo 32 (by omega)
  have yrw : rw9 y w = rw9 r w := rw9_e (yo 12 (by omega))
  have w2 : w < y 16 0 := by rw [y16]; exact e2
  have q10 : Px nob nob (fun c => c = w) (ur (ur y 33 (80 * w + r 32 w) (-1)) 32 w (y 32 w + 1)) := by
    refine py.count d0.1 w2 (by rw [yrw, yo 17 (by omega)]; exact e3) (fun j i a b c => by rw [ur_n (by omega), ur_n (by omega)]) (by rw [ur_e rfl rfl]; omega) fun n n0 n8 n1 => ?_
    rw [ur_e rfl rfl] at n1
    rw [ur_n (by omega)]
    by_cases en : n = r 32 w
    · rw [ur_e rfl (by rw [en])]; exact Or.inl rfl
    · rw [ur_n (by omega)]
      have := (py.pw d0.1 w2).2.2.2.2.2.2.2.2 n n0 n8 (by rw [y32] at n1 ⊢; omega)
      exact this
  have ends : ∀ r', Px nob nob (fun c => c = w) r' → (∀ j : Nat, j < 7 ∨ 40 ≤ j → r' j = r j) → (∀ (j : Nat) i, Own w j i → (7 ≤ j ∧ j ≤ 12 ∨ j = 14 ∨ j = 15 ∨ 17 ≤ j ∧ j ≤ 21) → r' j i = r j i) → r 16 0 ≤ r' 16 0 → r' 22 w = r 22 w → r' 30 w = r 30 w → r' 32 w = r 32 w + 1 → Dz w z (l + 1) r' := fun r' a1 a2 a3 a4 a5 a6 a7 => by
    refine h.nx a1 a2 a3 a4 l0 ?_
    rw [a5, a6, a7, pa, pt, pm, if_t rfl, if_f (show ¬ (false = true) by decide)]
    omega
  refine Pv.ite (fun c10 => ?_) fun c10 => ?_
  · unfold G_makesChild_71
    refine Pv.chk fun _ => Pv.st (Pv.chk fun _ => Pv.chk fun _ => Pv.chk fun _ => Pv.st (Pv.ret ?_))
    rw [ur_n (j := 33) (a := 32) (by omega)]
    refine ends _ q10 (fun j hj => by rw [ur_ne (by omega), ur_ne (by omega), yo j (by omega)]) (fun j i a b => by rw [ur_n (by omega), ur_n (by omega), yo j (by omega)]) (by rw [ur_n (by omega), ur_n (by omega), y16]; omega) (by rw [ur_n (by omega), ur_n (by omega), yo 22 (by omega)]) (by rw [ur_n (by omega), ur_n (by omega), yo 30 (by omega)]) (by rw [ur_e rfl rfl, y32])
  · have W10 : y 16 0 < 10 := by have := py.1; omega
    have e12 := py.2.2.1 (y 16 0) (Int.le_refl _) W10
    have e18 := py.2.2.2.1 (y 16 0) 1 (by omega) W10 (by omega) (by omega)
    rw [show 9 * y 16 0 + 1 - 1 = 9 * y 16 0 by omega] at e18
    refine Pv.chk fun _ => Pv.chk fun _ => Pv.chk fun _ => Pv.chk fun _ => ?_
    obtain ⟨r2, k1, k2⟩ := g_makesFlow (a := y 73 l) (b := y 8 w) (v := y 75 l) (pa := w) (nu := y 32 w) (W := y 16 0) rfl (by omega) W10 e12 e18 (Or.inr ⟨by omega, by omega, by omega⟩)
    rw [k1, cag_e]
    rw [if_f (show ¬ w = -1 by omega)] at k2
    have y160 : y 16 0 = r 16 0 := by rw [y16]
    generalize hW : y 16 0 = W at *
    have k9 := k2
    obtain ⟨n1, n2, n3, n4, n5, n6, n7, n8⟩ := k9
    unfold G_makesChild_71
    refine Pv.chk fun _ => Pv.st (Pv.chk fun _ => Pv.chk fun _ => Pv.chk fun _ => Pv.st (Pv.ret ?_))
    rw [ur_n (j := 33) (a := 32) (by omega), n8 32 w (by omega)]
    have o : ∀ (j : Nat) i, j ≠ 33 → ¬ (j = 32 ∧ i = w) → ur (ur r2 33 (80 * w + r 32 w) W) 32 w (y 32 w + 1) j i = r2 j i := fun j i a b => by rw [ur_n (by omega), ur_n (by omega)]
    have o32 : ur (ur r2 33 (80 * w + r 32 w) W) 32 w (y 32 w + 1) 32 w = y 32 w + 1 := ur_e rfl rfl
    have o33 : ∀ i, ur (ur r2 33 (80 * w + r 32 w) W) 32 w (y 32 w + 1) 33 i = if i = 80 * w + r 32 w then W else y 33 i := fun i => by
      rw [ur_n (by omega)]
      by_cases e : i = 80 * w + r 32 w
      · rw [if_t e, ur_e rfl e]
      · rw [if_f e, ur_n (by omega), n8 33 i (by omega)]
    have ow : ∀ (j : Nat) i, j ≠ 16 → ¬ (j = 32 ∧ i = w) → j ≠ 33 → ¬ Own W j i → ur (ur r2 33 (80 * w + r 32 w) W) 32 w (y 32 w + 1) j i = y j i := fun j i a b c d => by
      rw [o j i c b, n8 j i (by unfold Own at d; omega)]
    generalize ur (ur r2 33 (80 * w + r 32 w) W) 32 w (y 32 w + 1) = u at *
    have old : ∀ c, 0 ≤ c → c < W → ∀ (j : Nat) i, Own c j i → ¬ (j = 32 ∧ i = w) → j ≠ 33 → u j i = y j i := fun c c0 c1 j i hj a b => ow j i (by have := hj.j; omega) a b (hj.ne (by omega))
    have pu : Px nob nob (fun c => c = w) u := by
      refine py.newf (W := W) (v := y 75 l) hW.symm W10 (by rw [o 16 0 (by omega) (by omega)]; exact n1) (by rw [o 12 W (by omega) (by omega)]; exact n3) (by rw [o 17 _ (by omega) (by omega)]; exact n4) (by rw [o 18 _ (by omega) (by omega)]; exact n5) ?_ ?_ ?_ (fun c c0 c1 => ?_) (fun c hc => ow 12 c (by omega) (by omega) (by omega) (by unfold Own; omega)) (fun i hi => by rw [o 18 i (by omega) (by omega), n8 18 i (by omega)]) (by funext i; exact ow 39 i (by omega) (by omega) (by omega) (by unfold Own; omega)) ?_
      · rw [o 14 W (by omega) (by omega), o 15 W (by omega) (by omega), o 22 W (by omega) (by omega), o 30 W (by omega) (by omega), o 32 W (by omega) (by omega)]
        exact n6
      · rw [o 19 _ (by omega) (by omega), o 20 _ (by omega) (by omega)]
        exact ⟨n7.1, n7.2.1⟩
      · rw [yo 75 (by omega)]; exact b75
      · by_cases cw : c = w
        · subst cw
          have q := (q10.pw (w := c) c0 (by rw [ur_n (by omega), ur_n (by omega)]; omega)).fr (r' := ur u 33 (80 * c + r 32 c) (-1)) c0 (fun j i hj => ?_) (by rw [ur_n (by omega), ur_n (by omega), ur_n (by omega), o 16 0 (by omega) (by omega), n1]; omega) fun p0 p1 => ?_
          · obtain ⟨q1, q2, q3, q4, q5, q6, q7, q8, -⟩ := q
            unfold Pw Hr Sr Ct3 rwf rw9 at *
            simp (disch := omega) only [ur_ne] at q1 q2 q3 q4 q5 q6 q7 q8
            refine ⟨q1, q2, q3, fun zz => absurd rfl zz, q5, q6, q7, q8, fun n n0 n8 n1' => ?_⟩
            rw [o33, o 16 0 (by omega) (by omega), n1]
            rw [o32] at n1'
            by_cases en : n = r 32 c
            · rw [en, if_t rfl]; omega
            · rw [if_f (by omega)]
              have := (py.pw c0 (by omega)).2.2.2.2.2.2.2.2 n n0 n8 (by rw [y32] at n1' ⊢; omega)
              omega
          · by_cases j33 : j = 33
            · subst j33
              by_cases e : i = 80 * c + r 32 c
              · rw [ur_e rfl e, ur_n (by omega), ur_e rfl e]
              · rw [ur_n (by omega), ur_n (by omega), ur_n (by omega), o33, if_f e]
            · rw [ur_n (by omega)]
              by_cases j32 : j = 32
              · subst j32
                have ei : i = c := by unfold Own at hj; omega
                rw [ei, ur_e rfl rfl, o32]
              · rw [ur_n (by omega), ur_n (by omega), old c c0 c1 j i hj (by omega) j33]
          · refine Or.inl ⟨?_, ?_⟩
            · rw [ur_n (by omega), ow 12 _ (by omega) (by omega) (by omega) ?_, ur_n (by omega), ur_n (by omega)]
              simp (disch := omega) only [ur_n] at p0 p1 ⊢
              unfold Own; omega
            · simp (disch := omega) only [ur_n] at p0 p1
              simp (disch := omega) only [ur_n]
              rw [ow 32 _ (by omega) (by omega) (by omega) (by unfold Own; omega)]
              omega
        · refine (py.pw c0 (by omega)).fr c0 (fun j i hj => ?_) (by rw [o 16 0 (by omega) (by omega), n1]; omega) fun p0 p1 => Or.inl ⟨ow 12 _ (by omega) (by omega) (by omega) (by unfold Own; omega), ?_⟩
          · by_cases j33 : j = 33
            · subst j33
              rw [o33, if_f (by unfold Own at hj; omega)]
            · exact old c c0 c1 j i hj (by unfold Own at hj; omega) j33
          · by_cases e : y 9 c = w
            · rw [e, o32]; omega
            · rw [ow 32 _ (by omega) (by omega) (by omega) (by unfold Own; omega)]; omega
      · rw [o 9 W (by omega) (by omega), o 10 W (by omega) (by omega), o 11 W (by omega) (by omega), n2.2.2.1, n2.2.2.2.1, n2.2.2.2.2, o32]
        intro _
        rw [o 12 w (by omega) (by omega), n8 12 w (by omega)]
        omega
    refine ends u pu (fun j hj => ?_) (fun j i a b => ?_) ?_ ?_ ?_ ?_
    · funext i
      rw [ow j i (by omega) (by omega) (by omega) (by unfold Own; omega), yo j (by omega)]
    · rw [old w d0.1 (by omega) j i a (by omega) (by omega), yo j (by omega)]
    · rw [o 16 0 (by omega) (by omega), n1]; omega
    · rw [old w d0.1 (by omega) 22 w (by unfold Own; omega) (by omega) (by omega), yo 22 (by omega)]
    · rw [old w d0.1 (by omega) 30 w (by unfold Own; omega) (by omega) (by omega), yo 30 (by omega)]
    · rw [o32, y32]
/-- all that was decided is done, one behind another -/
theorem d_loop {k165 : Int → Int → Rst → Option G2} {Q : Rst → Prop} {l2 : Int} (hd : Dh w z) (hk : ∀ r, Dz w z (z 76 0) r → Pv Q (k165 w l2 r)) : ∀ (t : Nat) (l : Int) (r : Rst), 0 ≤ l → l ≤ z 76 0 → Dz w z l r → Pv Q (G_does_9 k165 t w l2 l r) := by
  intro t
  induction t with
  | zero => intro l r _ _ _; exact Pv.no
  | succ t ih =>
    intro l r l0 l1 h
    have f : ∀ j : Nat, 40 ≤ j → r j = z j := fun j hj => h.2.1 j (Or.inr hj)
    obtain ⟨e1, e2, e3, e4⟩ := h.e hd
    rw [G_does_9, f 76 (by omega), f 72 (by omega), f 73 (by omega), f 74 (by omega)]
    refine Pv.ite (fun c => ?_) fun c => Pv.chk fun _ => ?_
    · obtain rfl : l = z 76 0 := by omega
      exact hk r h
    have l2 : l < z 76 0 := by omega
    have k9 := hd.2.2.2.2.2 l l0 l2
    have nx : ∀ r, Dz w z (l + 1) r → Pv Q (G_does_9 k165 t w _ (l + 1) r) := fun r hr => ih (l + 1) r (by omega) (by omega) hr
    refine Pv.ite (fun c8 => Pv.chk fun _ => Pv.cag fun v r1 e => Pv.chk fun _ => nx _ (d_puts h hd l0 l2 (Or.inl c8) v r1 e)) fun c8 => ?_
    refine Pv.ite (fun c9 => Pv.chk fun _ => Pv.cag fun v r1 e => Pv.chk fun _ => nx _ ?_) fun c9 => ?_
    · obtain ⟨r2, m1, m2, m3⟩ := p_off (n := z 73 l) h.1 ⟨hd.1.1, e4⟩ (k9.2.1 c9)
      rw [m1] at e
      cases e
      exact h.no hd l0 (by omega) m3 fun j _ a _ b => m2.1 j b a
    refine Pv.ite (fun c10 => Pv.chk fun _ => Pv.cag fun v r1 e => Pv.chk fun _ => nx _ (d_timer h hd l0 c10 v r1 e)) fun c10 => ?_
    refine Pv.ite (fun c11 => Pv.chk fun _ => Pv.cag fun v r1 e => Pv.chk fun _ => nx _ ?_) fun c11 => ?_
    · unfold G_setsTimer_ G_setsTimer__0 at e
      rw [if_t rfl] at e
      have e := stg_some (chk_some (chk_some (chk_some e).2).2).2
      cases e
      exact h.no hd l0 (by omega) (h.1.fr fun j hj => ur_ne (by omega)) fun j _ _ a _ => ur_ne a
    refine Pv.ite (fun c12 => Pv.cag fun v r1 e => Pv.chk fun _ => nx _ (d_child h hd l0 l2 c12 v r1 e)) fun c12 => ?_
    refine Pv.ite (fun c13 => Pv.chk fun _ => nx _ (h.no hd l0 (by omega) h.1 fun _ _ _ _ _ => rfl)) fun c13 => ?_
    refine Pv.ite (fun c14 => Pv.chk fun _ => Pv.chk fun _ => Pv.chk fun _ => Pv.chk fun _ => Pv.chk fun _ => Pv.st (Pv.chk fun _ => nx _ (h.no hd l0 (by omega) (h.1.fr fun j hj => ur_ne (by omega)) fun j a _ _ _ => ur_ne a))) fun c14 => ?_
    refine Pv.ite (fun c15 => Pv.chk fun _ => Pv.cag fun v r1 e => Pv.chk fun _ => nx _ (d_puts h hd l0 l2 (Or.inr c15) v r1 e)) fun c15 => ?_
    exact Pv.chk fun _ => nx _ (h.no hd l0 (by omega) h.1 fun _ _ _ _ _ => rfl)
/-- children that could not be made are told -/
def G5 (row : Int) (y r : Rst) : Prop := Px nob nob nob r ∧ (∀ j : Nat, j < 18 ∨ 21 < j → r j = y j) ∧ y 18 row ≤ r 18 row ∧ (∀ (j : Nat) i, 19 ≤ j → j ≤ 21 → 0 ≤ i → i < y 18 row → r j (80 * row + i) = y j (80 * row + i)) ∧ ∀ i, y 18 row ≤ i → i < r 18 row → r 19 (80 * row + i) = 5
theorem d_191 (w0 : 0 ≤ w) (w1 : w < y 16 0) (hrow : row = rw9 y w) (y0 : 0 ≤ y 18 row) : ∀ (t : Nat) (l : Int) (r : Rst), G5 row y r → Pv (G5 row y) (G_does_191 t w l r) := by
  intro t
  induction t with
  | zero => intro l r _; exact Pv.no
  | succ t ih =>
    intro l r h
    obtain ⟨h1, h2, h3, h4, h5⟩ := h
    have er : rw9 r w = row := by rw [hrow]; exact rw9_e (h2 12 (by omega))
    have w2 : w < r 16 0 := by rw [h2 16 (by omega)]; exact w1
    have bb := h1.bb w0 w2
    have ct := ((h1.pw w0 w2).2.2.2.1 (fun a => a)).2.2.2
    rw [G_does_191]
    refine Pv.chk fun _ => Pv.ite (fun c => Pv.ret ⟨h1, h2, h3, h4, h5⟩) fun c => Pv.chk fun _ => Pv.chk fun _ => Pv.chk fun _ => Pv.ite (fun c1 => ?_) fun c1 => Pv.chk fun _ => ih _ _ ⟨h1, h2, h3, h4, h5⟩
    obtain ⟨v, r1, k1, k2, k3⟩ := h1.happens (k := 5) (x := l) (y := -1) w0 w2 (fun _ _ => ⟨by omega, fun h => by omega, fun h => by omega, fun h => by omega, fun _ => Int.lt_of_lt_of_le (show l < r 32 w by omega) ct, fun _ => ⟨by decide, by decide⟩, fun h => by omega⟩) (by decide)
    rw [k1, cag_e]
    have fin : G5 row y r1 := by
      rcases k2 with ⟨rfl, -⟩ | ⟨rfl, -, -, k4⟩
      · exact ⟨h1, h2, h3, h4, h5⟩
      · have a18 := wr_18 (r := r) (w := w) (k := 5) (x := l) (y := -1)
        have a19 := (wr_v (r := r) (w := w) (k := 5) (x := l) (y := -1)).1
        rw [er] at a18 a19 k4
        refine ⟨k3, fun j hj => by rw [wr_n hj, h2 j hj], by omega, fun j i a b d e => ?_, fun i i0 i1 => ?_⟩
        · rw [wr_o (by omega) (fun _ _ => by rw [er]; omega)]
          exact h4 j i a b d e
        · by_cases e : i = r 18 row
          · rw [e]; exact a19
          · rw [wr_o (by omega) (fun _ _ => by rw [er]; omega)]
            exact h5 i i0 (by omega)
    exact Pv.ite (fun _ => Pv.chk fun _ => ih _ _ fin) fun _ => Pv.chk fun _ => ih _ _ fin
/-- what stands behind a decision: the run goes on -/
def Fg (w row : Int) (z r : Rst) : Prop := r 17 row = 20 ∧ z 18 row ≤ r 18 row ∧ (∀ (j : Nat) i, 19 ≤ j → j ≤ 21 → 0 ≤ i → i < z 18 row → r j (80 * row + i) = z j (80 * row + i)) ∧ (∀ i, z 18 row ≤ i → i < r 18 row → r 19 (80 * row + i) = 5) ∧ (r 12 w = z 12 w ∧ r 14 w = z 14 w ∧ r 7 w = z 7 w) ∧ ∀ j : Nat, j < 7 → r j = z j
/-- or it is over -/
def Fo (w s row : Int) (z r : Rst) : Prop := (r 17 row = s ∧ r 18 row = z 18 row ∧ ∀ (j : Nat) i, 19 ≤ j → j ≤ 21 → 0 ≤ i → i < z 18 row → r j (80 * row + i) = z j (80 * row + i)) ∧ r 12 w = z 12 w + (if s = 14 then 1 else 0) ∧ (s ≠ 14 → r 14 w = z 14 w) ∧ r 7 w = z 7 w ∧ ∀ j : Nat, j < 7 → r j = z j
theorem p_does (hp : Px nob nob (fun c => c = w) z) (hd : Dh w z) (n0 : 0 ≤ z 76 0) (hO : z 42 0 = 2 → Sov (z 49 0) ∧ Sx (rwf z 19 (rw9 z w)) (rwf z 20 (rw9 z w)) (z 18 (rw9 z w)) (z 49 0) ∧ z 15 w = -1 ∧ (z 49 0 = 14 → z 12 w ≤ 8) ∧ B3 (z 50 0) ∧ ∀ k, B3 (z 66 k)) (hG : z 42 0 ≠ 2 → Sr z (rw9 z w)) : Pv (fun r' => Px nob nob nob r' ∧ (z 42 0 = 2 ∧ Fo w (z 49 0) (rw9 z w) z r' ∨ z 42 0 ≠ 2 ∧ Fg w (rw9 z w) z r')) (G_does w z) := by
  obtain ⟨⟨w0, w1, w2, w3⟩, d2, d3, d4, d5, d6⟩ := hd
  have hz : rw9 z w = 9 * w + z 12 w - 1 := rfl
  unfold G_does G_does_0
  refine Pv.chk fun _ => d_loop (z := z) ⟨⟨w0, w1, w2, w3⟩, d2, d3, d4, d5, d6⟩ (fun r h => ?_) _ _ _ (Int.le_refl _) n0 ⟨hp, fun _ _ => rfl, fun _ _ _ _ => rfl, Int.le_refl _, ?_⟩
  · obtain ⟨e1, e2, e3, e4⟩ := h.e ⟨⟨w0, w1, w2, w3⟩, d2, d3, d4, d5, d6⟩
    have f : ∀ j : Nat, 40 ≤ j → r j = z j := fun j hj => h.2.1 j (Or.inr hj)
    have fl : ∀ j : Nat, j < 7 → r j = z j := fun j hj => h.2.1 j (Or.inl hj)
    have o : ∀ (j : Nat) i, Own w j i → (7 ≤ j ∧ j ≤ 12 ∨ j = 14 ∨ j = 15 ∨ 17 ≤ j ∧ j ≤ 21) → r j i = z j i := h.2.2.1
    have o18 : r 18 (rw9 z w) = z 18 (rw9 z w) := o 18 _ (by unfold Own; omega) (by omega)
    have o17 : r 17 (rw9 z w) = z 17 (rw9 z w) := o 17 _ (by unfold Own; omega) (by omega)
    have orow : ∀ (j : Nat) i, 19 ≤ j → j ≤ 21 → 0 ≤ i → i < 80 → r j (80 * rw9 z w + i) = z j (80 * rw9 z w + i) := fun j i a b c d => o j _ (by unfold Own; omega) (by omega)
    have o12 : r 12 w = z 12 w := o 12 w (by unfold Own; omega) (by omega)
    have o14 : r 14 w = z 14 w := o 14 w (by unfold Own; omega) (by omega)
    have o7 : r 7 w = z 7 w := o 7 w (by unfold Own; omega) (by omega)
    have hC : Ct3 r w := by
      have c : ∀ p : Int → Bool, cntP p (rwf r 19 (rw9 z w)) (z 18 (rw9 z w)).toNat = cntP p (rwf z 19 (rw9 z w)) (z 18 (rw9 z w)).toNat := fun p => cntP_congr fun j j0 j1 => orow 19 j (by omega) (by omega) j0 (by omega)
      have h5 := h.2.2.2.2
      unfold Ct3
      rw [e1, o18, c, c, c]
      omega
    unfold G_does_165
    rw [f 42 (by omega), f 49 (by omega), f 50 (by omega)]
    refine Pv.ite (fun c2 => Pv.cag fun v r1 e => Pv.ret ?_) fun c2 => ?_
    · obtain ⟨h1, h2, h3, h4, h5, h6⟩ := hO c2
      have po := p_over (z := r) (s := z 49 0) (x := z 50 0) h.1 w0 e2 h1 (by
        rw [e1, o18]
        exact h2.cg d4.1 fun j a b => ⟨orow 19 j (by omega) (by omega) a (by omega), orow 20 j (by omega) (by omega) a (by omega)⟩) hC (by rw [o 15 w (by unfold Own; omega) (by omega)]; exact h3) (fun e => by rw [o12]; exact h4 e) h5 (by rw [f 66 (by omega)]; exact h6) v r1 e
      rw [e1] at po
      obtain ⟨p1, ⟨p2, p3, p4⟩, p5, p6, p7⟩ := po
      refine ⟨p1, Or.inl ⟨c2, ⟨p2, p3.trans o18, fun j i a b c d => (p4 j i a b c (by omega)).trans (orow j i a b c (by omega))⟩, by rw [p5, o12], fun hs => by rw [p6 hs, o14], by rw [p7 7 (by omega), o7], fun j hj => by rw [p7 j (by omega), fl j hj]⟩⟩
    · have s1 := hG c2
      have pr : Px nob nob nob r := by
        refine ⟨h.1.1, fun c c0 c1 => ?_, h.1.2.2⟩
        obtain ⟨q1, q2, q3, q4, q5, q6, q7, q8, q9⟩ := h.1.pw c0 c1
        refine ⟨q1, q2, q3, fun _ => ?_, q5, q6, q7, q8, q9⟩
        by_cases cw : c = w
        · rw [cw]
          refine ⟨?_, hC⟩
          rw [e1]
          exact s1.fr d4 o17 o18 orow
        · exact q4 cw
      intro v r1 e
      obtain ⟨g1, g2, g3, g4, g5⟩ := d_191 (y := r) (row := rw9 z w) w0 e2 e1.symm (by omega) _ _ r ⟨pr, fun _ _ => rfl, Int.le_refl _, fun _ _ _ _ _ _ => rfl, fun i a b => by omega⟩ v r1 e
      rw [o18] at g3 g4 g5
      refine ⟨g1, Or.inr ⟨c2, by rw [g2 17 (by omega), o17]; exact d5, g3, fun j i a b c d => (g4 j i a b c d).trans (orow j i a b c (by omega)), g5, ⟨by rw [g2 12 (by omega), o12], by rw [g2 14 (by omega), o14], by rw [g2 7 (by omega), o7]⟩, fun j hj => by rw [g2 j (by omega), fl j hj]⟩⟩
  · refine ⟨?_, ?_, ?_⟩
    · rw [show cntP pA (z 72) (0 : Int).toNat = 0 from rfl]; omega
    · rw [show cntP pT (z 72) (0 : Int).toNat = 0 from rfl]; omega
    · rw [show cntP pM (z 72) (0 : Int).toNat = 0 from rfl]; omega
end DOW
