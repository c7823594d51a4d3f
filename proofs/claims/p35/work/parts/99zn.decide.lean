/-! decide: from what was played to the end -/
section FC9
variable {cd : Int → Int} {N N' : Int} {uf : Int → Int} {r r' z r0 r1 r2 ra rv : Rst} {m m' m0 m1 m2 ma : Mem} {w n k x y q s b c v row I o t l u f W E M p nu pa L R F E1 ver md rn T A : Int} {a : Int → Int} {hs : Rst}
theorem x_tooLong (d0 : m 101 0 = 102 ∧ m 101 1 = 103 ∧ m 101 2 = 104) (h7 : m 101 7 = 0) (b4 : 0 ≤ m 101 4 ∧ m 101 4 < 2147483648) (b5 : 0 ≤ m 101 5 ∧ m 101 5 < 2147483648) (b6 : 0 ≤ m 101 6 ∧ m 101 6 < 2147483648) : ∃ m', X1_failTooLong 101 m = some (0, m') ∧ (∀ i, i ≠ 101 → i ≠ 102 → i ≠ 103 → i ≠ 104 → m' i = m i) ∧ (m' 101 0 = 102 ∧ m' 101 1 = 103 ∧ m' 101 2 = 104 ∧ m' 101 3 = 1) ∧ m' 102 0 = 16 ∧ m' 103 0 = 22 ∧ m' 104 0 = 8 := by
  obtain ⟨p0, p1, p2⟩ := d0
  have e : X1_failTooLong 101 m = some (0, upd9 (upd9 (upd9 (upd9 (upd9 (upd9 (upd9 (upd9 m 101 3 0) 101 4 (m 101 4 + 0)) 101 5 (m 101 5 + 0)) 101 6 (m 101 6 + 0)) 102 0 16) 103 0 22) 104 0 8) 101 3 (0 + 1)) := by
    have q4 : upd9 m 101 3 0 101 4 = m 101 4 := upd9_n (by omega)
    have q5 : upd9 (upd9 m 101 3 0) 101 4 (m 101 4 + 0) 101 5 = m 101 5 := by rw [upd9_n (by omega), upd9_n (by omega)]
    have q6 : upd9 (upd9 (upd9 m 101 3 0) 101 4 (m 101 4 + 0)) 101 5 (m 101 5 + 0) 101 6 = m 101 6 := by rw [upd9_n (by omega), upd9_n (by omega), upd9_n (by omega)]
    obtain ⟨m3, h3⟩ : ∃ m3, m3 = upd9 (upd9 (upd9 (upd9 m 101 3 0) 101 4 (m 101 4 + 0)) 101 5 (m 101 5 + 0)) 101 6 (m 101 6 + 0) := ⟨_, rfl⟩
    have t : m3 101 0 = 102 ∧ m3 101 1 = 103 ∧ m3 101 2 = 104 ∧ m3 101 3 = 0 ∧ m3 101 7 = 0 := by
      rw [h3]
      refine ⟨?_, ?_, ?_, ?_, ?_⟩
      · rw [upd9_n (by omega), upd9_n (by omega), upd9_n (by omega), upd9_n (by omega)]; exact p0
      · rw [upd9_n (by omega), upd9_n (by omega), upd9_n (by omega), upd9_n (by omega)]; exact p1
      · rw [upd9_n (by omega), upd9_n (by omega), upd9_n (by omega), upd9_n (by omega)]; exact p2
      · rw [upd9_n (by omega), upd9_n (by omega), upd9_n (by omega), upd9_e rfl rfl]
      · rw [upd9_n (by omega), upd9_n (by omega), upd9_n (by omega), upd9_n (by omega)]; exact h7
    obtain ⟨t0, t1, t2, t3, t7⟩ := t
    have r1 : upd9 m3 102 0 16 101 1 = 103 ∧ upd9 m3 102 0 16 101 3 = 0 := ⟨by rw [upd9_n (by omega)]; exact t1, by rw [upd9_n (by omega)]; exact t3⟩
    have r2 : upd9 (upd9 m3 102 0 16) 103 0 22 101 2 = 104 ∧ upd9 (upd9 m3 102 0 16) 103 0 22 101 3 = 0 := ⟨by rw [upd9_n (by omega), upd9_n (by omega)]; exact t2, by rw [upd9_n (by omega), upd9_n (by omega)]; exact t3⟩
    have r3 : upd9 (upd9 (upd9 m3 102 0 16) 103 0 22) 104 0 8 101 3 = 0 := by rw [upd9_n (by omega), upd9_n (by omega), upd9_n (by omega)]; exact t3
    unfold X1_failTooLong X1_failTooLong_0 X1_put X1_put_0 X1_put_22 X1_put_42 X1_put_62 X1_put_112
    rw [st_e, if_f (show ¬ (16 : Int) = 8 by decide), if_f (show ¬ (16 : Int) = 15 by decide), q4, st_e, if_f (show ¬ (16 : Int) = 10 by decide), q5, st_e, if_f (show ¬ (16 : Int) = 12 by decide), q6, st_e, ← h3, t7, if_t rfl, t3, if_f (by decide), t0, st_e, r1.1, r1.2, st_e, r2.1, r2.2, st_e, r3]
    repeat rw [chk_t (by omega)]
    rw [st_e, cal_e]
  refine ⟨_, e, fun i a b c d => by rw [upd9_row a, upd9_row d, upd9_row c, upd9_row b, upd9_row a, upd9_row a, upd9_row a, upd9_row a], ⟨?_, ?_, ?_, ?_⟩, ?_, ?_, ?_⟩
  · simp (disch := omega) only [upd9_n, p0]
  · simp (disch := omega) only [upd9_n, p1]
  · simp (disch := omega) only [upd9_n, p2]
  · rw [upd9_e rfl rfl]; rfl
  · simp (disch := omega) only [upd9_n, upd9_e]
  · simp (disch := omega) only [upd9_n, upd9_e]
  · simp (disch := omega) only [upd9_n, upd9_e]
theorem RelC.regs (h : RelC N r m) (w0 : 0 ≤ w) (w1 : w < r 16 0) : RelC N (ur (ur r 14 w x) 15 w p) (upd9 (upd9 m (Rl r w) 8 x) (Rl r w) 9 p) := by
  have g := h.2.2.rg
  have f := h.1.2.2.2.2.2.1 w w0 w1
  have l := f.2.2.1
  have sz := g.2.2 w w0 w1
  have u := f.2.1 (r 12 w) sz.1 (Int.le_refl _)
  have ej : ∀ j : Nat, j ≠ 14 → j ≠ 15 → ur (ur r 14 w x) 15 w p j = r j := fun j a b => by rw [ur_ne b, ur_ne a]
  have eRl : Rl (ur (ur r 14 w x) 15 w p) w = Rl r w := by unfold Rl; rw [ej 12 (by omega) (by omega)]
  have k : RelK N (fun _ => 0) (ur (ur r 14 w x) 15 w p) (upd9 (upd9 m (Rl r w) 8 x) (Rl r w) 9 p) := by
    refine h.toK.mk (rel_row h.1 g w0 w1 (fun i hi => by rw [upd9_row hi, upd9_row hi]) ⟨by rw [upd9_n (by omega), upd9_n (by omega)], by rw [upd9_n (by omega), upd9_n (by omega)], by rw [upd9_n (by omega), upd9_n (by omega)]⟩ ?_ ?_ (fun j i hj => by rw [ur_n (by omega), ur_n (by omega)])) (h.2.2.fr fun j hj => ej j (by omega) (by omega)) (fun w2 a b => by rw [upd9_n (Or.inr (by decide)), upd9_n (Or.inr (by decide)), upd9_n (Or.inr (by decide)), upd9_n (Or.inr (by decide))]; exact ⟨rfl, rfl⟩) fun j hj => ej j (by omega) (by omega)
    · rw [upd9_n (by omega), upd9_n (by omega), ej 17 (by omega) (by omega)]
      exact u.1.2.2.2.1
    · unfold Lt at *
      rw [eRl, ej 22 (by omega) (by omega), ej 30 (by omega) (by omega), ej 32 (by omega) (by omega), ur_n (j := 15) (by omega), ur_e (j := 14) rfl rfl, ur_e (j := 15) rfl rfl]
      refine ⟨?_, ?_, ?_, ?_, upd9_e rfl rfl⟩
      · rw [upd9_n (by omega), upd9_n (by omega)]; exact l.1
      · rw [upd9_n (by omega), upd9_n (by omega)]; exact l.2.1
      · rw [upd9_n (by omega), upd9_n (by omega)]; exact l.2.2.1
      · rw [upd9_n (by omega), upd9_e rfl rfl]
  exact k
/-- all written, on both sides -/
theorem prep_x (h : RelC N ra m) (w0 : 0 ≤ w) (w1 : w < ra 16 0) (hE8 : ra 18 (rw9 ra w) < 80) : X11_putDown_83 1 (100000 * (w + 1)) ver (Rl ra w) 101 m = X11_putDown_97 fuel9 1 (100000 * (w + 1)) (Rl ra w) 101 0 (put9 (Rl ra w + 1) 7 ver 0 m) := by
  have g := h.2.2.rg
  have b10 := g.1
  have s := g.2.2 w w0 w1
  have s1 := s.1
  have s2 := s.2.1
  have eR9 : Rl ra w = 100000 * (w + 1) + 10000 * ra 12 w := rfl
  have ew : rw9 ra w = 9 * w + ra 12 w - 1 := rfl
  have lt := h.2.2.lt w0 w1
  have u := (h.1.2.2.2.2.2.1 w w0 w1).2.1 (ra 12 w) s1 (Int.le_refl _)
  rw [← eR9, ← ew] at u
  obtain ⟨⟨u0, u1, u2, u7, v0, v1, v2, v3⟩, -⟩ := u
  have xp := put_ok (h := Rl ra w + 1) (k := 7) (x := ver) (y := 0) (m := m) (by omega) (by rw [v0]; omega) (by rw [v1]; omega) (by rw [v2]; omega) (by rw [v3]; omega) (by rw [v3]; omega)
  unfold X11_putDown_83
  rw [u0, xp, cal_e]
  repeat rw [chk_t (by omega)]
theorem prep_r (w0 : 0 ≤ w) (w1 : w < 10) (s1 : 1 ≤ ra 12 w) (s2 : ra 12 w ≤ 9) (n0 : 0 ≤ n) (h76 : ra 76 0 = n) (hE : ra 18 (rw9 ra w) = E - 1) (hE1 : 1 ≤ E) (hE7 : E ≤ 80) (hE8 : E + n ≤ 80) : ∃ r0, (cag (G_writes w 7 ver 0 ra) fun _ r6 => G_decide_224 G_decide_265 fuel9 w 0 r6) = (cag (G_does_9 G_does_165 fuel9 w (r0 32 w) 0 r0) fun _ r1 => some (n, r1)) ∧ Wn (rw9 ra w) E (wr w 7 ver 0 ra) n r0 ∧ Rl r0 w = Rl ra w := by
  have f9 := fuel9_ge
  have gw := g_writes (r := ra) (w := w) (k := 7) (x := ver) (y := 0) w0 (by omega) s1 s2 (by omega) (by omega)
  obtain ⟨z, hz⟩ : ∃ z, z = wr w 7 ver 0 ra := ⟨_, rfl⟩
  have zn : ∀ j : Nat, j < 18 ∨ 21 < j → z j = ra j := fun j hj => by rw [hz]; exact wr_n hj
  have z18 : z 18 (rw9 ra w) = E := by rw [hz, wr_18]; omega
  have z9 : rw9 z w = rw9 ra w := by unfold rw9; rw [zn 12 (by omega)]
  rw [← hz] at gw ⊢
  obtain ⟨r0, y1, y2⟩ := w_loop (k265 := G_decide_265) (ra := z) (w := w) (E := E) (n := n) w0 (by omega) (by rw [zn 12 (by omega)]; exact s1) (by rw [zn 12 (by omega)]; exact s2) (by omega) hE8 (by rw [zn 76 (by omega)]; exact h76) n.toNat 0 fuel9 z (by omega) (by omega) (by omega) (by rw [z9]; exact ⟨fun j i a b => rfl, by rw [z18]; omega, fun e a b => by omega⟩)
  rw [z9] at y2
  have e12 : r0 12 w = ra 12 w := by rw [y2.1 12 w (by omega) (by omega), zn 12 (by omega)]
  refine ⟨r0, ?_, y2, by unfold Rl; rw [e12]⟩
  rw [gw, cag_e, y1]
  unfold G_decide_265 G_does G_does_0
  rw [chk_t (by omega), y2.1 76 0 (by omega) (by omega), zn 76 (by omega), h76]
/-- the decisions are as they must be -/
theorem kq_of (w0 : 0 ≤ w) (w1 : w < 10) (s1 : 1 ≤ ra 12 w) (s2 : ra 12 w ≤ 9) (hE : 1 ≤ E) (hE8 : E + n ≤ 80) (hw : (r0 19 (80 * rw9 r0 w + (E - 1)) = 7) ∧ (∀ (j : Nat) i, ¬ (j = 18 ∧ i = rw9 ra w) → ¬ (19 ≤ j ∧ j ≤ 21 ∧ 80 * rw9 ra w + (E - 1) ≤ i ∧ i < 80 * rw9 ra w + 80) → r0 j i = ra j i) ∧ rw9 r0 w = rw9 ra w ∧ r0 18 (rw9 ra w) = E + n ∧ ∀ e, 0 ≤ e → e < n → r0 19 (80 * rw9 ra w + (E + e)) = ra 72 e ∧ r0 20 (80 * rw9 ra w + (E + e)) = ra 73 e ∧ r0 21 (80 * rw9 ra w + (E + e)) = ra 74 e) (jK : ∀ k, 0 ≤ k → k < n → Kd (ra 22 w) (ra 30 w) (ra 72) (ra 73) n md rn k) (jr : ∀ k, 0 ≤ k → k < n → ra 72 k = 12 → ra 75 k = ra 14 w) : (∀ k, 0 ≤ k → k < n → ra 72 k ≠ 16 → Kq r0 w E k) ∧ (∀ j : Nat, j < 18 ∨ 21 < j → r0 j = ra j) ∧ ∀ j, E - 1 ≤ j → j < E + n → 7 ≤ r0 19 (80 * rw9 r0 w + j) := by
  obtain ⟨h1, h2, h3, h4, h5⟩ := hw
  have ew : rw9 ra w = 9 * w + ra 12 w - 1 := rfl
  have ej : ∀ j : Nat, j < 18 ∨ 21 < j → r0 j = ra j := fun j hj => by
    funext i
    exact h2 j i (by omega) (by omega)
  have h7 : ∀ j, E - 1 ≤ j → j < E + n → 7 ≤ r0 19 (80 * rw9 r0 w + j) := fun j j0 j1 => by
    by_cases c : j = E - 1
    · rw [c, h1]; omega
    · have := (h5 (j - E) (by omega) (by omega)).1
      rw [show E + (j - E) = j by omega] at this
      have k := (jK (j - E) (by omega) (by omega)).1
      rw [h3, this]
      omega
  refine ⟨fun k k0 k1 k16 => ?_, ej, h7⟩
  obtain ⟨b1, b2, b3, b4, b5, b7, b6⟩ := jK k k0 k1
  have hk9 := h5 k k0 k1
  unfold Kq
  rw [h3, ej 72 (by omega), ej 73 (by omega), ej 74 (by omega), ej 75 (by omega), ej 22 (by omega), ej 30 (by omega), ej 14 (by omega)]
  refine ⟨by omega, b2, b3, b4, fun e => ⟨b5 e, jr k k0 k1 e⟩, b7, hk9, by omega, ?_⟩
  have := h7 (E + k - 1) (by omega) (by omega)
  rw [h3] at this
  exact this
end FC9
