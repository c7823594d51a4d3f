/-! decide: from what was played to the end (2) -/
section FD9
variable {cd : Int → Int} {N N' : Int} {uf : Int → Int} {r r' z r0 r1 r2 ra rv rz : Rst} {m m' m0 m1 m2 ma : Mem} {w n k x y q s b c v row I o t l u f W M p nu pa L R F E1 ver md rn T A E : Int} {a : Int → Int} {hs : Rst}
/-- the rest of a decide, on both sides -/
def DR (N w ver R : Int) (o : Option G2) (val : Int) (rz : Rst) (ma : Mem) : Prop := ∃ r' m3 m4 m5, X11_putDown_83 1 (100000 * (w + 1)) ver R 101 ma = some (0, m3) ∧ X11_closeIfOver 1 (100000 * (w + 1)) m3 = some (0, m4) ∧ X7_tellUnmade R m4 = some (0, m5) ∧ o = some (val, r') ∧ RelC N r' m5 ∧ GT r' ∧ r' 0 = rz 0 ∧ (∀ i, (10 ≤ i ∧ i < 1000) ∨ i = -3 ∨ i = -4 → m5 i = ma i) ∧ m5 (-2) 0 ≤ ma (-2) 0 + 90 + 10 * (r' 16 0 - rz 16 0) ∧ m5 (-2) 1 ≤ ma (-2) 1 + 1300 + 700 * (r' 16 0 - rz 16 0)
theorem h5_of (gi : GI N ra) (w0 : 0 ≤ w) (w1 : w < ra 16 0) (hE : ra 18 (rw9 ra w) = E - 1) (e9 : rw9 r0 w = rw9 ra w) (e : ∀ (j : Nat) i, j = 19 ∨ j = 20 → 0 ≤ i → i < E - 1 → r0 j (80 * rw9 r0 w + i) = ra j (80 * rw9 ra w + i)) (e32 : r0 32 = ra 32) (h7 : ∀ j, E - 1 ≤ j → j < E + n → 7 ≤ r0 19 (80 * rw9 r0 w + j)) : ∀ i, 0 ≤ i → i < E + n → r0 19 (80 * rw9 r0 w + i) = 5 → r0 20 (80 * rw9 r0 w + i) < r0 32 w := fun i i0 i1 ik => by
  by_cases c : i < E - 1
  · have k := (gi.hi w0 w1).2.2.2.2.2.2.2.2.1 i i0 (by rw [hE]; exact c) (by unfold hk; rw [← e 19 i (Or.inl rfl) i0 c]; exact ik)
    rw [e 20 i (Or.inr rfl) i0 c, e32]
    exact k.1
  · have := h7 i (by omega) i1
    omega
theorem dq_put (d : Dq ra ma n) (e : ∀ j : Nat, 72 ≤ j → j ≤ 74 → r0 j = ra j) (hR : 1000 < R) : Dq r0 (put9 (R + 1) k x y ma) n := by
  obtain ⟨pm, -⟩ := put_m (k := k) (x := x) (y := y) (m := ma) (R := R) hR
  unfold Dq at *
  rw [pm 101 (by omega), pm 102 (by omega), pm 103 (by omega), pm 104 (by omega), e 72 (by omega) (by omega), e 73 (by omega) (by omega), e 74 (by omega) (by omega)]
  exact d
/-- the run goes on -/
theorem dec_fgo (h : RelC N ra ma) (tt : GT ra) (hN : N ≤ 600) (w0 : 0 ≤ w) (w1 : w < ra 16 0) (hr : ra 17 (rw9 ra w) = 20) (n0 : 0 ≤ n) (h76 : ra 76 0 = n) (hE : ra 18 (rw9 ra w) = E - 1) (hE8 : E + n ≤ 80) (dq : Dq ra ma n) (h42 : ra 42 0 ≠ 2) (jK : ∀ k, 0 ≤ k → k < n → Kd (ra 22 w) (ra 30 w) (ra 72) (ra 73) n (ra 42 0) rn k) (jr : ∀ k, 0 ≤ k → k < n → ra 72 k = 12 → ra 75 k = ra 14 w) (hv : -100000 ≤ ra 14 w ∧ ra 14 w ≤ 100000) : DR (N + 1) w ver (Rl ra w) (cag (G_writes w 7 ver 0 ra) fun _ r6 => G_decide_224 G_decide_265 fuel9 w 0 r6) n ra ma := by
  have f9 := fuel9_ge
  have h' := h.mono (show N ≤ N + 1 by omega)
  have g := h.2.2.rg
  have b10 := g.1
  have sz := g.2.2 w w0 w1
  have s1 := sz.1
  have s2 := sz.2.1
  have lt := h.2.2.lt w0 w1
  have eR9 : Rl ra w = 100000 * (w + 1) + 10000 * ra 12 w := rfl
  have c29 := h.2.2.2.2.2.2.2.2.2.2.2.1
  have px := prep_x (ver := ver) h w0 w1 (by omega)
  obtain ⟨r0, p1, p2, p3⟩ := prep_r (ver := ver) w0 (by omega) s1 s2 n0 h76 hE (by omega) (by omega) hE8
  obtain ⟨l1, hw⟩ := lp_start (r0 := r0) h' tt w0 w1 hr n0 hE hE8 p2
  obtain ⟨k1, k2, k3⟩ := kq_of w0 (by omega) s1 s2 (by omega) hE8 hw jK jr
  have e9 := hw.2.2.1
  have e32 := k2 32 (by omega)
  have h5e := h5_of (n := n) h.2.2 w0 w1 hE e9 (fun j i a b c => by rw [e9]; exact hw.2.1 j _ (by omega) (by omega)) e32 k3
  have dq2 : Dq r0 (put9 (Rl ra w + 1) 7 ver 0 ma) n := dq_put dq (fun j a b => k2 j (by omega)) (by omega)
  have h76' : r0 76 0 = n := by rw [k2 76 (by omega)]; exact h76
  have w1' : w < r0 16 0 := by rw [k2 16 (by omega)]; exact w1
  have ne : ∀ k, 0 ≤ k → k < n → ra 72 k ≠ 16 := fun k a b e => h42 ((jK k a b).2.2.2.2.2.2 e).2.1
  obtain ⟨r1, m1, y1, y2, y3⟩ := lp_loop (L := n) (r0 := r0) (m0 := put9 (Rl ra w + 1) 7 ver 0 ma) w0 w1' (by omega) (by rw [k2 29 (by omega)]; omega) (by rw [k2 14 (by omega)]; exact hv) h5e (by omega) (by rw [e32]; omega) (by rw [h76']; exact dq2) (fun k a b => k1 k a b (ne k a b)) (by omega) n.toNat 0 r0 _ (by omega) (by omega) l1
  obtain ⟨t9, h9⟩ : ∃ t9, fuel9 = (t9 + 1) + n.toNat := ⟨fuel9 - n.toNat - 1, by omega⟩
  have hl : r0 19 (80 * rw9 r0 w + (E + n - 1)) ≠ 16 := by
    by_cases c : n = 0
    · rw [show E + n - 1 = E - 1 by omega, hw.1]; omega
    · have := (hw.2.2.2.2 (n - 1) (by omega) (by omega)).1
      rw [show E + (n - 1) = E + n - 1 by omega] at this
      rw [e9, this]
      exact ne (n - 1) (by omega) (by omega)
  obtain ⟨r', m', z1, z2, z3, z4, z5, z6, z7, z8⟩ := dec_go y1 w0 w1' (by rw [e32]; omega) (by rw [k2 42 (by omega)]; exact h42) h76' (by omega) hl (by rw [e9]; exact hw.2.2.2.1) dq2 h5e
  rw [p3] at y3 z1 z3
  obtain ⟨u, q1, q2, q3, q4, q5, q6, q7, q8, q9, g1, g2, g3⟩ := y1
  obtain ⟨pm, -⟩ := put_m (k := 7) (x := ver) (y := 0) (m := ma) (R := Rl ra w) (by omega)
  refine ⟨r', m1, m1, m', by rw [px, h9, y3, z1], z2, z3, by rw [p1, h9, y2, z4, cag_e], z5, z6, by rw [z8 0 (by omega), q2 0 (by omega), k2 0 (by omega)], fun i hi => ?_, ?_, ?_⟩
  · by_cases c : i = -3 ∨ i = -4
    · rw [z7 i (by omega), g1 i (by omega), pm i (by omega)]
    · rw [z7 i (by omega), g1 i (by omega), pm i (by omega)]
  · rw [z7 (-2) (by omega), z8 16 (by omega)]
    rw [pm (-2) (by omega), k2 16 (by omega)] at g2
    omega
  · rw [z7 (-2) (by omega), z8 16 (by omega)]
    rw [pm (-2) (by omega), k2 16 (by omega)] at g3
    omega
/-- the run is over, and all of it fits -/
theorem dec_fover (h : RelC N ra ma) (tt : GT ra) (hN : N ≤ 600) (w0 : 0 ≤ w) (w1 : w < ra 16 0) (hr : ra 17 (rw9 ra w) = 20) (n0 : 0 < n) (h76 : ra 76 0 = n) (hE : ra 18 (rw9 ra w) = E - 1) (hE8 : E + n ≤ 80) (dq : Dq ra ma n) (h42 : ra 42 0 = 2) (jK : ∀ k, 0 ≤ k → k < n → Kd (ra 22 w) (ra 30 w) (ra 72) (ra 73) n (ra 42 0) rn k) (jr : ∀ k, 0 ≤ k → k < n → ra 72 k = 12 → ra 75 k = ra 14 w) (hv : -100000 ≤ ra 14 w ∧ ra 14 w ≤ 100000) (h16 : ra 72 (n - 1) = 16 ∧ ra 73 (n - 1) = ra 49 0 ∧ ra 74 (n - 1) = ra 50 0) (h15 : ra 15 w = -1) (h14 : ra 49 0 = 14 → ra 12 w ≤ 8) (bx : -100000 ≤ ra 50 0 ∧ ra 50 0 ≤ 100000) (sg : Sg (c4 hs) hs (E - 1) a (ra 65) (ra 66) (ra 67) (ra 68 0)) (hag : ∀ i, 0 ≤ i → i < E - 1 → ra 19 (80 * rw9 ra w + i) = hs 0 i ∧ ra 20 (80 * rw9 ra w + i) = hs 1 i ∧ ra 21 (80 * rw9 ra w + i) = hs 2 i) (hK : can (hs 0) (E - 1).toNat = ra 47 0) (m14 : ma 100 1 = 110) (m110 : ∀ i, ma 110 i = a i) : DR (N + 1) w ver (Rl ra w) (cag (G_writes w 7 ver 0 ra) fun _ r6 => G_decide_224 G_decide_265 fuel9 w 0 r6) n ra ma := by
  have f9 := fuel9_ge
  have h' := h.mono (show N ≤ N + 1 by omega)
  have g := h.2.2.rg
  have b10 := g.1
  have sz := g.2.2 w w0 w1
  have s1 := sz.1
  have s2 := sz.2.1
  have lt := h.2.2.lt w0 w1
  have eR9 : Rl ra w = 100000 * (w + 1) + 10000 * ra 12 w := rfl
  have c29 := h.2.2.2.2.2.2.2.2.2.2.2.1
  have px := prep_x (ver := ver) h w0 w1 (by omega)
  obtain ⟨r0, p1, p2, p3⟩ := prep_r (ver := ver) w0 (by omega) s1 s2 (by omega) h76 hE (by omega) (by omega) hE8
  obtain ⟨l1, hw⟩ := lp_start (r0 := r0) h' tt w0 w1 hr (by omega) hE hE8 p2
  obtain ⟨k1, k2, k3⟩ := kq_of w0 (by omega) s1 s2 (by omega) hE8 hw jK jr
  have e9 := hw.2.2.1
  have e32 := k2 32 (by omega)
  have h5e := h5_of (n := n) h.2.2 w0 w1 hE e9 (fun j i a b c => by rw [e9]; exact hw.2.1 j _ (by omega) (by omega)) e32 k3
  have dq2 : Dq r0 (put9 (Rl ra w + 1) 7 ver 0 ma) n := dq_put dq (fun j a b => k2 j (by omega)) (by omega)
  have h76' : r0 76 0 = n := by rw [k2 76 (by omega)]; exact h76
  have w1' : w < r0 16 0 := by rw [k2 16 (by omega)]; exact w1
  have ne : ∀ k, 0 ≤ k → k < n - 1 → ra 72 k ≠ 16 := fun k a b e => by
    have := ((jK k a (by omega)).2.2.2.2.2.2 e).1
    omega
  obtain ⟨r1, m1, y1, y2, y3⟩ := lp_loop (L := n - 1) (r0 := r0) (m0 := put9 (Rl ra w + 1) 7 ver 0 ma) w0 w1' (by omega) (by rw [k2 29 (by omega)]; omega) (by rw [k2 14 (by omega)]; exact hv) (fun i i0 i1 => h5e i i0 (by omega)) (by omega) (by rw [e32]; omega) (by rw [h76']; exact dq2) (fun k a b => k1 k a (by omega) (ne k a b)) (by omega) (n - 1).toNat 0 r0 _ (by omega) (by omega) l1
  obtain ⟨t9, h9⟩ : ∃ t9, fuel9 = (t9 + 2) + (n - 1).toNat := ⟨fuel9 - (n - 1).toNat - 2, by omega⟩
  have wn := hw.2.2.2.2 (n - 1) (by omega) (by omega)
  rw [← e9] at wn
  have kd := jK (n - 1) (by omega) (by omega)
  have k49 := (kd.2.2.2.2.2.2 h16.1).2.2.2
  rw [h16.2.1] at k49
  obtain ⟨u, q1, q2, q3, q4, q5, q6, q7, q8, q9, g1, g2, g3⟩ := id y1
  have id15 : ur r1 15 w (-1) = r1 := ur_same (by rw [q5.2.2.2.2, k2 15 (by omega)]; exact h15)
  obtain ⟨pm, -⟩ := put_m (k := 7) (x := ver) (y := 0) (m := ma) (R := Rl ra w) (by omega)
  obtain ⟨mp, m3, m4, r', z1, z2, z3, z4, z5, z6, z7, z8, z9⟩ := dec_over (E := E) (L := n - 1) (hs := hs) (a := a) y1 w0 w1' (by rw [e32]; omega) (by rw [k2 42 (by omega)]; exact h42) (by rw [h76']; omega) (by omega) (by rw [k2 72 (by omega), k2 73 (by omega), k2 74 (by omega), k2 49 (by omega), k2 50 (by omega)]; exact h16) (by rw [wn.1, wn.2.1, wn.2.2, k2 49 (by omega), k2 50 (by omega)]; exact h16) (k3 _ (by omega) (by omega)) (by rw [e9, hw.2.2.2.1]; omega) (by rw [k2 49 (by omega)]; exact k49) (by rw [k2 49 (by omega), k2 12 (by omega)]; exact h14) (by rw [k2 50 (by omega)]; exact bx) (by rw [show n - 1 + 1 = n by omega]; exact dq2) (by rw [k2 65 (by omega), k2 66 (by omega), k2 67 (by omega), k2 68 (by omega)]; exact sg) (fun i i0 i1 => by rw [e9, hw.2.1 19 _ (by omega) (by omega), hw.2.1 20 _ (by omega) (by omega), hw.2.1 21 _ (by omega) (by omega)]; exact hag i i0 i1) (fun j j0 j1 => k3 j j0 (by omega)) (by rw [k2 47 (by omega)]; exact hK) (by rw [pm 100 (by omega)]; exact m14) (fun i => by rw [pm 110 (by omega)]; exact m110 i)
  rw [p3] at y3 z1 z3
  rw [id15] at z4
  refine ⟨r', mp, m3, m4, by rw [px, h9, y3, z1], z2, z3, by rw [p1, h9, y2, z4, cag_e], z5, z6, by rw [z9 0 (by omega), q2 0 (by omega), k2 0 (by omega)], fun i hi => ?_, ?_, ?_⟩
  · rw [z7 i hi, g1 i hi, pm i (by omega)]
  · have := z8.1
    rw [z9 16 (by omega)]
    rw [pm (-2) (by omega), k2 16 (by omega)] at g2
    omega
  · have := z8.2
    rw [z9 16 (by omega)]
    rw [pm (-2) (by omega), k2 16 (by omega)] at g3
    omega
/-- there is no room for what was decided: the run fails -/
theorem dec_nofit (h : RelC N rv ma) (tt : GT rv) (hN : N ≤ 600) (w0 : 0 ≤ w) (w1 : w < rv 16 0) (hr : rv 17 (rw9 rv w) = 20) (h76 : rv 76 0 = 1) (hE : rv 18 (rw9 rv w) = E - 1) (hE8 : E + 1 ≤ 80) (dq : Dq rv ma 1) (h42 : rv 42 0 = 2) (h16 : rv 72 0 = 16 ∧ rv 73 0 = rv 49 0 ∧ rv 74 0 = rv 50 0) (h49 : rv 49 0 = 22 ∧ rv 50 0 = 8) (sg : Sg (c4 hs) hs (E - 1) a (rv 65) (rv 66) (rv 67) (rv 68 0)) (hag : ∀ i, 0 ≤ i → i < E - 1 → rv 19 (80 * rw9 rv w + i) = hs 0 i ∧ rv 20 (80 * rw9 rv w + i) = hs 1 i ∧ rv 21 (80 * rw9 rv w + i) = hs 2 i) (hK : can (hs 0) (E - 1).toNat = rv 47 0) (m14 : ma 100 1 = 110) (m110 : ∀ i, ma 110 i = a i) : DR (N + 1) w ver (Rl rv w) (cag (G_writes w 7 ver 0 (ur rv 15 w (-1))) fun _ r6 => G_decide_224 G_decide_265 fuel9 w 0 r6) 1 rv ma := by
  have f9 := fuel9_ge
  have h' := h.mono (show N ≤ N + 1 by omega)
  have g := h.2.2.rg
  have b10 := g.1
  have sz := g.2.2 w w0 w1
  have s1 := sz.1
  have s2 := sz.2.1
  have lt := h.2.2.lt w0 w1
  have eR9 : Rl rv w = 100000 * (w + 1) + 10000 * rv 12 w := rfl
  have px := prep_x (ver := ver) h w0 w1 (by omega)
  obtain ⟨ra, hra⟩ : ∃ ra, ra = ur rv 15 w (-1) := ⟨_, rfl⟩
  have aj : ∀ j : Nat, j ≠ 15 → ra j = rv j := fun j hj => by rw [hra, ur_ne hj]
  have a9 : rw9 ra w = rw9 rv w := by unfold rw9; rw [aj 12 (by omega)]
  obtain ⟨rA, p1, p2, p3⟩ := prep_r (ver := ver) (ra := ra) (n := 1) w0 (by omega) (by rw [aj 12 (by omega)]; exact s1) (by rw [aj 12 (by omega)]; exact s2) (by omega) (by rw [aj 76 (by omega)]; exact h76) (by rw [a9, aj 18 (by omega)]; exact hE) (by omega) (by omega) hE8
  have wa : ∀ (j : Nat) i, j ≠ 15 → wr w 7 ver 0 ra j i = wr w 7 ver 0 rv j i := fun j i hj => by
    unfold wr
    rw [a9, aj 18 (by omega)]
    by_cases c1 : j = 18 ∧ i = rw9 rv w
    · rw [ur_e c1.1 c1.2, ur_e c1.1 c1.2]
    · rw [ur_n (by omega), ur_n (j := 18) (r := ur (ur (ur rv 19 _ _) 20 _ _) 21 _ _) (by omega)]
      by_cases c2 : j = 21 ∧ i = 80 * rw9 rv w + rv 18 (rw9 rv w)
      · rw [ur_e c2.1 c2.2, ur_e c2.1 c2.2]
      · rw [ur_n (by omega), ur_n (j := 21) (r := ur (ur rv 19 _ _) 20 _ _) (by omega)]
        by_cases c3 : j = 20 ∧ i = 80 * rw9 rv w + rv 18 (rw9 rv w)
        · rw [ur_e c3.1 c3.2, ur_e c3.1 c3.2]
        · rw [ur_n (by omega), ur_n (j := 20) (r := ur rv 19 _ _) (by omega)]
          by_cases c4 : j = 19 ∧ i = 80 * rw9 rv w + rv 18 (rw9 rv w)
          · rw [ur_e c4.1 c4.2, ur_e c4.1 c4.2]
          · rw [ur_n (by omega), ur_n (j := 19) (r := rv) (by omega), aj j hj]
  rw [a9] at p2
  obtain ⟨q1, q2, q3⟩ := p2
  have w72 : ∀ (j : Nat) i, (72 ≤ j ∧ j ≤ 74) → wr w 7 ver 0 ra j i = rv j i := fun j i hj => by rw [wa j i (by omega), wr_n (by omega)]
  obtain ⟨r0, hr0⟩ : ∃ r0, r0 = ur rA 15 w (rv 15 w) := ⟨_, rfl⟩
  have oA : ∀ (j : Nat) i, ¬ (j = 15 ∧ i = w) → r0 j i = rA j i := fun j i hj => by rw [hr0, ur_n (by omega)]
  have p2' : Wn (rw9 rv w) E (wr w 7 ver 0 rv) 1 r0 := by
    refine ⟨fun j i a b => ?_, by rw [oA 18 _ (by omega)]; exact q2, fun e e0 e1 => ?_⟩
    · by_cases c : j = 15 ∧ i = w
      · rw [hr0, ur_e c.1 c.2, c.1, c.2, wr_n (by omega)]
      · rw [oA j i c, q1 j i a b]
        by_cases d : j = 15
        · rw [wr_n (by omega), wr_n (by omega), hra, ur_n (by omega)]
        · exact wa j i d
    · have := q3 e e0 e1
      rw [w72 72 _ (by omega), w72 73 _ (by omega), w72 74 _ (by omega)] at this
      rw [oA 19 _ (by omega), oA 20 _ (by omega), oA 21 _ (by omega), wr_n (by omega), wr_n (by omega), wr_n (by omega)]
      exact this
  have idA : ur r0 15 w (-1) = rA := by
    rw [hr0, ur_twice]
    refine ur_same ?_
    rw [q1 15 w (by omega) (by omega), wr_n (by omega), hra, ur_e rfl rfl]
  obtain ⟨l1, hw⟩ := lp_start (r0 := r0) (n := 1) (v := ver) h' tt w0 w1 hr (by omega) hE hE8 p2'
  have e9 := hw.2.2.1
  have ew : rw9 rv w = 9 * w + rv 12 w - 1 := rfl
  have k2 : ∀ j : Nat, j < 18 ∨ 21 < j → r0 j = rv j := fun j hj => by
    funext i
    exact hw.2.1 j i (by omega) (by omega)
  have e32 := k2 32 (by omega)
  have wn := hw.2.2.2.2 0 (by omega) (by omega)
  rw [← e9] at wn
  have h7 : ∀ j, E - 1 ≤ j → j < E + 1 → 7 ≤ r0 19 (80 * rw9 r0 w + j) := fun j j0 j1 => by
    by_cases c : j = E - 1
    · rw [c, hw.1]; omega
    · rw [show j = E + 0 by omega, wn.1, h16.1]; omega
  have dq2 : Dq r0 (put9 (Rl rv w + 1) 7 ver 0 ma) 1 := dq_put dq (fun j a b => k2 j (by omega)) (by omega)
  have w1' : w < r0 16 0 := by rw [k2 16 (by omega)]; exact w1
  obtain ⟨t9, h9⟩ : ∃ t9, fuel9 = t9 + 2 := ⟨fuel9 - 2, by omega⟩
  obtain ⟨pm, -⟩ := put_m (k := 7) (x := ver) (y := 0) (m := ma) (R := Rl rv w) (by omega)
  obtain ⟨mp, m3, m4, r', z1, z2, z3, z4, z5, z6, z7, z8, z9⟩ := dec_over (E := E) (L := 0) (hs := hs) (a := a) l1 w0 w1' (by rw [e32]; omega) (by rw [k2 42 (by omega)]; exact h42) (by rw [k2 76 (by omega), h76]; rfl) (by omega) (by rw [k2 72 (by omega), k2 73 (by omega), k2 74 (by omega), k2 49 (by omega), k2 50 (by omega)]; exact h16) (by rw [wn.1, wn.2.1, wn.2.2, k2 49 (by omega), k2 50 (by omega)]; exact h16) (h7 _ (by omega) (by omega)) (by rw [e9, hw.2.2.2.1]; omega) (by rw [k2 49 (by omega), h49.1]; decide) (by rw [k2 49 (by omega), h49.1]; intro hh; omega) (by rw [k2 50 (by omega), h49.2]; omega) dq2 (by rw [k2 65 (by omega), k2 66 (by omega), k2 67 (by omega), k2 68 (by omega)]; exact sg) (fun i i0 i1 => by rw [e9, hw.2.1 19 _ (by omega) (by omega), hw.2.1 20 _ (by omega) (by omega), hw.2.1 21 _ (by omega) (by omega)]; exact hag i i0 i1) (fun j j0 j1 => h7 j j0 (by omega)) (by rw [k2 47 (by omega)]; exact hK) (by rw [pm 100 (by omega)]; exact m14) (fun i => by rw [pm 110 (by omega)]; exact m110 i)
  have eRl : Rl r0 w = Rl rv w := by unfold Rl; rw [k2 12 (by omega)]
  rw [eRl] at z1 z3
  rw [idA] at z4
  refine ⟨r', mp, m3, m4, by rw [px, h9, z1], z2, z3, by rw [← hra, p1, h9, z4, cag_e], z5, z6, by rw [z9 0 (by omega), k2 0 (by omega)], fun i hi => ?_, ?_, ?_⟩
  · rw [z7 i hi, pm i (by omega)]
  · have := z8.1
    rw [z9 16 (by omega), k2 16 (by omega)]
    rw [pm (-2) (by omega)] at this
    omega
  · have := z8.2
    rw [z9 16 (by omega), k2 16 (by omega)]
    rw [pm (-2) (by omega)] at this
    omega
end FD9
