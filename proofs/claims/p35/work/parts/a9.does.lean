/-! what always holds besides, while what was decided is done -/
section DOE
variable {X Y Z : Int → Prop} {r r' z : Rst} {w c s x v row W a b pa nu p l : Int}
/-- a new workflow -/
theorem Px.newf (h : Px X Y Z r) (hW : W = r 16 0) (W10 : W < 10) (e16 : r' 16 0 = W + 1) (n12 : r' 12 W = 1) (n17 : r' 17 (9 * W) = 20) (n18 : r' 18 (9 * W) = 1) (n14 : r' 14 W = 0 ∧ r' 15 W = -1 ∧ r' 22 W = 0 ∧ r' 30 W = 0 ∧ r' 32 W = 0) (n19 : r' 19 (720 * W) = 0 ∧ r' 20 (720 * W) = v) (bv : B3 v) (hold : ∀ c, 0 ≤ c → c < W → Pw X Y Z r' c) (e12 : ∀ c, c ≠ W → r' 12 c = r 12 c) (e18 : ∀ i, i ≠ 9 * W → r' 18 i = r 18 i) (e39 : r' 39 = r 39) (par : r' 9 W ≠ -1 → 0 ≤ r' 9 W ∧ r' 9 W < W ∧ r' 10 W ≤ r' 12 (r' 9 W) ∧ (r' 10 W = r' 12 (r' 9 W) → r' 11 W < r' 32 (r' 9 W))) : Px X Y Z r' := by
  obtain ⟨h1, h2, h3, h4, h5⟩ := h
  have er : rw9 r' W = 9 * W := by unfold rw9; rw [n12]; omega
  refine ⟨by omega, fun c c0 c1 => ?_, fun c c0 c1 => ?_, fun c k c0 c1 k0 k1 => ?_, h5.fr e39⟩
  · by_cases d : c = W
    · rw [d]
      unfold Pw
      rw [er, n12, n17, n14.1, n14.2.1, n14.2.2.1, n14.2.2.2.2]
      refine ⟨by omega, fun k a b => by omega, ?_, fun _ => ⟨?_, ?_⟩, fun _ => by omega, ⟨⟨by decide, by decide⟩, by decide, fun _ => rfl⟩, fun _ h => absurd rfl h, par, fun n a b c => by omega⟩
      · unfold Hr rwf
        rw [n18]
        refine ⟨by omega, ⟨by dsimp only; rw [show 80 * (9 * W) + 0 = 720 * W by omega]; exact n19.1, by dsimp only; rw [show 80 * (9 * W) + 0 = 720 * W by omega, n19.2]; exact bv⟩, fun i a b => by omega, fun i j a b c => by omega⟩
      · unfold Sr
        rw [n17, n18]
        exact ⟨fun i a b => by omega, fun h => absurd rfl h⟩
      · unfold Ct3
        rw [er, n14.2.2.1, n14.2.2.2.1, n14.2.2.2.2]
        exact ⟨cntP_0, cntP_0, cntP_0⟩
    · exact hold c c0 (by omega)
  · rw [e12 c (by omega)]
    exact h3 c (by omega) c1
  · by_cases d : c = W
    · rw [d, n12] at k0
      rw [e18 _ (by omega), d]
      exact h4 W k (by omega) W10 (by rw [h3 W (by omega) W10]; omega) k1
    · rw [e12 c d] at k0
      have : 0 ≤ r 12 c := by
        by_cases f : c < r 16 0
        · have := (h2 c c0 f).1; omega
        · rw [h3 c (by omega) c1]; omega
      rw [e18 _ (by omega)]
      exact h4 c k c0 c1 k0 k1
theorem Px.start (h : Px X Y Z r) (hW : W = r 16 0) (W10 : W < 10) (nf : NFlow r W a b (-1) nu p v r') (bv : B3 v) : Px X Y Z r' := by
  have nf9 := nf
  obtain ⟨n1, n2, n3, n4, n5, n6, n7, n8⟩ := nf9
  have r10 := h.1
  refine h.newf hW W10 n1 n3 n4 n5 n6 ⟨n7.1, n7.2.1⟩ bv (fun c c0 c1 => (h.pw c0 (by omega)).fr c0 (fun j i hj => nf.own c0 (by omega) (by omega) j i hj) (by omega) fun p0 p1 => Or.inl ⟨n8 12 _ (by omega), by rw [n8 32 _ (by omega)]; omega⟩) (fun c hc => n8 12 c (by omega)) (fun i hi => n8 18 i (by omega)) (by funext i; exact n8 39 i (by omega)) fun hn => absurd n2.2.2.1 hn
/-- what is so ahead of the l-th decision that is done -/
def Dz (w : Int) (z : Rst) (l : Int) (r : Rst) : Prop := Px nob nob (fun c => c = w) r ∧ (∀ j : Nat, j < 7 ∨ 40 ≤ j → r j = z j) ∧ (∀ (j : Nat) i, Own w j i → (7 ≤ j ∧ j ≤ 12 ∨ j = 14 ∨ j = 15 ∨ 17 ≤ j ∧ j ≤ 21) → r j i = z j i) ∧ z 16 0 ≤ r 16 0 ∧ (r 22 w = z 22 w + cntP pA (z 72) l.toNat ∧ r 30 w = z 30 w + cntP pT (z 72) l.toNat ∧ r 32 w = z 32 w + cntP pM (z 72) l.toNat)
/-- what is decided fits what there is -/
def Dh (w : Int) (z : Rst) : Prop := (0 ≤ w ∧ w < z 16 0 ∧ 1 ≤ z 12 w ∧ z 12 w ≤ 9) ∧ (0 ≤ z 22 w ∧ 0 ≤ z 30 w ∧ 0 ≤ z 32 w) ∧ (z 22 w + cntP pA (z 72) (z 76 0).toNat ≤ cntP pA (rwf z 19 (rw9 z w)) (z 18 (rw9 z w)).toNat ∧ z 30 w + cntP pT (z 72) (z 76 0).toNat ≤ cntP pT (rwf z 19 (rw9 z w)) (z 18 (rw9 z w)).toNat ∧ z 32 w + cntP pM (z 72) (z 76 0).toNat ≤ cntP pM (rwf z 19 (rw9 z w)) (z 18 (rw9 z w)).toNat) ∧ (1 ≤ z 18 (rw9 z w) ∧ z 18 (rw9 z w) ≤ 80) ∧ z 17 (rw9 z w) = 20 ∧ (∀ k, 0 ≤ k → k < z 76 0 → (8 ≤ z 72 k ∧ z 72 k ≤ 16) ∧ (z 72 k = 9 → 0 ≤ z 73 k ∧ z 73 k < 80) ∧ B3 (z 75 k))
theorem cntP_s {q : Int → Bool} {f : Int → Int} {l : Int} (h : 0 ≤ l) : cntP q f (l + 1).toNat = cntP q f l.toNat + if q (f l) = true then 1 else 0 := by
  rw [show (l + 1).toNat = l.toNat + 1 by omega, cntP, show ((l.toNat : Nat) : Int) = l by omega]
theorem cntP_m {q : Int → Bool} {f : Int → Int} {l n : Int} (h : 0 ≤ l) (k : l ≤ n) : cntP q f l.toNat ≤ cntP q f n.toNat := by
  have := cntP_mono (p := q) (f := f) (n := l.toNat) (t := n.toNat - l.toNat)
  rw [show l.toNat + (n.toNat - l.toNat) = n.toNat by omega] at this
  exact this
theorem Dz.e (h : Dz w z l r) (hd : Dh w z) : rw9 r w = rw9 z w ∧ w < r 16 0 ∧ r 17 (rw9 r w) = 20 ∧ w < 10 := by
  obtain ⟨⟨d1, d2, d3, d4⟩, -, -, d7, d8, -⟩ := hd
  have e12 : r 12 w = z 12 w := h.2.2.1 12 w (by unfold Own; omega) (by omega)
  have er : rw9 r w = rw9 z w := by unfold rw9; rw [e12]
  have hz : rw9 z w = 9 * w + z 12 w - 1 := rfl
  have := h.2.2.2.1
  have := h.1.1
  refine ⟨er, by omega, ?_, by omega⟩
  rw [er, h.2.2.1 17 _ (by unfold Own; omega) (by omega)]
  exact d8
/-- one more is done that is no matter to the rest -/
theorem Dz.nx {l : Int} (h : Dz w z l r) (hp : Px nob nob (fun c => c = w) r') (e1 : ∀ j : Nat, j < 7 ∨ 40 ≤ j → r' j = r j) (e2 : ∀ (j : Nat) i, Own w j i → (7 ≤ j ∧ j ≤ 12 ∨ j = 14 ∨ j = 15 ∨ 17 ≤ j ∧ j ≤ 21) → r' j i = r j i) (e16 : r 16 0 ≤ r' 16 0) (l0 : 0 ≤ l) (e22 : r' 22 w = r 22 w + (if pA (z 72 l) = true then 1 else 0) ∧ r' 30 w = r 30 w + (if pT (z 72 l) = true then 1 else 0) ∧ r' 32 w = r 32 w + (if pM (z 72 l) = true then 1 else 0)) : Dz w z (l + 1) r' := by
  obtain ⟨h1, h2, h3, h4, h5⟩ := h
  refine ⟨hp, fun j hj => (e1 j hj).trans (h2 j hj), fun j i a b => (e2 j i a b).trans (h3 j i a b), by omega, ?_⟩
  rw [cntP_s l0, cntP_s l0, cntP_s l0]
  omega
theorem Px.count (h : Px nob nob (fun c => c = w) r) (w0 : 0 ≤ w) (w1 : w < r 16 0) (hr : r 17 (rw9 r w) = 20) (e : ∀ (j : Nat) i, ¬ ((j = 22 ∨ j = 30 ∨ j = 32) ∧ i = w) → ¬ ((23 ≤ j ∧ j ≤ 28 ∨ j = 31 ∨ j = 33 ∨ j = 34) ∧ 80 * w ≤ i ∧ i < 80 * w + 80) → j ≠ 29 → r' j i = r j i) (e32 : r 32 w ≤ r' 32 w) (e33 : ∀ n, 0 ≤ n → n < 80 → n < r' 32 w → r' 33 (80 * w + n) = -1 ∨ (w < r' 33 (80 * w + n) ∧ r' 33 (80 * w + n) < r 16 0)) : Px nob nob (fun c => c = w) r' := by
  have r10 := h.1
  have f : ∀ j : Nat, j < 22 ∨ 35 ≤ j → r' j = r j := fun j hj => by funext i; exact e j i (by omega) (by omega) (by omega)
  have urw : rw9 r' w = rw9 r w := rw9_e (f 12 (by omega))
  obtain ⟨q1, q2, q3, q4, q5, q6, q7, q8, q9⟩ := h.pw w0 w1
  refine h.one (w := w) w0 w1 (by rw [f 16 (by omega)]) (fun d _ => by rw [f 12 (by omega)]) (fun i _ => by rw [f 18 (by omega)]) (fun d d0 d1 d2 j i hi => e j i (by unfold Own at hi; omega) (by unfold Own at hi; omega) (by unfold Own at hi; omega)) (Or.inl ⟨by rw [f 12 (by omega)], e32⟩) (fun k a b => ?_) (h.2.2.2.2.fr (f 39 (by omega))) ?_ fun d hd => ⟨id, id, id⟩
  · rw [f 12 (by omega)] at a
    rw [f 18 (by omega)]
    exact h.2.2.2.1 w k w0 (by omega) a b
  · unfold Pw Hr Sr rwf
    rw [urw, f 12 (by omega), f 17 (by omega), f 18 (by omega), f 19 (by omega), f 20 (by omega), f 21 (by omega), f 15 (by omega), f 14 (by omega), f 9 (by omega), f 10 (by omega), f 11 (by omega), f 16 (by omega)]
    refine ⟨q1, q2, q3, fun n => absurd rfl n, q5, q6, fun _ h => absurd hr h, fun hp => ?_, e33⟩
    obtain ⟨p1, p2, p3, p4⟩ := q8 hp
    rw [e 32 (r 9 w) (by omega) (by omega) (by omega)]
    exact ⟨p1, p2, p3, p4⟩
theorem d_puts (h : Dz w z l r) (hd : Dh w z) (l0 : 0 ≤ l) (l1 : l < z 76 0) (hk : z 72 l = 8 ∨ z 72 l = 15) : Pv (Dz w z (l + 1)) (G_putsActivity w x r) := by
  obtain ⟨e1, e2, e3, e4⟩ := h.e hd
  have d0 := hd.1
  have d1 := hd.2.1
  have d2 := hd.2.2.1.1
  have d3 := hd.2.2.2.1
  have c1 := cntP_s (q := pA) (f := z 72) l0
  have c2 := cntP_m (q := pA) (f := z 72) (l := l + 1) (n := z 76 0) (by omega) (by omega)
  have c3 := cntP_0 (p := pA) (f := z 72) (n := l.toNat)
  have c4 := cntP_le (p := pA) (f := rwf z 19 (rw9 z w)) (n := (z 18 (rw9 z w)).toNat)
  have pa : pA (z 72 l) = true := decide_eq_true hk
  have pt : pT (z 72 l) = false := decide_eq_false (by omega)
  have pm : pM (z 72 l) = false := decide_eq_false (by omega)
  rw [pa, if_t rfl] at c1
  have h22 := h.2.2.2.2.1
  unfold G_putsActivity G_putsActivity_0
  refine Pv.chk fun _ => Pv.chk fun _ => Pv.chk fun _ => Pv.chk fun _ => Pv.ste fun y1 ey1 => Pv.chk fun _ => Pv.ste fun y2 ey2 => Pv.chk fun _ => Pv.ste fun y3 ey3 => Pv.chk fun _ => Pv.ste fun y4 ey4 => Pv.chk fun _ => Pv.ste fun y5 ey5 => Pv.chk fun _ => Pv.ste fun y6 ey6 => Pv.chk fun _ => Pv.chk fun _ => Pv.chk fun _ => Pv.ste fun y7 ey7 => Pv.ret ?_
  have f : ∀ (j : Nat) i, ¬ (j = 22 ∧ i = w) → ¬ (23 ≤ j ∧ j ≤ 28 ∧ i = 80 * w + r 22 w) → j ≠ 29 → y7 j i = r j i := fun j i a b c => by
    rw [ey7, ur_n (by omega), ey6, ur_n (by omega), ey5, ur_n (by omega), ey4, ur_n (by omega), ey3, ur_n (by omega), ey2, ur_n (by omega), ey1, ur_n (by omega)]
  have f22 : y7 22 w = r 22 w + 1 := by
    rw [ey7, ur_e rfl rfl, ey6, ur_n (by omega), ey5, ur_n (by omega), ey4, ur_n (by omega), ey3, ur_n (by omega), ey2, ur_n (by omega), ey1, ur_n (by omega)]
  refine h.nx ?_ (fun j hj => by funext i; exact f j i (by omega) (by omega) (by omega)) (fun j i a b => f j i (by omega) (by omega) (by omega)) (by rw [f 16 0 (by omega) (by omega) (by omega)]; omega) l0 ?_
  · refine h.1.count d0.1 e2 e3 (fun j i a b c => f j i (by omega) (by omega) c) (by rw [f 32 w (by omega) (by omega) (by omega)]; omega) fun n n0 n8 n1 => ?_
    rw [f 32 w (by omega) (by omega) (by omega)] at n1
    rw [f 33 _ (by omega) (by omega) (by omega)]
    exact (h.1.pw d0.1 e2).2.2.2.2.2.2.2.2 n n0 n8 n1
  · rw [f22, f 30 w (by omega) (by omega) (by omega), f 32 w (by omega) (by omega) (by omega), pa, pt, pm, if_t rfl, if_f (show ¬ (false = true) by decide)]
    omega
theorem d_timer (h : Dz w z l r) (hd : Dh w z) (l0 : 0 ≤ l) (hk : z 72 l = 10) : Pv (Dz w z (l + 1)) (G_setsTimer_ w x 1 r) := by
  obtain ⟨e1, e2, e3, e4⟩ := h.e hd
  have d0 := hd.1
  have d1 := hd.2.1
  have c3 := cntP_0 (p := pT) (f := z 72) (n := l.toNat)
  have pa : pA (z 72 l) = false := decide_eq_false (by omega)
  have pt : pT (z 72 l) = true := decide_eq_true hk
  have pm : pM (z 72 l) = false := decide_eq_false (by omega)
  unfold G_setsTimer_ G_setsTimer__0
  rw [if_f (by decide)]
  refine Pv.chk fun _ => Pv.chk fun _ => Pv.chk fun _ => Pv.chk fun _ => Pv.chk fun _ => Pv.ste fun y1 ey1 => Pv.chk fun _ => Pv.chk fun _ => Pv.chk fun _ => Pv.ste fun y2 ey2 => Pv.ret ?_
  have f : ∀ (j : Nat) i, ¬ (j = 30 ∧ i = w) → j ≠ 31 → y2 j i = r j i := fun j i a b => by rw [ey2, ur_n (by omega), ey1, ur_n (by omega)]
  have f30 : y2 30 w = r 30 w + 1 := by rw [ey2, ur_e rfl rfl, ey1, ur_n (by omega)]
  refine h.nx ?_ (fun j hj => by funext i; exact f j i (by omega) (by omega)) (fun j i a b => f j i (by omega) (by omega)) (by rw [f 16 0 (by omega) (by omega)]; omega) l0 ?_
  · have p1 : Px nob nob (fun c => c = w) y1 := h.1.fr fun j hj => by rw [ey1, ur_ne (by omega)]
    have g16 : w < y1 16 0 := by rw [ey1, ur_n (by omega)]; exact e2
    have g17 : y1 17 (rw9 y1 w) = 20 := by rw [rw9_e (r := r) (by rw [ey1, ur_ne (by omega)]), ey1, ur_n (by omega)]; exact e3
    refine p1.count d0.1 g16 g17 (fun j i a b c => by rw [ey2, ur_n (by omega)]) (by rw [ey2, ur_n (by omega)]; omega) fun n n0 n8 n1 => ?_
    rw [ey2, ur_n (by omega)] at n1
    rw [ey2, ur_n (by omega)]
    exact (p1.pw d0.1 g16).2.2.2.2.2.2.2.2 n n0 n8 n1
  · rw [f30, f 22 w (by omega) (by omega), f 32 w (by omega) (by omega), pa, pt, pm, if_t rfl, if_f (show ¬ (false = true) by decide)]
    omega
/-- what counts nothing -/
theorem Dz.no (h : Dz w z l r) (hd : Dh w z) (l0 : 0 ≤ l) (hk : z 72 l ≠ 8 ∧ z 72 l ≠ 15 ∧ z 72 l ≠ 10 ∧ z 72 l ≠ 12) (hp : Px nob nob (fun c => c = w) r') (f : ∀ j : Nat, j ≠ 13 → j ≠ 23 → j ≠ 31 → j ≠ 39 → r' j = r j) : Dz w z (l + 1) r' := by
  have pa : pA (z 72 l) = false := decide_eq_false (by omega)
  have pt : pT (z 72 l) = false := decide_eq_false (by omega)
  have pm : pM (z 72 l) = false := decide_eq_false (by omega)
  refine h.nx hp (fun j hj => f j (by omega) (by omega) (by omega) (by omega)) (fun j i a b => by rw [f j (by omega) (by omega) (by omega) (by omega)]) (by rw [f 16 (by omega) (by omega) (by omega) (by omega)]; omega) l0 ?_
  rw [f 22 (by omega) (by omega) (by omega) (by omega), f 30 (by omega) (by omega) (by omega) (by omega), f 32 (by omega) (by omega) (by omega) (by omega), pa, pt, pm, if_f (show ¬ (false = true) by decide)]
  omega
end DOE
