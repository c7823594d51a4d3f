/-! what stands behind a decide, for p35 -/
section DCO
variable {r r' r0 ra z A : Rst} {B E n w ver v N rn : Int} {m : Mem} {f a b : Int → Int}
/-- what was decided, behind its DECIDED -/
theorem Hx.block (h : Hx f a b E) (n0 : 0 ≤ n) (hn : E + 1 + n ≤ 80) (f7 : f E = 7) (hk : ∀ k, 0 ≤ k → k < n → (8 ≤ f (E + 1 + k) ∧ f (E + 1 + k) ≤ 16) ∧ (f (E + 1 + k) = 9 → a (E + 1 + k) < cntP pA f E.toNat + cntP pA (fun i => f (E + 1 + i)) k.toNat) ∧ (f (E + 1 + k) = 11 → a (E + 1 + k) < cntP pT f E.toNat + cntP pT (fun i => f (E + 1 + i)) k.toNat)) : ∀ k : Nat, (k : Int) ≤ n → Hx f a b (E + 1 + k) := by
  have e1 := h.1
  have cp : ∀ p : Int → Bool, p 7 = false → ∀ k : Int, 0 ≤ k → cntP p f (E + 1 + k).toNat = cntP p f E.toNat + cntP p (fun i => f (E + 1 + i)) k.toNat := fun p h7 k k0 => by
    have := cnt_part (p := p) (f := f) (g := fun i => f (E + 1 + i)) (L := E) (d := E) (b := E + 1 + k) (by omega) (Int.le_refl _) (by omega) (fun i i0 i1 => by rw [show i = E by omega, f7]; exact h7) fun i i0 i1 => rfl
    rw [show E + 1 + k - E - 1 = k by omega] at this
    exact this
  intro k
  induction k with
  | zero =>
    intro _
    rw [show E + 1 + ((0 : Nat) : Int) = E + 1 by omega]
    exact h.app (by omega) (fun _ _ _ => ⟨rfl, rfl, rfl⟩) ⟨f7, rfl, rfl⟩ ⟨by omega, fun h => by omega, fun h => by omega, fun h => by omega, fun h => by omega, fun h => by omega, fun h => by omega⟩
  | succ k ih =>
    intro hk1
    have h2 := ih (by omega)
    rw [show E + 1 + ((k + 1 : Nat) : Int) = E + 1 + (k : Int) + 1 by omega]
    obtain ⟨k1, k2, k3⟩ := hk k (by omega) (by omega)
    refine h2.app (by omega) (fun _ _ _ => ⟨rfl, rfl, rfl⟩) ⟨rfl, rfl, rfl⟩ ⟨by omega, fun _ => ?_, fun h => ?_, fun h => ?_, fun h => by omega, fun h => by omega, fun h => by omega⟩
    · by_cases d : k = 0
      · rw [show E + 1 + (k : Int) - 1 = E by omega, f7]; decide
      · have := (hk (k - 1) (by omega) (by omega)).1
        rw [show E + 1 + (k : Int) - 1 = E + 1 + ((k : Int) - 1) by omega]
        omega
    · rw [cp pA rfl k (by omega)]
      exact k2 (by omega)
    · rw [cp pT rfl k (by omega)]
      exact k3 (by omega)
/-- what a decide leaves behind: n of what was decided at ra, written and done -/
def Dd (w ver row E n : Int) (ra r : Rst) : Prop := (∀ (j : Nat) i, 19 ≤ j → j ≤ 21 → 0 ≤ i → i < E → r j (80 * row + i) = ra j (80 * row + i)) ∧ (r 19 (80 * row + E) = 7 ∧ r 20 (80 * row + E) = ver) ∧ (∀ k, 0 ≤ k → k < n → r 19 (80 * row + (E + 1 + k)) = ra 72 k ∧ r 20 (80 * row + (E + 1 + k)) = ra 73 k ∧ r 21 (80 * row + (E + 1 + k)) = ra 74 k) ∧ (E + 1 + n ≤ r 18 row ∧ r 18 row ≤ 80) ∧ (∀ i, E + 1 + n ≤ i → i < r 18 row → r 19 (80 * row + i) = 5) ∧ (ra 42 0 = 2 ∧ r 18 row = E + 1 + n ∧ r 17 row = ra 49 0 ∧ r 12 w = ra 12 w + (if ra 49 0 = 14 then 1 else 0) ∧ (ra 49 0 ≠ 14 → r 14 w = ra 14 w) ∨ ra 42 0 ≠ 2 ∧ r 17 row = 20 ∧ r 12 w = ra 12 w ∧ r 14 w = ra 14 w) ∧ r 7 w = ra 7 w ∧ ∀ j : Nat, j < 7 → r j = ra j
theorem dec_core (hp : Px nob nob nob ra) (w0 : 0 ≤ w) (w1 : w < ra 16 0) (hr : ra 17 (rw9 ra w) = 20) (hE : ra 18 (rw9 ra w) = E) (n0 : 0 ≤ n) (h76 : ra 76 0 = n) (hfit : E + 1 + n ≤ 80) (hC : ra 22 w = cntP pA (rwf ra 19 (rw9 ra w)) E.toNat ∧ ra 30 w = cntP pT (rwf ra 19 (rw9 ra w)) E.toNat ∧ ra 32 w = cntP pM (rwf ra 19 (rw9 ra w)) E.toNat) (hK : ∀ k, 0 ≤ k → k < n → Kd (ra 22 w) (ra 30 w) (ra 72) (ra 73) n (ra 42 0) rn k) (hO : ra 42 0 = 2 → OV ra ∧ Sov (ra 49 0) ∧ ra 15 w = -1 ∧ (ra 49 0 = 14 → ra 12 w ≤ 8) ∧ B3 (ra 50 0)) (h66 : ∀ k, B3 (ra 66 k)) (h75 : ∀ k, 0 ≤ k → k < n → B3 (ra 75 k)) (e : (cag (G_writes w 7 ver 0 ra) fun _ r6 => G_decide_224 G_decide_265 fuel9 w 0 r6) = some (v, r')) : v = n ∧ Px nob nob nob r' ∧ Dd w ver (rw9 ra w) E n ra r' := by
  have bb := hp.bb w0 w1
  have er : rw9 ra w = 9 * w + ra 12 w - 1 := rfl
  obtain ⟨q1, q2, q3, q4, q5, q6, q7, q8, q9⟩ := hp.pw w0 w1
  obtain ⟨s4, c4⟩ := q4 (fun a => a)
  have r10 := hp.1
  obtain ⟨r0, x1, x2, -⟩ := prep_r (ver := ver) (E := E + 1) w0 bb.1 bb.2.1.1 bb.2.1.2 n0 h76 (by omega) (by omega) (by omega) hfit
  rw [x1] at e
  obtain ⟨v1, r1, e1, e2⟩ := cag_some e
  cases e2
  refine ⟨rfl, ?_⟩
  have e3 : G_does w r0 = some (v1, r') := by
    unfold G_does G_does_0
    rw [chk_t (by omega)]
    exact e1
  clear e e1 x1
  obtain ⟨y1, y2, y3⟩ := x2
  have wrn : ∀ j : Nat, j < 18 ∨ 21 < j → wr w 7 ver 0 ra j = ra j := fun j hj => wr_n hj
  have f0 : ∀ j : Nat, j < 18 ∨ 21 < j → r0 j = ra j := fun j hj => by
    funext i
    rw [y1 j i (by omega) (by omega), wrn j hj]
  have f18 : ∀ i, i ≠ rw9 ra w → r0 18 i = ra 18 i := fun i hi => by
    rw [y1 18 i (by omega) (by omega), wr_o (by omega) (by omega)]
  have fo : ∀ (j : Nat) i, 19 ≤ j → j ≤ 21 → ¬ (80 * rw9 ra w + E ≤ i ∧ i < 80 * rw9 ra w + (E + 1) + n) → r0 j i = ra j i := fun j i a b c => by
    rw [y1 j i (by omega) (by omega), wr_o (by omega) (by omega)]
  have fE : r0 19 (80 * rw9 ra w + E) = 7 ∧ r0 20 (80 * rw9 ra w + E) = ver := by
    have wv := wr_v (r := ra) (w := w) (k := 7) (x := ver) (y := 0)
    rw [hE] at wv
    rw [y1 19 _ (by omega) (by omega), y1 20 _ (by omega) (by omega)]
    exact ⟨wv.1, wv.2.1⟩
  have fk : ∀ k, 0 ≤ k → k < n → r0 19 (80 * rw9 ra w + (E + 1 + k)) = ra 72 k ∧ r0 20 (80 * rw9 ra w + (E + 1 + k)) = ra 73 k ∧ r0 21 (80 * rw9 ra w + (E + 1 + k)) = ra 74 k := fun k k0 k1 => by
    have := y3 k k0 k1
    rw [wrn 72 (by omega), wrn 73 (by omega), wrn 74 (by omega)] at this
    exact this
  have er0 : rw9 r0 w = rw9 ra w := rw9_e (f0 12 (by omega))
  -- the row
  have e19 : ∀ j, 0 ≤ j → j < E → rwf r0 19 (rw9 ra w) j = rwf ra 19 (rw9 ra w) j ∧ rwf r0 20 (rw9 ra w) j = rwf ra 20 (rw9 ra w) j ∧ rwf r0 21 (rw9 ra w) j = rwf ra 21 (rw9 ra w) j := fun j a b => ⟨fo 19 _ (by omega) (by omega) (by omega), fo 20 _ (by omega) (by omega) (by omega), fo 21 _ (by omega) (by omega) (by omega)⟩
  have h3 : Hx (rwf r0 19 (rw9 ra w)) (rwf r0 20 (rw9 ra w)) (rwf r0 21 (rw9 ra w)) E := by
    have := q3
    unfold Hr at this
    rw [hE] at this
    exact this.cg e19
  have cE : ∀ p : Int → Bool, cntP p (rwf r0 19 (rw9 ra w)) E.toNat = cntP p (rwf ra 19 (rw9 ra w)) E.toNat := fun p => cntP_congr fun j a b => (e19 j a (by omega)).1
  have c72 : ∀ (p : Int → Bool) k, 0 ≤ k → k ≤ n → cntP p (fun i => rwf r0 19 (rw9 ra w) (E + 1 + i)) k.toNat = cntP p (ra 72) k.toNat := fun p k k0 k1 => cntP_congr fun j a b => (fk j a (by omega)).1
  have bl := h3.block n0 hfit fE.1 (fun k k0 k1 => by
    obtain ⟨d1, d2, d3, d4, d5, d6, d7⟩ := hK k k0 k1
    obtain ⟨g1, g2, g3⟩ := fk k k0 k1
    have g1' : rwf r0 19 (rw9 ra w) (E + 1 + k) = ra 72 k := g1
    have g2' : rwf r0 20 (rw9 ra w) (E + 1 + k) = ra 73 k := g2
    rw [g1', g2', cE, cE, c72 pA k k0 (by omega), c72 pT k k0 (by omega), ← hC.1, ← hC.2.1]
    exact ⟨by omega, fun e => (d2 e).2, fun e => (d3 e).2⟩) n.toNat (by omega)
  rw [show E + 1 + ((n.toNat : Nat) : Int) = E + 1 + n by omega] at bl
  have hrow : Hr r0 (rw9 ra w) := by
    unfold Hr
    rw [y2]
    exact bl
  have cT : ∀ p : Int → Bool, p 7 = false → cntP p (rwf r0 19 (rw9 ra w)) (E + 1 + n).toNat = cntP p (rwf ra 19 (rw9 ra w)) E.toNat + cntP p (ra 72) n.toNat := fun p h7 => by
    have := cnt_part (p := p) (f := rwf r0 19 (rw9 ra w)) (g := ra 72) (L := E) (d := E) (b := E + 1 + n) (by omega) (Int.le_refl _) (by omega) (fun i i0 i1 => by rw [show i = E by omega]; have : rwf r0 19 (rw9 ra w) E = 7 := fE.1; rw [this]; exact h7) fun i i0 i1 => ((fk i i0 (by omega)).1).symm
    rw [show E + 1 + n - E - 1 = n by omega, cE] at this
    exact this
  have p0 : Px nob nob (fun c => c = w) r0 := by
    refine hp.one (w := w) w0 w1 (by rw [f0 16 (by omega)]) (fun d _ => by rw [f0 12 (by omega)]) (fun i _ => f18 i (by omega)) (fun c c0 c1 c2 j i hj => ?_) (Or.inl ⟨by rw [f0 12 (by omega)], by rw [f0 32 (by omega)]; omega⟩) (fun k a b => ?_) (hp.2.2.2.2.fr (f0 39 (by omega))) ?_ fun d hd => ⟨id, id, fun a => a.elim⟩
    · have bc := (hp.bb c0 c1).2.1
      by_cases j18 : j < 18 ∨ 21 < j
      · rw [f0 j j18]
      · by_cases j2 : j = 18
        · subst j2
          exact f18 i (by unfold Own at hj; omega)
        · exact fo j i (by omega) (by omega) (by unfold Own at hj; omega)
    · rw [f0 12 (by omega)] at a
      rw [f18 _ (by omega)]
      exact hp.2.2.2.1 w k w0 (by omega) a b
    · have rows : ∀ k, 1 ≤ k → k < ra 12 w → r0 18 (9 * w + k - 1) = ra 18 (9 * w + k - 1) ∧ ∀ (j : Nat) i, 19 ≤ j → j ≤ 21 → 0 ≤ i → i < 80 → r0 j (80 * (9 * w + k - 1) + i) = ra j (80 * (9 * w + k - 1) + i) := fun k k0 k1 => ⟨f18 _ (by omega), fun j i a b c d => fo j _ a b (by omega)⟩
      unfold Pw
      rw [er0, f0 9 (by omega), f0 10 (by omega), f0 11 (by omega), f0 12 (by omega), f0 14 (by omega), f0 15 (by omega), f0 16 (by omega), f0 17 (by omega), f0 22 (by omega), f0 23 (by omega), f0 32 (by omega), f0 33 (by omega)]
      refine ⟨q1, fun k a b => ?_, hrow, fun z => absurd rfl z, q5, q6, q7, q8, q9⟩
      obtain ⟨g1, g2, g3⟩ := q2 k a b
      obtain ⟨o1, o2⟩ := rows k a b
      exact ⟨g1.fr o1 o2, g2.fr g1.n (by rw [f0 17 (by omega)]) o1 o2, g3⟩
  have s20 : Sx (rwf ra 19 (rw9 ra w)) (rwf ra 20 (rw9 ra w)) E 20 := by
    unfold Sr at s4
    rw [hE, hr] at s4
    exact s4
  have no16 : ∀ i, 0 < i → i < E + 1 + n → rwf r0 19 (rw9 ra w) i = 16 → ∃ k, 0 ≤ k ∧ k < n ∧ i = E + 1 + k ∧ ra 72 k = 16 := fun i i0 i1 hi => by
    by_cases c1 : i < E
    · rw [(e19 i (by omega) c1).1] at hi
      exact absurd hi (s20.no i0 c1)
    · by_cases c2 : i = E
      · have : rwf r0 19 (rw9 ra w) E = 7 := fE.1
        rw [c2, this] at hi
        omega
      · refine ⟨i - (E + 1), by omega, by omega, by omega, ?_⟩
        have := (fk (i - (E + 1)) (by omega) (by omega)).1
        rw [show E + 1 + (i - (E + 1)) = i by omega] at this
        exact this.symm.trans hi
  have dh : Dh w r0 := by
    have c0 : ∀ p : Int → Bool, 0 ≤ cntP p (rwf ra 19 (rw9 ra w)) E.toNat := fun p => cntP_0
    have ca := c0 pA
    have ct := c0 pT
    have cm := c0 pM
    refine ⟨⟨w0, by rw [f0 16 (by omega)]; exact w1, by rw [f0 12 (by omega)]; exact bb.2.1.1, by rw [f0 12 (by omega)]; exact bb.2.1.2⟩, ?_, ?_, by rw [er0, y2]; omega, by rw [er0, f0 17 (by omega)]; exact hr, fun k k0 k1 => ?_⟩
    · rw [f0 22 (by omega), f0 30 (by omega), f0 32 (by omega)]; omega
    · rw [er0, y2, cT pA rfl, cT pT rfl, cT pM rfl, f0 22 (by omega), f0 30 (by omega), f0 32 (by omega), f0 72 (by omega), f0 76 (by omega), h76]
      omega
    · rw [f0 76 (by omega), h76] at k1
      rw [f0 72 (by omega), f0 73 (by omega), f0 75 (by omega)]
      obtain ⟨d1, d2, d3, d4, d5, d6, d7⟩ := hK k k0 k1
      refine ⟨by omega, fun e => ?_, h75 k k0 k1⟩
      have := d2 e
      have c1 := cntP_m (q := pA) (f := ra 72) (l := k) (n := n) k0 (by omega)
      have c2 := cT pA rfl
      have c3 := cntP_le (p := pA) (f := rwf r0 19 (rw9 ra w)) (n := (E + 1 + n).toNat)
      have c4 := (show Hx _ _ _ _ from bl).2.1.1
      obtain ⟨kk, hkk⟩ : ∃ kk, (E + 1 + n).toNat = kk + 1 := ⟨(E + 1 + n).toNat - 1, by omega⟩
      rw [hkk] at c2 c3
      have c5 := cntP_lt (p := pA) (f := rwf r0 19 (rw9 ra w)) (by rw [c4]; rfl) (n := kk)
      omega
  have pd := p_does p0 dh (by rw [f0 76 (by omega)]; omega) (fun c2 => ?_) (fun c2 => ?_) v1 r' e3
  · obtain ⟨p1, p2⟩ := pd
    rw [er0] at p2
    refine ⟨p1, ?_⟩
    unfold Dd
    rcases p2 with ⟨c2, ⟨g1, g2, g3⟩, g4, g5, g6, g7⟩ | ⟨c2, g1, g2, g3, g4, ⟨g5, g6, g7⟩, g8⟩
    · rw [f0 42 (by omega)] at c2
      rw [y2] at g2 g3
      rw [f0 49 (by omega)] at g1 g4 g5
      refine ⟨fun j i a b c d => (g3 j i a b c (by omega)).trans (fo j _ a b (by omega)), ⟨(g3 19 E (by omega) (by omega) (by omega) (by omega)).trans fE.1, (g3 20 E (by omega) (by omega) (by omega) (by omega)).trans fE.2⟩, fun k k0 k1 => ?_, by omega, fun i a b => by omega, Or.inl ⟨c2, g2, g1, by rw [g4, f0 12 (by omega)], fun h => by rw [g5 h, f0 14 (by omega)]⟩, by rw [g6, f0 7 (by omega)], fun j hj => by rw [g7 j hj, f0 j (by omega)]⟩
      rw [g3 19 _ (by omega) (by omega) (by omega) (by omega), g3 20 _ (by omega) (by omega) (by omega) (by omega), g3 21 _ (by omega) (by omega) (by omega) (by omega)]
      exact fk k k0 k1
    · rw [f0 42 (by omega)] at c2
      rw [y2] at g2 g3 g4
      rw [f0 12 (by omega)] at g5
      have g9 : rw9 r' w = rw9 ra w := by unfold rw9; rw [g5]
      have w2 : w < r' 16 0 := by
        rcases Int.lt_or_le w (r' 16 0) with h | h
        · exact h
        · have := p1.2.2.1 w h bb.1
          omega
      have b8 := (p1.bb w0 w2).2.2
      rw [g9] at b8
      refine ⟨fun j i a b c d => (g3 j i a b c (by omega)).trans (fo j _ a b (by omega)), ⟨(g3 19 E (by omega) (by omega) (by omega) (by omega)).trans fE.1, (g3 20 E (by omega) (by omega) (by omega) (by omega)).trans fE.2⟩, fun k k0 k1 => ?_, by omega, g4, Or.inr ⟨c2, g1, g5, by rw [g6, f0 14 (by omega)]⟩, by rw [g7, f0 7 (by omega)], fun j hj => by rw [g8 j hj, f0 j (by omega)]⟩
      rw [g3 19 _ (by omega) (by omega) (by omega) (by omega), g3 20 _ (by omega) (by omega) (by omega) (by omega), g3 21 _ (by omega) (by omega) (by omega) (by omega)]
      exact fk k k0 k1
  · rw [f0 42 (by omega)] at c2
    obtain ⟨⟨o1, o2, o3, o4⟩, o5, o6, o7, o8⟩ := hO c2
    rw [h76] at o1 o2 o3 o4
    obtain ⟨l1, l2, l3⟩ := fk (n - 1) (by omega) (by omega)
    rw [show E + 1 + (n - 1) = E + 1 + n - 1 by omega] at l1 l2
    rw [er0, y2, f0 49 (by omega), f0 15 (by omega), f0 12 (by omega), f0 50 (by omega), f0 66 (by omega)]
    refine ⟨o5, ⟨fun i i0 i1 hi => ?_, fun _ _ => l1.trans o2⟩, o6, o7, o8, h66⟩
    obtain ⟨k, k0, k1, k2, k3⟩ := no16 i i0 i1 hi
    have := (hK k k0 k1).2.2.2.2.2.2 k3
    have ek : i = E + 1 + n - 1 := by omega
    refine ⟨ek, ?_, o5⟩
    rw [ek]
    exact l2.trans o3
  · rw [f0 42 (by omega)] at c2
    rw [er0]
    unfold Sr
    rw [y2, f0 17 (by omega), hr]
    refine ⟨fun i i0 i1 hi => ?_, fun h => absurd rfl h⟩
    obtain ⟨k, k0, k1, k2, k3⟩ := no16 i i0 i1 hi
    have := (hK k k0 k1).2.2.2.2.2.2 k3
    omega
end DCO
