/-! a run goes on as new: the new run -/
section EW
variable {N N' : Int} {uf : Int → Int} {r r' z r0 r1 r2 : Rst} {m m' m0 m1 : Mem} {w n k x y q s b c a v row I o t l u f W E M p nu pa L R F : Int}
theorem NRun.oth (nr : NRun r w v r') : ∀ j : Nat, ¬ (j = 12 ∨ j = 14 ∨ j = 15 ∨ (17 ≤ j ∧ j ≤ 22) ∨ j = 30 ∨ j = 32) → r' j = r j := fun j hj => by
  funext i
  exact nr.2.2.2.2.2 j i (by omega)
theorem hi_newrun (nr : NRun r w v r') (bv : -100000 ≤ v ∧ v ≤ 100000) : HI r' w := by
  obtain ⟨n1, n2, n3, n4, n5, n6⟩ := nr
  have er : rw9 r' w = 9 * w + r 12 w := by unfold rw9; omega
  have e0 : hk r' w 0 = 0 := by unfold hk; rw [er, Int.add_zero]; exact n5.1
  have cnt : ∀ pp : Int → Bool, pp 0 = false → cntP pp (hk r' w) (1 : Int).toNat = 0 := fun pp hp => by
    rw [show (1 : Int).toNat = 0 + 1 from rfl, cntP, cntP, show ((0 : Nat) : Int) = 0 from rfl, e0, hp]
    rfl
  unfold HI
  rw [er, n3]
  refine ⟨by omega, e0, fun i a b => by omega, fun i a b => ?_, fun i a b c => ?_, fun i a b c d => ?_, fun i a b c => ?_, fun i j a b c => by omega, fun i a b c => ?_, fun i j a b c => by omega, fun i a b c => ?_, fun i a b c => by omega, ?_, ?_, ?_⟩
  · rw [show i = 0 by omega, e0]; omega
  · rw [show 80 * (9 * w + r 12 w) + i = 80 * (9 * w + r 12 w) by omega, n5.2.1, n5.2.2]; omega
  · rw [show i = 0 by omega, e0] at c; omega
  · rw [show i = 0 by omega, e0] at c; omega
  · rw [show i = 0 by omega, e0] at c; omega
  · rw [show i = 0 by omega, e0] at c; omega
  · rw [cnt pA rfl]; exact n4.2.2.1
  · rw [cnt pT rfl]; exact n4.2.2.2.1
  · rw [cnt pM rfl]; exact n4.2.2.2.2
/-- as HI.fr, where only the children that are told to be over matter -/
theorem HI.fr5 (h : HI r w) (e12 : r' 12 w = r 12 w) (e18 : r' 18 (rw9 r w) = r 18 (rw9 r w)) (e19 : ∀ (j : Nat) i, 19 ≤ j → j ≤ 21 → 0 ≤ i → i < r 18 (rw9 r w) → r' j (80 * rw9 r w + i) = r j (80 * rw9 r w + i)) (e22 : r' 22 w = r 22 w) (e30 : r' 30 w = r 30 w) (e32 : r' 32 w = r 32 w) (e17 : r' 17 (rw9 r w) = r 17 (rw9 r w)) (e23 : ∀ n, 0 ≤ n → n < r 22 w → r' 23 (80 * w + n) = r 23 (80 * w + n)) (e33 : ∀ n, 0 ≤ n → n < r 32 w → r' 33 (80 * w + n) = r 33 (80 * w + n)) (e17c : ∀ i, 0 ≤ i → i < r 18 (rw9 r w) → hk r w i = 5 → r 33 (80 * w + r 20 (80 * rw9 r w + i)) ≠ -1 → r 17 (rw9 r (r 33 (80 * w + r 20 (80 * rw9 r w + i)))) ≠ 20 → r' 17 (rw9 r' (r 33 (80 * w + r 20 (80 * rw9 r w + i)))) ≠ 20) : HI r' w := by
  obtain ⟨a1, a2, a3, a4, a5, a6, a7, a8, a9, b1, b2, b3, b4⟩ := h
  have er : rw9 r' w = rw9 r w := by unfold rw9; rw [e12]
  have ek : ∀ i, 0 ≤ i → i < r 18 (rw9 r w) → hk r' w i = hk r w i := fun i c d => by
    unfold hk
    rw [er]
    exact e19 19 i (by omega) (by omega) c d
  unfold HI
  rw [er, e18, e22, e30, e32]
  have cn : ∀ p : Int → Bool, cntP p (hk r' w) (r 18 (rw9 r w)).toNat = cntP p (hk r w) (r 18 (rw9 r w)).toNat := fun p => cntP_congr fun i c d => ek i c (by omega)
  refine ⟨a1, by rw [ek 0 (by omega) (by omega)]; exact a2, fun i c d => by rw [ek i (by omega) d]; exact a3 i c d, fun i c d => by rw [ek i c d]; exact a4 i c d, fun i c d => ?_, fun i c d => ?_, fun i c d => ?_, fun i j c d e => ?_, fun i c d => ?_, fun i j c d e => ?_, fun i c d => ?_, fun i c d => ?_, ?_⟩
  · rw [ek i c d, e19 20 i (by omega) (by omega) c d, e19 21 i (by omega) (by omega) c d]; exact a5 i c d
  · rw [ek i c d, e19 20 i (by omega) (by omega) c d]; exact a6 i c d
  · rw [ek i c d, e19 20 i (by omega) (by omega) c d]
    intro k
    have k1 := a7 i c d k
    have k2 := a6 i c d (by omega) (by omega)
    exact ⟨k1.1, by rw [e23 _ k2 k1.1]; exact k1.2⟩
  · rw [ek i c (by omega), ek j (by omega) e, e19 20 i (by omega) (by omega) c (by omega), e19 20 j (by omega) (by omega) (by omega) e]; exact a8 i j c d e
  · rw [ek i c d, e19 20 i (by omega) (by omega) c d]
    intro k
    have k1 := a9 i c d k
    have k2 := a6 i c d (by omega) (by omega)
    rw [e33 _ k2 k1.1]
    refine ⟨k1.1, ?_⟩
    by_cases f : r 33 (80 * w + r 20 (80 * rw9 r w + i)) = -1
    · exact Or.inl f
    · exact Or.inr (e17c i c d k f (k1.2.resolve_left f))
  · rw [ek i c (by omega), ek j (by omega) e, e19 20 i (by omega) (by omega) c (by omega), e19 20 j (by omega) (by omega) (by omega) e]; exact b1 i j c d e
  · rw [ek i c d, e17]; exact b2 i c d
  · rw [ek i (by omega) d, ek (i - 1) (by omega) (by omega)]; exact b3 i c d
  · rw [cn, cn, cn]; exact b4
theorem gi_newrun (h : GI N r) (w0 : 0 ≤ w) (w1 : w < r 16 0) (r8 : r 12 w ≤ 8) (bv : -100000 ≤ v ∧ v ≤ 100000) (nr : NRun r w v r') (h5 : ∀ p, 0 ≤ p → p < w → ∀ i, 0 ≤ i → i < r 18 (rw9 r p) → hk r p i = 5 → r 33 (80 * p + r 20 (80 * rw9 r p + i)) ≠ w) : GI N r' := by
  have rg := h.rg
  have b10 := rg.1
  have o := NRun.oth nr
  have nw := nr.2.2.2.2.2
  have lt := fun w2 (a : 0 ≤ w2) (b : w2 < r 16 0) => h.lt a b
  obtain ⟨c1, c2, c3, c4, c5, c6, c7, c8, c9⟩ := h
  have e16 : r' 16 = r 16 := o 16 (by omega)
  have n12 : r' 12 w = r 12 w + 1 := nr.1
  have e12 : ∀ i, i ≠ w → r' 12 i = r 12 i := fun i hi => nw 12 i (by omega)
  have sw := rg.2.2 w w0 w1
  refine ⟨by rw [e16]; exact c1, ?_, ?_, fun w2 a b => ?_, ⟨fun w2 a b => ?_, fun w2 k a b c d => ?_, fun w2 k a b c d => ?_⟩, fun w2 a b => ?_, ⟨fun w2 n a b c d => ?_, fun c a b => ?_⟩, ⟨fun q a b => ?_, fun w2 n a b c d => ?_⟩, ?_⟩
  · unfold GP StC PgR at *
    simp (disch := omega) only [ur_ne, ur_e] at c2 ⊢
    rw [o 2 (by omega), o 3 (by omega), o 4 (by omega), o 5 (by omega), o 6 (by omega)]
    exact c2
  · unfold Fb Pt at *
    simp (disch := omega) only [o]
    exact c3
  · rw [e16] at b
    rw [o 7 (by omega), o 8 (by omega)]
    have k := c4 w2 a b
    by_cases e : w2 = w
    · rw [e, n12]
      rw [e] at k
      omega
    · rw [e12 w2 e]; exact k
  · rw [e16] at a
    rw [e12 w2 (by omega), o 13 (by omega)]
    exact c5.1 w2 a b
  · by_cases e : w2 = w
    · rw [e, n12] at c
      rw [e, nw 18 _ (by omega)]
      exact c5.2.1 w k w0 (by omega) (by omega) d
    · rw [e12 w2 e] at c
      have p2 : 0 ≤ r 12 w2 := by
        by_cases f : w2 < r 16 0
        · have := (rg.2.2 w2 a f).1
          omega
        · rw [(c5.1 w2 (by omega) b).1]; omega
      have := sw.1
      rw [nw 18 _ (by omega)]
      exact c5.2.1 w2 k a b c d
  · rw [e16] at b
    by_cases e : w2 = w
    · rw [e] at d ⊢
      rw [n12] at d
      by_cases f : k = r 12 w + 1
      · rw [f, show 9 * w + (r 12 w + 1) - 1 = 9 * w + r 12 w by omega, nr.2.2.1]; omega
      · rw [nw 18 _ (by omega)]
        exact c5.2.2 w k w0 w1 c (by omega)
    · rw [e12 w2 e] at d
      have := (rg.2.2 w2 a b).2.1
      have := sw.1
      rw [nw 18 _ (by omega)]
      exact c5.2.2 w2 k a b c d
  · rw [e16] at b
    by_cases e : w2 = w
    · rw [e]; exact hi_newrun nr bv
    · have s' := rg.2.2 w2 a b
      have s1' := s'.1
      have s2' := s'.2.1
      have s1 := sw.1
      have ew2 : rw9 r w2 = 9 * w2 + r 12 w2 - 1 := rfl
      have l2 := lt w2 a b
      refine (c6 w2 a b).fr5 (e12 w2 e) (nw 18 _ (by omega)) (fun j i f g u v => nw j _ (by omega)) (nw 22 _ (by omega)) (nw 30 _ (by omega)) (nw 32 _ (by omega)) (nw 17 _ (by omega)) (fun n f g => by rw [o 23 (by omega)]) (fun n f g => by rw [o 33 (by omega)]) (fun i i0 i1 ik f f2 => ?_)
      have hi := c6 w2 a b
      have k9 := hi.2.2.2.2.2.2.2.2.1 i i0 i1 ik
      have k6 := hi.2.2.2.2.2.1 i i0 i1 (by omega) (by omega)
      have ch := (c7.1 w2 _ a b k6 k9.1).resolve_left f
      have ne : r 33 (80 * w2 + r 20 (80 * rw9 r w2 + i)) ≠ w := by
        by_cases g : w2 < w
        · exact h5 w2 a g i i0 i1 ik
        · omega
      obtain ⟨c, hc⟩ : ∃ c, c = r 33 (80 * w2 + r 20 (80 * rw9 r w2 + i)) := ⟨_, rfl⟩
      rw [← hc] at f2 ch ne ⊢
      have sc := rg.2.2 c (by omega) ch.2.1
      have sc1 := sc.1
      have sc2 := sc.2.1
      have e9 : rw9 r' c = rw9 r c := by unfold rw9; rw [e12 _ ne]
      have e92 : rw9 r c = 9 * c + r 12 c - 1 := rfl
      rw [e9, nw 17 _ (by omega)]
      exact f2
  · rw [e16] at b ⊢
    by_cases e : w2 = w
    · rw [e, nr.2.2.2.1.2.2.2.2] at d; omega
    · rw [nw 32 w2 (by omega)] at d
      rw [o 33 (by omega), o 9 (by omega), o 10 (by omega), o 11 (by omega), e12 w2 e]
      exact c7.1 w2 n a b c d
  · rw [e16] at b
    rw [o 9 (by omega), o 10 (by omega), o 11 (by omega), o 33 (by omega)]
    rcases c7.2 c a b with f | ⟨f1, f2, f3, f4⟩
    · exact Or.inl f
    · refine Or.inr ⟨f1, f2, ?_, fun g => ?_⟩
      · by_cases e : r 9 c = w
        · rw [e, n12]
          rw [e] at f3
          omega
        · rw [e12 _ e]; exact f3
      · by_cases e : r 9 c = w
        · rw [e, n12] at g
          rw [e] at f3
          omega
        · rw [e12 _ e] at g
          rw [nw 32 _ (by omega)]
          exact f4 g
  · rw [o 38 (by omega), o 39 (by omega), o 23 (by omega)]
    exact c8.1 q a b
  · rw [e16] at b
    by_cases e : w2 = w
    · rw [e, nr.2.2.2.1.2.2.1] at d; omega
    · rw [nw 22 w2 (by omega)] at d
      rw [o 23 (by omega), o 25 (by omega), o 26 (by omega), o 27 (by omega), o 1 (by omega)]
      exact c8.2 w2 n a b c d
  · unfold GN at *
    rw [o 1 (by omega), o 29 (by omega), o 36 (by omega), o 37 (by omega)]
    exact c9
theorem x_beginRun (h : RelK N (fun w2 => if w2 = w then u else 0) r m) (w0 : 0 ≤ w) (w1 : w < r 16 0) (r8 : r 12 w ≤ 8) (e23 : ∀ n, 0 ≤ n → n < r 22 w → r 23 (80 * w + n) = 0) (bv : -100000 ≤ v ∧ v ≤ 100000) (nr : NRun r w v r') (h5 : ∀ p, 0 ≤ p → p < w → ∀ i, 0 ≤ i → i < r 18 (rw9 r p) → hk r p i = 5 → r 33 (80 * p + r 20 (80 * rw9 r p + i)) ≠ w) : ∃ m', X10_beginRun (100000 * (w + 1)) v m = some (0, m') ∧ RelC N r' m' ∧ (∀ i, i < 100000 * (w + 1) ∨ (100000 * (w + 1) + 3 ≤ i ∧ i < Rl r w + 10000) → i ≠ -1 → i ≠ -2 → m' i = m i) ∧ m' (-2) 0 = m (-2) 0 + 7 ∧ m' (-2) 1 = m (-2) 1 + 415 := by
  have g := h.2.2.rg
  have b10 := g.1
  have s := g.2.2 w w0 w1
  obtain ⟨s1, s2, s3, s4, s5, s6⟩ := s
  have lt := h.2.2.lt w0 w1
  have o := NRun.oth nr
  have nw := nr.2.2.2.2.2
  have n12 : r' 12 w = r 12 w + 1 := nr.1
  have e12 : ∀ i, i ≠ w → r' 12 i = r 12 i := fun i hi => nw 12 i (by omega)
  have e16 : r' 16 = r 16 := o 16 (by omega)
  obtain ⟨F, hF⟩ : ∃ F, F = 100000 * (w + 1) := ⟨_, rfl⟩
  obtain ⟨R, hR⟩ : ∃ R, R = F + 10000 * (r 12 w + 1) := ⟨_, rfl⟩
  have eRl : Rl r w = F + 10000 * r 12 w := by rw [hF]; rfl
  have fz := h.1.2.2.2.2.2.2.2
  have fR : ∀ i, R ≤ i → i ≤ R + 6 → m (-1) i = 0 := fun i a b => fz.2.1 w w0 w1 i (by omega) (by omega)
  obtain ⟨m1, x0, x1, x2, x3, x4, x5, x6, x7, x8⟩ := x_newRun (l := v) (by omega) fR
  obtain ⟨f1, f2, f3, f4, f5⟩ := h.1.2.2.2.2.2.1 w w0 w1
  rw [← hF]
  have mF5 : m F 5 = r 12 w := by rw [hF]; exact f1.1.2.2.2.2.2.1
  have mF4 : m F 4 = F + 2 := by rw [hF]; exact f1.1.2.2.2.2.1
  have m1F : m1 F = m F := x1 F (by omega) (by omega) (by omega)
  obtain ⟨m', hm⟩ : ∃ m', m' = upd9 (upd9 (upd9 m1 F 6 R) (F + 2) (r 12 w) R) F 5 (r 12 w + 1) := ⟨_, rfl⟩
  have run : X10_beginRun F v m = some (0, m') := by
    have q4 : upd9 m1 F 6 R F 4 = F + 2 := by rw [upd9_n (by omega), m1F, mF4]
    have q5 : upd9 m1 F 6 R F 5 = r 12 w := by rw [upd9_n (by omega), m1F, mF5]
    have q6 : upd9 m1 F 6 R F 6 = R := upd9_e rfl rfl
    have p5 : upd9 (upd9 m1 F 6 R) (F + 2) (r 12 w) R F 5 = r 12 w := by rw [upd9_n (by omega), q5]
    have z0 := fR R (by omega) (by omega)
    unfold X10_beginRun X10_beginRun_0
    rw [mF5, if_f (by omega), vl_e, ← hR, st_e, x0, cal_e, st_e, q4, q5, q6, st_e, p5, st_e, ← hm]
    repeat rw [chk_t (by omega)]
  have em : ∀ i, i ≠ F → i ≠ F + 2 → ¬ (R ≤ i ∧ i ≤ R + 6) → i ≠ -1 → i ≠ -2 → m' i = m i := fun i a b c d e => by rw [hm, upd9_row a, upd9_row b, upd9_row a, x1 i c d e]
  have eR : ∀ i, R ≤ i → m' i = m1 i := fun i a => by rw [hm, upd9_row (by omega), upd9_row (by omega), upd9_row (by omega)]
  have eF : ∀ j, m' F j = if j = 5 then r 12 w + 1 else if j = 6 then R else m F j := fun j => by
    rw [hm]
    by_cases c : j = 5
    · rw [if_t c, upd9_e rfl c]
    · rw [if_f c, upd9_n (by omega), upd9_n (by omega)]
      by_cases d : j = 6
      · rw [if_t d, upd9_e rfl d]
      · rw [if_f d, upd9_n (by omega), m1F]
  have eF2 : ∀ j, m' (F + 2) j = if j = r 12 w then R else m (F + 2) j := fun j => by
    rw [hm]
    by_cases c : j = r 12 w
    · rw [if_t c, upd9_n (by omega), upd9_e rfl c]
    · rw [if_f c, upd9_n (by omega), upd9_n (by omega), upd9_n (by omega), x1 (F + 2) (by omega) (by omega) (by omega)]
  have ez : ∀ i, ¬ (R ≤ i ∧ i ≤ R + 6) → m' (-1) i = m (-1) i := fun i a => by rw [hm, upd9_n (by omega), upd9_n (by omega), upd9_n (by omega), x2 i a]
  have eRl' : Rl r' w = R := by unfold Rl; rw [n12]; omega
  have eRo : ∀ w2, w2 ≠ w → Rl r' w2 = Rl r w2 := fun w2 hw => by unfold Rl; rw [e12 w2 hw]
  refine ⟨m', run, ⟨?_, fun w2 a b => ?_, gi_newrun h.2.2 w0 w1 r8 bv nr h5⟩, fun i hi a b => em i (by omega) (by omega) (by omega) a b, ?_, ?_⟩
  · refine h.1.flow g w0 w1 (h.1.1.fr ⟨em 1 (by omega) (by omega) (by omega) (by omega) (by omega), em 3 (by omega) (by omega) (by omega) (by omega) (by omega)⟩ (by rw [o 1 (by omega)]) (by rw [e16]) (by rw [o 29 (by omega)])) (fun i hi => em i (by omega) (by omega) (by omega) (by omega) (by omega)) (fun j a b => o j (by omega)) (by rw [e16]) (fun j i a b c d e => nw j i (fun hh => e (by unfold Own; omega))) (fun q a b => (h.1.2.2.2.1 q a b).fr a b (fun i c => em i (by omega) (by omega) (by omega) (by omega) (by omega)) fun j c d => o j (by omega)) (fun q a b => ?_) ⟨⟨⟨?_, ?_, ?_, ?_, ?_, ?_, ?_, ?_⟩, fun hh => ?_, ⟨?_, ?_⟩, fun k a b => ?_⟩, fun k a b => ?_, ?_, fun n2 a b => ?_, fun n2 a b => ?_⟩ (fun c a b d e => ?_) ⟨fun w2 a b i c d => ?_, fun w2 a b i c d => ?_, fun t a b i c d => ?_⟩
    · have wk := h.1.2.2.2.2.1 q a b
      refine ⟨by rw [em 5 (by omega) (by omega) (by omega) (by omega) (by omega)]; exact wk.1, by rw [em _ (by omega) (by omega) (by omega) (by omega) (by omega), o 38 (by omega)]; exact wk.2.1, ?_⟩
      rw [em _ (by omega) (by omega) (by omega) (by omega) (by omega), o 39 (by omega), e16]
      have k9 := (h.2.2.2.2.2.2.2.2.2.1.1 q a b).2
      rcases wk.2.2 with k | ⟨w3, n3, a1, a2, a3, a4, a5, a6⟩
      · exact Or.inl k
      · have ne : w3 ≠ w := fun hh => by
          rw [hh] at a4 a5
          have := e23 n3 a3 a4
          rw [a5] at k9
          omega
        refine Or.inr ⟨w3, n3, a1, a2, a3, by rw [nw 22 w3 (by omega)]; exact a4, a5, by rw [eRo w3 ne]; exact a6⟩
    · rw [← hF, eF, if_f (by decide), if_f (by decide), hF]; exact f1.1.1
    · rw [← hF, eF, if_f (by decide), if_f (by decide), o 7 (by omega), hF]; exact f1.1.2.1
    · rw [← hF, eF, if_f (by decide), if_f (by decide), o 8 (by omega), hF]; exact f1.1.2.2.1
    · rw [← hF, eF, if_f (by decide), if_f (by decide), hF]; exact f1.1.2.2.2.1
    · rw [← hF, eF, if_f (by decide), if_f (by decide), hF]; exact f1.1.2.2.2.2.1
    · rw [← hF, eF, if_t rfl, n12]
    · rw [← hF, eF, if_f (by decide), if_t rfl, eRl']
    · rw [← hF, eF, if_f (by decide), if_f (by decide), o 9 (by omega), hF]; exact f1.1.2.2.2.2.2.2.2
    · rw [o 9 (by omega)] at hh
      rw [← hF, eF, eF, if_f (by decide), if_f (by decide), if_f (by decide), if_f (by decide), o 10 (by omega), o 11 (by omega), hF]
      exact f1.2.1 hh
    · rw [em _ (by omega) (by omega) (by omega) (by omega) (by omega), o 13 (by omega)]; exact f1.2.2.1.1
    · rw [em _ (by omega) (by omega) (by omega) (by omega) (by omega), o 13 (by omega)]; exact f1.2.2.1.2
    · rw [n12] at b
      rw [← hF, eF2]
      by_cases c : k - 1 = r 12 w
      · rw [if_t c]; omega
      · rw [if_f c, hF]; exact f1.2.2.2 k a (by omega)
    · rw [n12] at b
      by_cases c : k = r 12 w + 1
      · rw [show 100000 * (w + 1) + 10000 * k = R by omega, show 9 * w + k - 1 = 9 * w + r 12 w by omega]
        unfold Ru
        rw [eR R (by omega), eR (R + 1) (by omega), eR (R + 2) (by omega), eR (R + 3) (by omega), eR (R + 4) (by omega), nr.2.1, nr.2.2.1]
        refine ⟨⟨x4.1, x4.2.1, x4.2.2.1, x4.2.2.2.2.2.2.2.1, x5.1, x5.2.1, x5.2.2.1, x5.2.2.2⟩, fun e a b => ?_⟩
        rw [show e = 0 by omega, Int.add_zero, nr.2.2.2.2.1.1, nr.2.2.2.2.1.2.1, nr.2.2.2.2.1.2.2]
        exact ⟨x6, x7, x8⟩
      · have h18 := s6 (9 * w + k - 1) (by omega) (by omega)
        exact (f2 k a (by omega)).fr (fun i a b => em i (by omega) (by omega) (by omega) (by omega) (by omega)) (nw 17 _ (by omega)) (nw 18 _ (by omega)) fun j e a b c d => nw j _ (by omega)
    · unfold Lt
      rw [eRl', eR R (by omega), nr.2.2.2.1.1, nr.2.2.2.1.2.1, nr.2.2.2.1.2.2.1, nr.2.2.2.1.2.2.2.1, nr.2.2.2.1.2.2.2.2]
      exact ⟨x4.2.2.2.1, x4.2.2.2.2.1, x4.2.2.2.2.2.1, x4.2.2.2.2.2.2.2.2.1, x4.2.2.2.2.2.2.2.2.2.1⟩
    · rw [nr.2.2.2.1.2.2.1] at b; omega
    · rw [nr.2.2.2.1.2.2.2.1] at b; omega
    · rw [e16] at b
      rw [o 9 (by omega)] at d e ⊢
      rw [o 10 (by omega)] at e
      rw [o 11 (by omega), o 34 (by omega)]
      have gcc := (h.2.2.2.2.2.2.2.2.1.2 c a b).resolve_left d
      have ne : r 9 c ≠ w := fun hh => by
        rw [hh, n12] at e
        rw [hh] at gcc
        omega
      rw [e12 _ ne] at e
      have old := h.1.2.2.2.2.2.2.1 c a b d e
      by_cases p : c = w
      · rw [p] at old ⊢
        rw [← hF, eF, if_f (by decide), if_f (by decide), hF]; exact old
      · rw [em _ (by omega) (by omega) (by omega) (by omega) (by omega)]; exact old
    · rw [e16] at a
      rw [ez i (by omega)]
      exact fz.1 w2 a b i c d
    · rw [e16] at b
      by_cases e : w2 = w
      · rw [e, eRl', nr.2.2.2.1.2.2.1] at c
        rw [e] at d
        rw [ez i (by omega)]
        exact fz.2.1 w w0 w1 i (by omega) d
      · rw [eRo w2 e, nw 22 w2 (by omega)] at c
        have t := g.2.2 w2 a b
        have t1 := t.1
        have t3 := t.2.2.1
        have eR2 : Rl r w2 = 100000 * (w2 + 1) + 10000 * r 12 w2 := rfl
        rw [ez i (by omega)]
        exact fz.2.1 w2 a b i c d
    · rw [o 6 (by omega)] at c
      have g6 := g.2.1 t a b
      rw [ez i (by omega)]
      exact fz.2.2 t a b i c d
  · rw [e16] at b
    by_cases e : w2 = w
    · have er : rw9 r' w = 9 * w + r 12 w := by unfold rw9; rw [n12]; omega
      have e0 : hk r' w ((0 : Nat) : Int) = 0 := by
        unfold hk
        rw [er, show 80 * (9 * w + r 12 w) + ((0 : Nat) : Int) = 80 * (9 * w + r 12 w) by omega]; exact nr.2.2.2.2.1.1
      rw [e]
      unfold CaW
      rw [er, nr.2.2.1, eRl', eR R (by omega), x4.2.2.2.2.2.2.2.2.2.2, show (1 : Int).toNat = 0 + 1 from rfl, can, can, e0]
      exact ⟨rfl, x4.2.2.2.2.2.2.1⟩
    · have k := h.2.1 w2 a b
      have t := g.2.2 w2 a b
      have t1 := t.1
      have t2 := t.2.1
      have eR2 : Rl r w2 = 100000 * (w2 + 1) + 10000 * r 12 w2 := rfl
      have e9 : rw9 r' w2 = rw9 r w2 := by unfold rw9; rw [e12 w2 e]
      have e92 : rw9 r w2 = 9 * w2 + r 12 w2 - 1 := rfl
      have h18 := t.2.2.2.2.2 (rw9 r w2) (by omega) (by omega)
      unfold CaW at *
      rw [e9, eRo w2 e, em _ (by omega) (by omega) (by omega) (by omega) (by omega), nw 18 _ (by omega)]
      have k2 : m (Rl r w2) 6 = (if w2 = w then u else 0) := k.2
      rw [if_f e] at k2
      refine ⟨?_, k2⟩
      rw [k.1]
      refine can_congr fun i i0 i1 => ?_
      unfold hk
      rw [e9, nw 19 _ (by omega)]
  · rw [hm, upd9_n (by omega), upd9_n (by omega), upd9_n (by omega), x3.1]
  · rw [hm, upd9_n (by omega), upd9_n (by omega), upd9_n (by omega), x3.2]
end EW
