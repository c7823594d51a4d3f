/-! the class's player beside the reference's play: something is heard (2) -/
/-- what the history of a run is like -/
def Hf (hs : Rst) (E : Int) : Prop := (∀ i, 0 < i → i < E → hs 0 i ≠ 0) ∧ (∀ i, 0 ≤ i → i < E → 1 ≤ hs 0 i → hs 0 i ≤ 5 → 0 ≤ hs 1 i) ∧ (∀ i j, 0 ≤ i → i < j → j < E → (hs 0 i = 1 ∨ hs 0 i = 2) → (hs 0 j = 1 ∨ hs 0 j = 2) → hs 1 i ≠ hs 1 j) ∧ (∀ i j, 0 ≤ i → i < j → j < E → hs 0 i = 5 → hs 0 j = 5 → hs 1 i ≠ hs 1 j) ∧ ∀ i, 0 ≤ i → i < E → 0 ≤ hs 0 i
section HE
variable {pg hs : Rst} {c : Int → Int} {B E n p : Int} {q r : Rst}
theorem Cm.heard (cs : Cs c hs) (hn : 0 ≤ n) (h : Cm pg hs c B E n p q r) (h4 : hs 0 n ≠ 4) : Cm pg hs c B E (n + 1) p (ur q 18 0 (n + 1)) r := by
  obtain ⟨a1, a2, a3, a4, ⟨s1, s2, s3⟩, a6, a7, a8⟩ := h
  unfold Cm
  have e := cs.2 n hn
  rw [if_f h4] at e
  simp (disch := omega) only [ur_ne, ur_n, ur_e]
  refine ⟨trivial, a2, a3, a4, ⟨by omega, fun i i0 i1 i4 => ?_, fun i i0 i1 => s3 i (by omega) i1⟩, a6, a7, a8.same (fun j hj => ur_ne (by omega)) fun j hj => rfl⟩
  refine s2 i i0 ?_ i4
  have : i ≠ n := fun e => h4 (e ▸ i4)
  omega
theorem P1.heard (h : P1 hs n q r) : P1 hs (n + 1) (ur q 18 0 (n + 1)) r := by
  obtain ⟨p1, p2, p3, p4, p5, p6, p7, p8, p9, p10, sl, di⟩ := h
  unfold P1
  simp (disch := omega) only [ur_n]
  refine ⟨p1, p2, p3, p4, p5, p6, p7, p8, p9, p10, fun i a b => ?_, di⟩
  simp (disch := omega) only [ur_n]
  exact (sl i a b).mono (by omega) (Int.le_refl _) (Int.le_refl _) (Int.le_refl _)
theorem P34.heard (h : P3 q r ∨ P4 q r) {v : Int} : P3 (ur q 18 0 v) r ∨ P4 (ur q 18 0 v) r := by
  unfold P3 P4 at *
  simp (disch := omega) only [ur_n]
  exact h
theorem P1.upd {k : Int} {q1 r1 : Rst} (h : P1 hs n q r) (k0 : 0 ≤ k) (k1 : k < r 55 0) (fq : ∀ j : Nat, j < 18 ∨ (49 < j ∧ j < 55) → q1 j = q j) (fq2 : ∀ (j : Nat) i, 55 ≤ j → j ≤ 57 → i ≠ k → q1 j i = q j i) (fr : ∀ j : Nat, (39 < j ∧ j < 60) ∨ j = 64 → r1 j = r j) (fr2 : ∀ (j : Nat) i, 60 ≤ j → j ≤ 63 → i ≠ k → r1 j i = r j i)
    (hk : q1 56 k = 1 ∧ r1 60 k = 1 ∧ q1 57 k = r1 61 k ∧ (r1 61 k = 0 ∨ r1 61 k = 1) ∧ (r1 63 k = 0 ∨ r1 63 k = 1) ∧ ((r1 63 k = 1 ∧ r1 61 k = 0 ∧ r 56 k ≠ 1 ∧ q1 55 k = r1 62 k) ∨ (r1 63 k = 0 ∧ (r1 61 k = 1 ∨ r 56 k = 1))))
    (he : r 56 k = 0 → ∃ e, 0 ≤ e ∧ e < n + 1 ∧ (hs 0 e = 1 ∨ hs 0 e = 2) ∧ hs 1 e = r 58 k) (he3 : r 56 k = 3 → ∃ e, 0 ≤ e ∧ e < n + 1 ∧ hs 0 e = 5 ∧ hs 1 e = r 58 k) : P1 hs (n + 1) q1 r1 := by
  obtain ⟨p1, p2, p3, p4, p5, p6, p7, p8, p9, p10, sl, di⟩ := h
  unfold P1
  rw [fq 8 (by omega), fq 11 (by omega), fq 9 (by omega), fq 10 (by omega), fq 12 (by omega), fq 14 (by omega), fq 13 (by omega), fr 42 (by omega), fr 55 (by omega), fr 40 (by omega), fr 64 (by omega), fr 45 (by omega), fr 47 (by omega), fr 46 (by omega), fr 56 (by omega), fr 58 (by omega), fr 59 (by omega)]
  refine ⟨p1, p2, p3, p4, p5, p6, p7, p8, p9, p10, fun i a b => ?_, di⟩
  have s := sl i a b
  rw [fq 50 (by omega), fq 51 (by omega), fq 52 (by omega), fq 53 (by omega), fq 54 (by omega), fr 51 (by omega), fr 52 (by omega), fr 53 (by omega), fr 56 (by omega), fr 57 (by omega), fr 58 (by omega), fr 59 (by omega)]
  by_cases e : i = k
  · subst e
    obtain ⟨b1, b2, b3, b4, b5, b6, b7, b8, b9, c1, c2, c3, c4, c5, c6, c7, c8, c9⟩ := s
    obtain ⟨h56, h60, h57, h61, h63, hd⟩ := hk
    exact ⟨b1, b2, b3, b4, b5, b6, b7, b8, b9, h56.trans h60.symm, h57, Or.inr h60, h61, h63, fun _ => hd, fun h => absurd (h60.symm.trans h) (by decide), fun h _ => he h, fun h _ => he3 h⟩
  · rw [fq2 55 i (by omega) (by omega) e, fq2 56 i (by omega) (by omega) e, fq2 57 i (by omega) (by omega) e, fr2 60 i (by omega) (by omega) e, fr2 61 i (by omega) (by omega) e, fr2 62 i (by omega) (by omega) e, fr2 63 i (by omega) (by omega) e]
    exact s.mono (by omega) (Int.le_refl _) (Int.le_refl _) (Int.le_refl _)
theorem cm_bec {k v l : Int} (h : Cm pg hs c B E n p q r) : Cm pg hs c B E n p (bec k v l q) r := ((h.qset (by omega)).qset (by omega)).qset (by omega)
theorem cm_gets {k v : Int} (h : Cm pg hs c B E n p q r) : Cm pg hs c B E n p q (ur (ur (ur r 60 k 1) 62 k v) 63 k 1) := ((h.rset (by omega)).rset (by omega)).rset (by omega)
/-- a place is over with a result -/
theorem P1.got {k v : Int} (h : P1 hs n q r) (k0 : 0 ≤ k) (k1 : k < r 55 0) (hk : r 56 k ≠ 1) (hd : r 60 k = 0) (he : r 56 k = 0 → ∃ e, 0 ≤ e ∧ e < n + 1 ∧ (hs 0 e = 1 ∨ hs 0 e = 2) ∧ hs 1 e = r 58 k) (he3 : r 56 k = 3 → ∃ e, 0 ≤ e ∧ e < n + 1 ∧ hs 0 e = 5 ∧ hs 1 e = r 58 k) : P1 hs (n + 1) (bec k v 0 (ur q 18 0 (n + 1))) (ur (ur (ur r 60 k 1) 62 k v) 63 k 1) := by
  have s := h.2.2.2.2.2.2.2.2.2.2.1 k k0 k1
  have sb := s.2.2.2.2.2.2.2.2.2.2.2.2.2.2.2.1 hd
  refine h.upd k0 k1 (fun j hj => ?_) (fun j i a b d => ?_) (fun j hj => ?_) (fun j i a b d => ?_) ?_ he he3
  · rw [bec_n (by omega), ur_ne (by omega)]
  · unfold bec
    rw [ur_n (by omega), ur_n (by omega), ur_n (by omega), ur_n (by omega)]
  · rw [ur_ne (by omega), ur_ne (by omega), ur_ne (by omega)]
  · rw [ur_n (by omega), ur_n (by omega), ur_n (by omega)]
  · unfold bec
    simp (disch := omega) only [ur_n, ur_e]
    exact ⟨trivial, trivial, sb.2.symm, Or.inl sb.2, Or.inr trivial, Or.inl ⟨trivial, sb.2, hk, trivial⟩⟩
/-- the history tells it only once -/
theorem P1.fresh {x k : Int} (h : P1 hs n q r) (hf : Hf hs E) (hn : 0 ≤ n) (hnE : n < E) (hk : hs 0 n = 1 ∨ hs 0 n = 2) (hx : hs 1 n = x) (k0 : 0 ≤ k) (k1 : k < r 55 0) (e : q 51 k = x) : r 56 k = 0 ∧ r 58 k = x ∧ r 60 k = 0 := by
  have x0 := hf.2.1 n hn hnE (by omega) (by omega)
  obtain ⟨b1, b2, b3, b4, b5, b6, b7, b8, b9, c1, c2, c3, c4, c5, c6, c7, c8, c9⟩ := h.2.2.2.2.2.2.2.2.2.2.1 k k0 k1
  by_cases k56 : r 56 k = 0
  · refine ⟨k56, (b3 k56).1.symm.trans e, ?_⟩
    rcases c3 with c | c
    · exact c
    · exfalso
      obtain ⟨e2, e0, e1, e3, e4⟩ := c8 k56 c
      exact hf.2.2.1 e2 n e0 e1 hnE e3 hk (by rw [e4, hx, ← (b3 k56).1, e])
  · have b := b4 k56
    clear c8 c9
    omega
theorem P1.freshC {x k : Int} (h : P1 hs n q r) (hf : Hf hs E) (hn : 0 ≤ n) (hnE : n < E) (hk : hs 0 n = 5) (hx : hs 1 n = x) (k0 : 0 ≤ k) (k1 : k < r 55 0) (e : q 53 k = x) : r 56 k = 3 ∧ r 58 k = x ∧ r 60 k = 0 := by
  have x0 := hf.2.1 n hn hnE (by omega) (by omega)
  obtain ⟨b1, b2, b3, b4, b5, b6, b7, b8, b9, c1, c2, c3, c4, c5, c6, c7, c8, c9⟩ := h.2.2.2.2.2.2.2.2.2.2.1 k k0 k1
  by_cases k56 : r 56 k = 3
  · refine ⟨k56, (b5 k56).1.symm.trans e, ?_⟩
    rcases c3 with c | c
    · exact c
    · exfalso
      obtain ⟨e2, e0, e1, e3, e4⟩ := c9 k56 c
      exact hf.2.2.2.1 e2 n e0 e1 hnE e3 hk (by rw [e4, hx, ← (b5 k56).1, e])
  · have b := b6 k56
    clear c8 c9
    omega
end HE
