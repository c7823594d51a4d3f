/-! decide: what was decided is written; how it goes on when the run isn't over -/
section FA9
variable {N N' : Int} {uf : Int → Int} {r r' z r0 r1 r2 ra : Rst} {m m' m0 m1 m2 : Mem} {w n k x y q s b c v row I o t l u f W E M p nu pa L R F E1 : Int} {a : Int → Int}
/-- so much of what was decided stands in the history -/
def Wn (row E : Int) (ra : Rst) (k : Int) (r : Rst) : Prop := (∀ (j : Nat) i, ¬ (j = 18 ∧ i = row) → ¬ (19 ≤ j ∧ j ≤ 21 ∧ 80 * row + E ≤ i ∧ i < 80 * row + E + k) → r j i = ra j i) ∧ r 18 row = E + k ∧ ∀ e, 0 ≤ e → e < k → r 19 (80 * row + (E + e)) = ra 72 e ∧ r 20 (80 * row + (E + e)) = ra 73 e ∧ r 21 (80 * row + (E + e)) = ra 74 e
theorem w_loop {k265 : Int → Rst → Option G2} (w0 : 0 ≤ w) (w1 : w < 10) (h1 : 1 ≤ ra 12 w) (h9 : ra 12 w ≤ 9) (hE : 0 ≤ E) (hn : E + n ≤ 80) (h76 : ra 76 0 = n) : ∀ (d : Nat) (k : Int) (t : Nat) (r : Rst), n - k = d → 0 ≤ k → d < t → Wn (rw9 ra w) E ra k r → ∃ r', G_decide_224 k265 t w k r = k265 w r' ∧ Wn (rw9 ra w) E ra n r' := by
  intro d
  induction d with
  | zero =>
    intro k t r hd k0 ht hw
    obtain ⟨t, rfl⟩ : ∃ k, t = k + 1 := ⟨t - 1, by omega⟩
    have ek : k = n := by omega
    subst ek
    refine ⟨r, ?_, hw⟩
    rw [G_decide_224, hw.1 76 0 (by omega) (by omega), h76, if_t (Int.le_refl _)]
  | succ d ih =>
    intro k t r hd k0 ht hw
    obtain ⟨t, rfl⟩ : ∃ k, t = k + 1 := ⟨t - 1, by omega⟩
    obtain ⟨h2, h3, h4⟩ := id hw
    have e12 : r 12 w = ra 12 w := h2 12 w (by omega) (by omega)
    have e9 : rw9 r w = rw9 ra w := by unfold rw9; rw [e12]
    have ew : rw9 ra w = 9 * w + ra 12 w - 1 := rfl
    have gw := g_writes (r := r) (w := w) (k := ra 72 k) (x := ra 73 k) (y := ra 74 k) w0 w1 (by rw [e12]; exact h1) (by rw [e12]; exact h9) (by rw [e9, h3]; omega) (by rw [e9, h3]; omega)
    obtain ⟨z, hz⟩ : ∃ z, z = wr w (ra 72 k) (ra 73 k) (ra 74 k) r := ⟨_, rfl⟩
    have z18 : z 18 (rw9 ra w) = E + k + 1 := by
      have := wr_18 (w := w) (k := ra 72 k) (x := ra 73 k) (y := ra 74 k) (r := r)
      rw [e9, h3] at this
      rw [hz]; exact this
    have zv := wr_v (w := w) (k := ra 72 k) (x := ra 73 k) (y := ra 74 k) (r := r)
    rw [← hz, e9, h3] at zv
    have zo : ∀ (j : Nat) i, (j = 18 → i ≠ rw9 ra w) → (19 ≤ j → j ≤ 21 → i ≠ 80 * rw9 ra w + (E + k)) → z j i = r j i := fun j i a b => by
      rw [hz]
      exact wr_o (by rw [e9]; exact a) (by rw [e9, h3]; exact b)
    rw [← hz] at gw
    obtain ⟨r', y1, y2⟩ := ih (k + 1) t z (by omega) (by omega) (by omega) ⟨fun j i a b => by rw [zo j i (by omega) (by omega), h2 j i a (by omega)], by rw [z18]; omega, fun e e0 e1 => by
      by_cases c : e = k
      · rw [c]; exact zv
      · rw [zo 19 _ (by omega) (by omega), zo 20 _ (by omega) (by omega), zo 21 _ (by omega) (by omega)]
        exact h4 e e0 (by omega)⟩
    refine ⟨r', ?_, y2⟩
    rw [G_decide_224, h2 76 0 (by omega) (by omega), h76, if_f (by omega), h2 72 k (by omega) (by omega), h2 73 k (by omega) (by omega), h2 74 k (by omega) (by omega), gw, cag_e, y1]
    repeat rw [chk_t (by omega)]
/-- what lies behind the end of a history is no matter -/
theorem RelK.tail (h : RelK N uf r m) (w0 : 0 ≤ w) (w1 : w < r 16 0) (e : ∀ (j : Nat) i, ¬ (19 ≤ j ∧ j ≤ 21 ∧ 80 * rw9 r w + r 18 (rw9 r w) ≤ i ∧ i < 80 * rw9 r w + 80) → r' j i = r j i) : RelK N uf r' m := by
  have g := h.2.2.rg
  have b10 := g.1
  have s := g.2.2 w w0 w1
  obtain ⟨s1, s2, s3, s4, s5, s6⟩ := s
  have gi := h.2.2
  have hi := gi.hi w0 w1
  have lt := gi.lt w0 w1
  have ew : rw9 r w = 9 * w + r 12 w - 1 := rfl
  have eR9 : Rl r w = 100000 * (w + 1) + 10000 * r 12 w := rfl
  have ej : ∀ j : Nat, j < 19 ∨ 21 < j → r' j = r j := fun j hj => by
    funext i
    exact e j i (by omega)
  obtain ⟨f1, f2, f3, f4, f5⟩ := h.1.2.2.2.2.2.1 w w0 w1
  refine ⟨h.1.run g w0 w1 (fun _ _ _ => rfl) (fun _ _ _ => rfl) (fun j i a b c => e j i (fun hh => c ⟨?_, ?_⟩)) ⟨f1.fr (fun _ _ _ => rfl) (fun j i a b => by rw [ej j (by omega)]), fun k k0 k1 => ?_, f3.fr rfl (fun j a => by rw [ej j (by omega)]), f4.fr s3.2 (fun _ _ => rfl) (fun j i a b => by rw [ej j (by omega)]), f5.fr s4.2 rfl (fun j i a b => by rw [ej j (by omega)])⟩, fun w2 a b => ?_, gi.own w0 w1 (fun j a b c d e => ej j (by omega)) ?_ (fun i a => by rw [ej 13 (by omega)]) (fun i a => by rw [ej 17 (by omega)]) (Or.inl (by rw [ej 17 (by omega)])) (fun i a => by rw [ej 18 (by omega)]) (fun j i a b c => e j i (by omega)) (fun j i a b => by rw [ej j (by omega)]) (fun j i a b => by rw [ej j (by omega)]) ?_ (by rw [ej 32 (by omega)]; exact Int.le_refl _) (fun n a b => by rw [ej 33 (by omega)]) (fun n a b => by rw [ej 32 (by omega)] at b; omega) (fun n a b => ?_) (fun q a b => ?_) ?_⟩
  · unfold Own; omega
  · omega
  · rw [ej 12 (by omega)] at k1
    refine (f2 k k0 k1).fr (fun _ _ _ => rfl) (by rw [ej 17 (by omega)]) (by rw [ej 18 (by omega)]) fun j e2 a b c d => e j _ (fun hh => ?_)
    have h18 := s6 (9 * w + k - 1) (by omega) (by omega)
    by_cases ek : k = r 12 w
    · rw [ek, show 9 * w + r 12 w - 1 = rw9 r w from rfl] at d hh
      omega
    · omega
  · rw [ej 16 (by omega)] at b
    have k := h.2.1 w2 a b
    have t := g.2.2 w2 a b
    have t1 := t.1
    have t2 := t.2.1
    have h18 := t.2.2.2.2.2 (rw9 r w2) (by unfold rw9; omega) (by unfold rw9; omega)
    have ew2 : rw9 r w2 = 9 * w2 + r 12 w2 - 1 := rfl
    have e9 : rw9 r' w2 = rw9 r w2 := by unfold rw9; rw [ej 12 (by omega)]
    have eRl : Rl r' w2 = Rl r w2 := by unfold Rl; rw [ej 12 (by omega)]
    unfold CaW at *
    rw [e9, eRl, ej 18 (by omega)]
    refine ⟨?_, k.2⟩
    rw [k.1]
    refine can_congr fun i i0 i1 => ?_
    unfold hk
    rw [e9]
    refine (e 19 _ fun hh => ?_).symm
    by_cases c : w2 = w
    · rw [c] at i1 hh; omega
    · omega
  · have f := h.2.2.2.2.1
    unfold Fb Pt at *
    simp (disch := omega) only [ej]
    exact f
  · refine hi.fr (by rw [ej 12 (by omega)]) (by rw [ej 18 (by omega)]) (fun j i a b c d => e j _ (by omega)) (by rw [ej 22 (by omega)]) (by rw [ej 30 (by omega)]) (by rw [ej 32 (by omega)]) (Or.inl (by rw [ej 17 (by omega)])) (fun n a b e2 => by rw [ej 23 (by omega)]; exact e2) (fun n a b => by rw [ej 33 (by omega)]) (fun n a b e2 f9 => ?_)
    have : ∀ w2, rw9 r' w2 = rw9 r w2 := fun w2 => by unfold rw9; rw [ej 12 (by omega)]
    rw [this, ej 17 (by omega)]; exact f9
  · rw [ej 22 (by omega)] at b
    rw [ej 23 (by omega), ej 25 (by omega), ej 26 (by omega), ej 27 (by omega)]
    exact gi.2.2.2.2.2.2.2.1.2 w n w0 w1 a b
  · rw [ej 39 (by omega), ej 23 (by omega)]
    exact (gi.2.2.2.2.2.2.2.1.1 q a b).2
  · rw [ej 29 (by omega)]
    exact gi.2.2.2.2.2.2.2.2.2.1
/-- all is written, nothing done yet -/
theorem lp_start (h : RelC N ra m) (tt : GT ra) (w0 : 0 ≤ w) (w1 : w < ra 16 0) (hr : ra 17 (rw9 ra w) = 20) (n0 : 0 ≤ n) (hE : ra 18 (rw9 ra w) = E - 1) (hE8 : E + n ≤ 80) (hw : Wn (rw9 ra w) E (wr w 7 v 0 ra) n r0) : Lp N w E r0 (put9 (Rl ra w + 1) 7 v 0 m) 0 r0 (put9 (Rl ra w + 1) 7 v 0 m) ∧ (r0 19 (80 * rw9 r0 w + (E - 1)) = 7) ∧ (∀ (j : Nat) i, ¬ (j = 18 ∧ i = rw9 ra w) → ¬ (19 ≤ j ∧ j ≤ 21 ∧ 80 * rw9 ra w + (E - 1) ≤ i ∧ i < 80 * rw9 ra w + 80) → r0 j i = ra j i) ∧ rw9 r0 w = rw9 ra w ∧ r0 18 (rw9 ra w) = E + n ∧ ∀ e, 0 ≤ e → e < n → r0 19 (80 * rw9 ra w + (E + e)) = ra 72 e ∧ r0 20 (80 * rw9 ra w + (E + e)) = ra 73 e ∧ r0 21 (80 * rw9 ra w + (E + e)) = ra 74 e := by
  have g := h.2.2.rg
  have b10 := g.1
  have s := g.2.2 w w0 w1
  have s1 := s.1
  have s2 := s.2.1
  have lt := h.2.2.lt w0 w1
  have ew : rw9 ra w = 9 * w + ra 12 w - 1 := rfl
  have p := h.toK.put (k := 7) (x := v) (y := 0) w0 w1 hr (by omega) (Or.inl rfl) (fun hh => by omega)
  obtain ⟨z, hz⟩ : ∃ z, z = wr w 7 v 0 ra := ⟨_, rfl⟩
  rw [← hz] at hw p
  have zn : ∀ j : Nat, j < 18 ∨ 21 < j → z j = ra j := fun j hj => by rw [hz]; exact wr_n hj
  have z18 : z 18 (rw9 ra w) = E := by rw [hz, wr_18]; omega
  have z19 : z 19 (80 * rw9 ra w + (E - 1)) = 7 := by
    have := (wr_v (w := w) (k := 7) (x := v) (y := 0) (r := ra)).1
    rw [hE] at this
    rw [hz]; exact this
  have zo : ∀ (j : Nat) i, (j = 18 → i ≠ rw9 ra w) → (19 ≤ j → j ≤ 21 → i ≠ 80 * rw9 ra w + (E - 1)) → z j i = ra j i := fun j i a b => by
    rw [hz]
    exact wr_o a (by rw [hE]; exact b)
  have z9 : rw9 z w = rw9 ra w := by unfold rw9; rw [zn 12 (by omega)]
  obtain ⟨q1, q2, q3⟩ := hw
  have e12 : ∀ i, r0 12 i = ra 12 i := fun i => by rw [q1 12 i (by omega) (by omega), zn 12 (by omega)]
  have e9 : rw9 r0 w = rw9 ra w := by unfold rw9; rw [e12]
  have ej : ∀ j : Nat, j < 18 ∨ 21 < j → r0 j = ra j := fun j hj => by
    funext i
    rw [q1 j i (by omega) (by omega), zn j (by omega)]
  have pt : RelK N (fun _ => 0) (ur r0 18 (rw9 r0 w) E) (put9 (Rl ra w + 1) 7 v 0 m) := by
    refine p.tail (w := w) w0 (by rw [zn 16 (by omega)]; exact w1) fun j i hh => ?_
    rw [z9, z18] at hh
    rw [e9]
    by_cases c : j = 18 ∧ i = rw9 ra w
    · rw [ur_e c.1 c.2, c.1, c.2, z18]
    · rw [ur_n (by omega), q1 j i c (by omega)]
  refine ⟨⟨0, ?_, fun j hj => rfl, ?_, ?_, ⟨rfl, rfl, ?_, rfl, rfl⟩, fun j i a b c d => rfl, ⟨?_, ?_, ?_⟩, ⟨Int.le_refl _, fun hh => by omega, by omega, fun n a b => by omega⟩, tt.fr fun j hj => ej j (by omega), fun i hi => rfl, by omega, by omega⟩, ?_, fun j i a b => ?_, e9, q2, fun e e0 e1 => ?_⟩
  · rw [show (fun w2 : Int => if w2 = w then (0 : Int) else 0) = fun _ => 0 by funext w2; split <;> rfl, Int.add_zero]
    exact pt
  · have := h.2.2.2.2.2.2.2.2.2.2.2.1
    rw [ej 29 (by omega)]
    omega
  · rw [ej 16 (by omega)]
    omega
  · rw [e9, ej 17 (by omega)]; exact hr
  · rw [show (0 : Int).toNat = 0 from rfl, cntP]; exact (Int.add_zero _).symm
  · rw [show (0 : Int).toNat = 0 from rfl, cntP]; exact (Int.add_zero _).symm
  · rw [show (0 : Int).toNat = 0 from rfl, cntP]; exact (Int.add_zero _).symm
  · rw [e9, q1 19 _ (by omega) (by omega)]; exact z19
  · rw [q1 j i a (by omega), zo j i (by omega) (by omega)]
  · have := q3 e e0 e1
    rw [zn 72 (by omega), zn 73 (by omega), zn 74 (by omega)] at this
    exact this
end FA9
