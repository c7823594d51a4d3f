/-! the reference's play stays within its rows -/
/-- only the play's own fields differ -/
def SameP (r r' : Rst) : Prop := ∀ j : Nat, j < 40 ∨ 76 < j ∨ j = 44 → r' j = r j
theorem SameP.rf {r : Rst} : SameP r r := fun _ _ => rfl
theorem SameP.tr {r r1 r2 : Rst} (h : SameP r r1) (k : SameP r1 r2) : SameP r r2 := fun j hj => (k j hj).trans (h j hj)
theorem ur_ne {r : Rst} {j a : Nat} {i v : Int} (h : a ≠ j) : ur r j i v a = r a := by
  funext b
  exact ur_n (Or.inl h)
theorem SameP.ur {r r1 : Rst} {j : Nat} {i v : Int} (h : SameP r r1) (hj : 40 ≤ j) (hj2 : j ≤ 76 ∧ j ≠ 44) : SameP r (ur r1 j i v) := fun a ha => by
  rw [ur_ne (by omega)]
  exact h a ha
/-- what was decided before stays -/
def Made (r r' : Rst) : Prop := r 76 0 ≤ r' 76 0 ∧ ∀ k, k < r 76 0 → r' 72 k = r 72 k ∧ r' 73 k = r 73 k ∧ r' 74 k = r 74 k
theorem Made.rf {r : Rst} : Made r r := ⟨Int.le_refl _, fun _ _ => ⟨rfl, rfl, rfl⟩⟩
theorem Made.tr {r r1 r2 : Rst} (h : Made r r1) (k : Made r1 r2) : Made r r2 := ⟨Int.le_trans h.1 k.1, fun a ha => by
  have h2 := h.2 a ha
  have k2 := k.2 a (Int.lt_of_lt_of_le ha h.1)
  exact ⟨k2.1.trans h2.1, k2.2.1.trans h2.2.1, k2.2.2.trans h2.2.2⟩⟩
theorem Made.ur {r r1 : Rst} {j : Nat} {i v : Int} (h : Made r r1) (h1 : j ≠ 72) (h2 : j ≠ 73) (h3 : j ≠ 74) (h4 : j ≠ 76) : Made r (ur r1 j i v) := by
  unfold Made
  rw [ur_ne (Ne.symm h1), ur_ne (Ne.symm h2), ur_ne (Ne.symm h3), ur_ne (Ne.symm h4)]
  exact h
/-- the program that is played: its row, its size, its steps -/
def PgR (r : Rst) : Prop := 0 ≤ r 77 0 ∧ r 77 0 < 15 ∧ 1 ≤ r 5 (r 77 0) ∧ r 5 (r 77 0) ≤ 12 ∧ ∀ s, 0 ≤ s → s < r 5 (r 77 0) →
  0 ≤ r 2 (12 * r 77 0 + s) ∧ r 2 (12 * r 77 0 + s) ≤ 15 ∧ -99 ≤ r 3 (12 * r 77 0 + s) ∧ r 3 (12 * r 77 0 + s) ≤ 99 ∧ -99 ≤ r 4 (12 * r 77 0 + s) ∧ r 4 (12 * r 77 0 + s) ≤ 100 ∧
  (r 2 (12 * r 77 0 + s) = 10 → 0 ≤ r 3 (12 * r 77 0 + s) ∧ r 3 (12 * r 77 0 + s) ≤ 3) ∧ (r 2 (12 * r 77 0 + s) = 11 → 1 ≤ r 3 (12 * r 77 0 + s) ∧ r 3 (12 * r 77 0 + s) ≤ 11) ∧
  (r 2 (12 * r 77 0 + s) = 5 ∨ r 2 (12 * r 77 0 + s) = 10 → 1 ≤ r 4 (12 * r 77 0 + s) ∧ s + 1 + r 4 (12 * r 77 0 + s) ≤ r 5 (r 77 0)) ∧ (r 2 (12 * r 77 0 + s) = 6 → 1 ≤ r 4 (12 * r 77 0 + s) ∧ 0 ≤ s - r 4 (12 * r 77 0 + s)) ∧
  (r 2 (12 * r 77 0 + s) = 4 → 1 ≤ r 3 (12 * r 77 0 + s) ∧ r 3 (12 * r 77 0 + s) ≤ 3 ∧ s + r 3 (12 * r 77 0 + s) < r 5 (r 77 0) ∧ ∀ i, 1 ≤ i → i ≤ r 3 (12 * r 77 0 + s) → r 2 (12 * r 77 0 + (s + i)) ≤ 3) ∧ (r 2 (12 * r 77 0 + s) = 2 → 0 ≤ r 4 (12 * r 77 0 + s)) ∧ (r 2 (12 * r 77 0 + s) = 13 → 1 ≤ r 3 (12 * r 77 0 + s) ∧ r 3 (12 * r 77 0 + s) ≤ 9) ∧ (r 2 (12 * r 77 0 + s) = 12 → 0 ≤ r 3 (12 * r 77 0 + s) ∧ r 3 (12 * r 77 0 + s) ≤ 1)
theorem PgR.same {r r' : Rst} (h : PgR r) (k : SameP r r') : PgR r' := by
  unfold PgR
  rw [k 77 (by omega), k 5 (by omega), k 2 (by omega), k 3 (by omega), k 4 (by omega)]
  exact h
/-- bounds: D for what is decided, T for the numbers, U for what is to be undone, S for the signals -/
def Bz (D T U S : Int) (r : Rst) : Prop := (0 ≤ r 76 0 ∧ r 76 0 ≤ D) ∧ (0 ≤ r 51 0 ∧ r 51 0 ≤ T) ∧ (0 ≤ r 52 0 ∧ r 52 0 ≤ T) ∧ (0 ≤ r 53 0 ∧ r 53 0 ≤ T) ∧ (0 ≤ r 71 0 ∧ r 71 0 ≤ U) ∧ (0 ≤ r 68 0 ∧ r 68 0 ≤ S) ∧ (0 ≤ r 48 0 ∧ r 48 0 < 16) ∧ (0 ≤ r 45 0 ∧ r 45 0 ≤ 11) ∧ (-100000 ≤ r 41 0 ∧ r 41 0 ≤ 100000) ∧ (0 ≤ r 55 0 ∧ r 55 0 ≤ 3) ∧
  (∀ k, -100000 ≤ r 62 k ∧ r 62 k ≤ 100000) ∧ (∀ k, -100000 ≤ r 66 k ∧ r 66 k ≤ 100000) ∧ (∀ k, r 60 k = 0 ∨ r 60 k = 1) ∧ ∀ k, r 61 k = 0 ∨ r 61 k = 1
/-- mode, place, what is waited for -/
def Md (r : Rst) : Prop := (0 ≤ r 42 0 ∧ r 42 0 ≤ 2) ∧ (r 42 0 = 0 → r 55 0 = 0 → 0 ≤ r 40 0 ∧ r 40 0 ≤ r 5 (r 77 0)) ∧ (r 42 0 = 0 → 0 < r 55 0 → 0 ≤ r 64 0 ∧ r 64 0 ≤ r 5 (r 77 0)) ∧ (r 42 0 ≠ 0 → r 55 0 = 0) ∧ (r 42 0 = 1 → -1 ≤ r 43 0 ∧ r 43 0 ≤ 9) ∧ (r 42 0 = 2 → -100000 ≤ r 50 0 ∧ r 50 0 ≤ 100000)
def Bd (D T U S : Int) (r : Rst) : Prop := Bz D T U S r ∧ Md r
theorem Bz.mono {D T U S D2 T2 U2 S2 : Int} {r : Rst} (h : Bz D T U S r) (h1 : D ≤ D2) (h2 : T ≤ T2) (h3 : U ≤ U2) (h4 : S ≤ S2) : Bz D2 T2 U2 S2 r := by
  obtain ⟨a1, a2, a3, a4, a5, a6, a7⟩ := h
  exact ⟨⟨a1.1, by omega⟩, ⟨a2.1, by omega⟩, ⟨a3.1, by omega⟩, ⟨a4.1, by omega⟩, ⟨a5.1, by omega⟩, ⟨a6.1, by omega⟩, a7⟩
theorem Bd.mono {D T U S D2 T2 U2 S2 : Int} {r : Rst} (h : Bd D T U S r) (h1 : D ≤ D2) (h2 : T ≤ T2) (h3 : U ≤ U2) (h4 : S ≤ S2) : Bd D2 T2 U2 S2 r := ⟨h.1.mono h1 h2 h3 h4, h.2⟩
theorem Md.same {r r' : Rst} (h : Md r) (k : ∀ j : Nat, j = 42 ∨ j = 55 ∨ j = 40 ∨ j = 64 ∨ j = 5 ∨ j = 77 ∨ j = 43 ∨ j = 50 → r' j = r j) : Md r' := by
  unfold Md
  rw [k 42 (by omega), k 55 (by omega), k 40 (by omega), k 64 (by omega), k 5 (by omega), k 77 (by omega), k 43 (by omega), k 50 (by omega)]
  exact h
/-- a play's function comes back, within the bounds, with nothing lost -/
def Ok (o : Option G2) (r : Rst) (P : Int → Rst → Prop) : Prop := ∃ v r', o = some (v, r') ∧ SameP r r' ∧ Made r r' ∧ P v r'
theorem Ok.imp {o : Option G2} {r : Rst} {P Q : Int → Rst → Prop} (h : Ok o r P) (k : ∀ v r', SameP r r' → Made r r' → P v r' → Q v r') : Ok o r Q := by
  obtain ⟨v, r', a, b, c, d⟩ := h
  exact ⟨v, r', a, b, c, k v r' b c d⟩
theorem Ok.cag {o : Option G2} {r : Rst} {P : Int → Rst → Prop} {k : Int → Rst → Option G2} {Q : Int → Rst → Prop} (h : Ok o r P) (hk : ∀ v r', SameP r r' → Made r r' → P v r' → Ok (k v r') r' Q) : Ok (cag o k) r Q := by
  obtain ⟨v, r', rfl, b, c, d⟩ := h
  obtain ⟨v2, r2, a2, b2, c2, d2⟩ := hk v r' b c d
  exact ⟨v2, r2, a2, b.tr b2, c.tr c2, d2⟩
theorem Ok.ret {r : Rst} {v : Int} {P : Int → Rst → Prop} (h : P v r) : Ok (some (v, r)) r P := ⟨v, r, rfl, SameP.rf, Made.rf, h⟩
theorem Ok.chk {c : Prop} [Decidable c] {a : Option G2} {r : Rst} {P : Int → Rst → Prop} (hc : c) (h : Ok a r P) : Ok (chk9 c a) r P := by
  rw [chk_t hc]; exact h
theorem Ok.st {r : Rst} {j : Nat} {i v : Int} {k : Rst → Option G2} {P : Int → Rst → Prop} (hj : 40 ≤ j) (hj2 : j ≤ 76 ∧ j ≠ 44) (h1 : j ≠ 72) (h2 : j ≠ 73) (h3 : j ≠ 74) (h4 : j ≠ 76) (h : Ok (k (ur r j i v)) (ur r j i v) P) : Ok (stg (ur r j i v) k) r P := by
  obtain ⟨v2, r2, a2, b2, c2, d2⟩ := h
  exact ⟨v2, r2, a2, (SameP.rf.ur hj hj2).tr b2, (Made.rf.ur h1 h2 h3 h4).tr c2, d2⟩
theorem Ok.ite {c : Prop} [Decidable c] {a b : Option G2} {r : Rst} {P : Int → Rst → Prop} (h1 : c → Ok a r P) (h2 : ¬ c → Ok b r P) : Ok (if c then a else b) r P := by
  split
  · rename_i h; exact h1 h
  · rename_i h; exact h2 h
theorem Ok.boolG {o : Option G2} {r : Rst} {P : Int → Rst → Prop} (h : Ok o r fun v r' => (v = 0 ∨ v = 1) ∧ P v r') : Ok (boolG o) r fun v r' => (v = 0 ∨ v = 1) ∧ P v r' := by
  obtain ⟨v, r', rfl, b, c, d⟩ := h
  exact ⟨v, r', boolG_e d.1, b, c, d⟩
theorem ok_decides {D T U S k x y : Int} {r : Rst} (h : Bz D T U S r) (hD : D < 5200) : Ok (G_decides k x y r) r fun _ r' => Bz (D + 1) T U S r' ∧ r' 76 0 = r 76 0 + 1 ∧ ∀ j : Nat, j < 72 ∨ 76 < j → r' j = r j := by
  have h0 := h.1
  refine ⟨0, gdec k x y r, gdec_ok h0.1 (by omega), fun j hj => ?_, ⟨?_, fun a ha => ?_⟩, ?_, ?_, fun j hj => ?_⟩
  · unfold gdec
    rw [ur_ne (by omega), ur_ne (by omega), ur_ne (by omega), ur_ne (by omega), ur_ne (by omega)]
  · unfold gdec
    rw [ur_e rfl rfl]; omega
  · unfold gdec
    simp (disch := omega) only [ur_n]
    exact ⟨trivial, trivial, trivial⟩
  · unfold gdec Bz
    obtain ⟨a1, a2⟩ := h
    refine ⟨?_, ?_⟩
    · rw [ur_e rfl rfl]; omega
    · simp (disch := omega) only [ur_n]
      exact a2
  · unfold gdec
    rw [ur_e rfl rfl]
  · unfold gdec
    rw [ur_ne (by omega), ur_ne (by omega), ur_ne (by omega), ur_ne (by omega), ur_ne (by omega)]
