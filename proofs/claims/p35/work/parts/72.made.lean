/-! the reference's play: what is among that which it decides -/
def cntP (p : Int → Bool) (f : Int → Int) : Nat → Int
  | 0 => 0
  | n + 1 => cntP p f n + if p (f n) = true then 1 else 0
def pA (k : Int) : Bool := decide (k = 8 ∨ k = 15)
def pT (k : Int) : Bool := decide (k = 10)
def pM (k : Int) : Bool := decide (k = 12)
theorem cntP_congr {p : Int → Bool} {f g : Int → Int} : ∀ {n : Nat}, (∀ i : Int, 0 ≤ i → i < n → f i = g i) → cntP p f n = cntP p g n
  | 0, _ => rfl
  | n + 1, h => by
    rw [cntP, cntP, cntP_congr fun i a b => h i a (by omega), h n (by omega) (by omega)]
theorem cntP_0 {p : Int → Bool} {f : Int → Int} : ∀ {n : Nat}, 0 ≤ cntP p f n
  | 0 => Int.le_refl _
  | n + 1 => by
    have := cntP_0 (p := p) (f := f) (n := n)
    rw [cntP]
    split <;> omega
theorem cntP_mono {p : Int → Bool} {f : Int → Int} {n : Nat} : ∀ {t : Nat}, cntP p f n ≤ cntP p f (n + t)
  | 0 => Int.le_refl _
  | t + 1 => by
    have := cntP_mono (p := p) (f := f) (n := n) (t := t)
    rw [show n + (t + 1) = (n + t) + 1 from rfl, cntP]
    split <;> omega
def Kd (A T : Int) (f a : Int → Int) (n md rn k : Int) : Prop := (8 ≤ f k ∧ f k ≤ 16) ∧ (f k = 9 → 0 ≤ a k ∧ a k < A + cntP pA f k.toNat) ∧ (f k = 11 → 0 ≤ a k ∧ a k < T + cntP pT f k.toNat) ∧ (f k = 14 → 0 ≤ a k ∧ a k ≤ 1) ∧ (f k = 12 → 0 ≤ a k ∧ a k ≤ 2) ∧ (f k = 10 → -100 ≤ a k ∧ a k ≤ 100) ∧ (f k = 16 → k = n - 1 ∧ md = 2 ∧ (a k = 14 → rn ≠ 9) ∧ a k ≠ 20)
def Ch (r : Rst) : Prop := ∃ k, 0 ≤ k ∧ k < r 76 0 ∧ r 72 k = 12
def Sc (M : Int) (r : Rst) (i : Int) : Prop := 0 ≤ i ∧ i < r 55 0 ∧ r 56 i = 3 ∧ r 60 i = 0 ∧ r 59 i = -1 ∧ M ≤ r 58 i
/-- what the steps' numbers are like, in all programs -/
def PgC (r : Rst) : Prop := ∀ i, 0 ≤ i → i < 180 → (r 2 i = 3 → 0 ≤ r 3 i ∧ r 3 i ≤ 2) ∧ (r 2 i = 12 → 0 ≤ r 3 i ∧ r 3 i ≤ 1) ∧ (-100 ≤ r 3 i ∧ r 3 i ≤ 100) ∧ (-100 ≤ r 4 i ∧ r 4 i ≤ 100)
def J (A T M K : Int) (hx : Prop) (r : Rst) : Prop := (0 ≤ r 76 0 ∧ 0 ≤ T ∧ PgC r ∧ r 47 0 = K) ∧ (r 51 0 = A + cntP pA (r 72) (r 76 0).toNat ∧ r 52 0 = T + cntP pT (r 72) (r 76 0).toNat ∧ r 53 0 = M + cntP pM (r 72) (r 76 0).toNat) ∧ (∀ k, 0 ≤ k → k < r 76 0 → Kd A T (r 72) (r 73) (r 76 0) (r 42 0) (r 83 0) k) ∧ (∀ i, 0 ≤ i → i < r 55 0 → -1 ≤ r 59 i ∧ r 59 i < r 52 0) ∧ (hx → Ch r → (r 42 0 ≠ 0 ∨ ∃ i, Sc M r i) ∧ ∀ k, 0 ≤ k → k < r 76 0 → r 72 k = 12 → r 75 k = r 41 0)
section JC
variable {A T M K : Int} {hx : Prop} {r r1 : Rst}
theorem J.t0 (h : J A T M K hx r) : 0 ≤ r 52 0 := by
  have := cntP_0 (p := pT) (f := r 72) (n := (r 76 0).toNat)
  have := h.1.2.1
  have := h.2.1.2.1
  omega
theorem J.gen (h : J A T M K hx r) (e51 : r1 51 = r 51) (e52 : r1 52 = r 52) (e53 : r1 53 = r 53) (e7 : ∀ j : Nat, (72 ≤ j ∧ j ≤ 76) ∨ (2 ≤ j ∧ j ≤ 4) ∨ j = 47 ∨ j = 83 → r1 j = r j) (h42 : r 42 0 = 2 → r1 42 0 = 2) (h59 : ∀ i, 0 ≤ i → i < r1 55 0 → -1 ≤ r1 59 i ∧ r1 59 i < r1 52 0) (hc : hx → Ch r → (r1 42 0 ≠ 0 ∨ ∃ i, Sc M r1 i) ∧ r1 41 0 = r 41 0) : J A T M K hx r1 := by
  obtain ⟨a1, a2, a3, a4, a5⟩ := h
  refine ⟨⟨by rw [e7 76 (by omega)]; exact a1.1, a1.2.1, by unfold PgC; rw [e7 2 (by omega), e7 3 (by omega), e7 4 (by omega)]; exact a1.2.2.1, by rw [e7 47 (by omega)]; exact a1.2.2.2⟩, by rw [e51, e52, e53, e7 76 (by omega), e7 72 (by omega)]; exact a2, fun k k0 k1 => ?_, h59, fun x y => ?_⟩
  · rw [e7 76 (by omega)] at k1 ⊢
    rw [e7 72 (by omega), e7 73 (by omega), e7 83 (by omega)]
    obtain ⟨b1, b2, b3, b4, b5, b7, b6⟩ := a3 k k0 k1
    exact ⟨b1, b2, b3, b4, b5, b7, fun e => ⟨(b6 e).1, h42 (b6 e).2.1, (b6 e).2.2⟩⟩
  · have y' : Ch r := by
      unfold Ch at *
      rw [e7 76 (by omega), e7 72 (by omega)] at y
      exact y
    refine ⟨(hc x y').1, fun k k0 k1 k2 => ?_⟩
    rw [e7 76 (by omega)] at k1
    rw [e7 72 (by omega)] at k2
    rw [e7 75 (by omega), (hc x y').2]
    exact (a5 x y').2 k k0 k1 k2
theorem J.fr (h : J A T M K hx r) (e : ∀ j : Nat, j = 41 ∨ j = 42 ∨ j = 51 ∨ j = 52 ∨ j = 53 ∨ j = 55 ∨ j = 56 ∨ j = 58 ∨ j = 59 ∨ j = 60 ∨ (72 ≤ j ∧ j ≤ 76) ∨ (2 ≤ j ∧ j ≤ 4) ∨ j = 47 ∨ j = 83 → r1 j = r j) : J A T M K hx r1 := by
  refine h.gen (e 51 (by omega)) (e 52 (by omega)) (e 53 (by omega)) (fun j a => e j (by omega)) (fun a => by rw [e 42 (by omega)]; exact a) ?_ fun x y => ?_
  · rw [e 55 (by omega), e 59 (by omega), e 52 (by omega)]; exact h.2.2.2.1
  · unfold Sc
    rw [e 42 (by omega), e 41 (by omega), e 55 (by omega), e 56 (by omega), e 60 (by omega), e 59 (by omega), e 58 (by omega)]
    exact ⟨(h.2.2.2.2 x y).1, rfl⟩
/-- one more is decided -/
theorem J.put {k x y : Int} (h : J A T M K hx r) (e7 : ∀ j : Nat, (72 ≤ j ∧ j ≤ 76) ∨ (2 ≤ j ∧ j ≤ 4) ∨ j = 47 ∨ j = 83 → r1 j = r j) (e51 : r1 51 0 = r 51 0 + if pA k = true then 1 else 0) (e52 : r1 52 0 = r 52 0 + if pT k = true then 1 else 0) (e53 : r1 53 0 = r 53 0 + if pM k = true then 1 else 0) (hk : 8 ≤ k ∧ k ≤ 16) (h9 : k = 9 → 0 ≤ x ∧ x < r 51 0) (h11 : k = 11 → 0 ≤ x ∧ x < r 52 0) (h14 : k = 14 → 0 ≤ x ∧ x ≤ 1) (h12 : k = 12 → 0 ≤ x ∧ x ≤ 2) (h10 : k = 10 → -100 ≤ x ∧ x ≤ 100) (h42 : r 42 0 ≠ 2) (h16 : k = 16 → r1 42 0 = 2 ∧ (x = 14 → r1 83 0 ≠ 9) ∧ x ≠ 20) (h59 : ∀ i, 0 ≤ i → i < r1 55 0 → -1 ≤ r1 59 i ∧ r1 59 i < r1 52 0) (hc : hx → Ch r ∨ k = 12 → r1 42 0 ≠ 0 ∨ ∃ i, Sc M r1 i) (h41 : hx → Ch r → r1 41 0 = r 41 0) : J A T M K hx (gdec k x y r1) := by
  obtain ⟨⟨a1, a0, ap, a47⟩, ⟨a2, a2', a2''⟩, a3, a4, a5⟩ := h
  have g72 : ∀ i, gdec k x y r1 72 i = if i = r 76 0 then k else r 72 i := fun i => by
    rw [(gdec_v (k := k) (x := x) (y := y) (a := i) (r := r1)).1, e7 76 (by omega), e7 72 (by omega)]
  have g73 : ∀ i, gdec k x y r1 73 i = if i = r 76 0 then x else r 73 i := fun i => by
    rw [(gdec_v (k := k) (x := x) (y := y) (a := i) (r := r1)).2.1, e7 76 (by omega), e7 73 (by omega)]
  have g75 : ∀ i, gdec k x y r1 75 i = if i = r 76 0 then r1 41 0 else r 75 i := fun i => by
    unfold gdec
    by_cases c : i = r1 76 0
    · subst c
      rw [if_t (by rw [e7 76 (by omega)])]
      simp (disch := omega) only [ur_n, ur_e]
    · rw [if_f (by rw [e7 76 (by omega)] at c; exact c)]
      simp (disch := omega) only [ur_n]
      rw [e7 75 (by omega)]
  have g76 : gdec k x y r1 76 0 = r 76 0 + 1 := by rw [gdec_76, e7 76 (by omega)]
  have cc : ∀ (p : Int → Bool) (n : Nat), (n : Int) ≤ r 76 0 → cntP p (gdec k x y r1 72) n = cntP p (r 72) n := fun p n hn => cntP_congr fun i i0 i1 => by rw [g72, if_f (by omega)]
  have cn : ∀ p : Int → Bool, cntP p (gdec k x y r1 72) (r 76 0 + 1).toNat = cntP p (r 72) (r 76 0).toNat + if p k = true then 1 else 0 := fun p => by
    rw [show (r 76 0 + 1).toNat = (r 76 0).toNat + 1 by omega, cntP, cc p _ (by omega), g72, if_t (show ((r 76 0).toNat : Int) = r 76 0 by omega)]
  have gn : ∀ j : Nat, j < 72 → gdec k x y r1 j = r1 j := fun j hj => gdec_n (by omega)
  refine ⟨⟨by rw [g76]; omega, a0, by unfold PgC; rw [gn 2 (by omega), gn 3 (by omega), gn 4 (by omega), e7 2 (by omega), e7 3 (by omega), e7 4 (by omega)]; exact ap, by rw [gn 47 (by omega), e7 47 (by omega)]; exact a47⟩, ⟨?_, ?_, ?_⟩, fun i i0 i1 => ?_, ?_, fun u w => ?_⟩
  · rw [gn 51 (by omega), g76, cn pA, e51, a2]; omega
  · rw [gn 52 (by omega), g76, cn pT, e52, a2']; omega
  · rw [gn 53 (by omega), g76, cn pM, e53, a2'']; omega
  · rw [g76] at i1
    unfold Kd
    rw [g76, gn 42 (by omega), gdec_n (j := 83) (by omega), cc pA _ (by omega), cc pT _ (by omega), g72, g73]
    by_cases c : i = r 76 0
    · rw [if_t c, if_t c, c]
      exact ⟨hk, fun e => by have := h9 e; omega, fun e => by have := h11 e; omega, h14, h12, h10, fun e => ⟨by omega, h16 e⟩⟩
    · rw [if_f c, if_f c]
      obtain ⟨b1, b2, b3, b4, b5, b7, b6⟩ := a3 i i0 (by omega)
      exact ⟨b1, b2, b3, b4, b5, b7, fun e => absurd (b6 e).2.1 h42⟩
  · rw [gn 55 (by omega), gn 59 (by omega), gn 52 (by omega)]; exact h59
  · have w' : Ch r ∨ k = 12 := by
      obtain ⟨i, i0, i1, i2⟩ := w
      rw [g76] at i1
      rw [g72] at i2
      by_cases c : i = r 76 0
      · rw [if_t c] at i2; exact Or.inr i2
      · rw [if_f c] at i2; exact Or.inl ⟨i, i0, by omega, i2⟩
    refine ⟨?_, fun i i0 i1 i2 => ?_⟩
    · unfold Sc
      rw [gn 42 (by omega), gn 55 (by omega), gn 56 (by omega), gn 60 (by omega), gn 59 (by omega), gn 58 (by omega)]
      exact hc u w'
    · rw [g76] at i1
      rw [g72] at i2
      rw [g75, gn 41 (by omega)]
      by_cases c : i = r 76 0
      · rw [if_t c]
      · rw [if_f c] at i2 ⊢
        have ch : Ch r := ⟨i, i0, by omega, i2⟩
        rw [h41 u ch]
        exact (a5 u ch).2 i i0 (by omega) i2
end JC
/-- whatever comes back has it -/
def Pv (I : Rst → Prop) (o : Option G2) : Prop := ∀ v r', o = some (v, r') → I r'
theorem Pv.chk {I : Rst → Prop} {c : Prop} [Decidable c] {a : Option G2} (h : c → Pv I a) : Pv I (chk9 c a) := fun v r' e => h (chk_some e).1 v r' (chk_some e).2
theorem Pv.ite {I : Rst → Prop} {c : Prop} [Decidable c] {a b : Option G2} (h1 : c → Pv I a) (h2 : ¬ c → Pv I b) : Pv I (if c then a else b) := by
  split
  · rename_i h; exact h1 h
  · rename_i h; exact h2 h
theorem Pv.st {I : Rst → Prop} {r : Rst} {k : Rst → Option G2} (h : Pv I (k r)) : Pv I (stg r k) := h
theorem Pv.ret {I : Rst → Prop} {r : Rst} {v : Int} (h : I r) : Pv I (some (v, r)) := fun v r' e => by cases e; exact h
theorem Pv.cag {I : Rst → Prop} {o : Option G2} {k : Int → Rst → Option G2} (h : ∀ v r1, o = some (v, r1) → Pv I (k v r1)) : Pv I (cag o k) := fun v r' e => by
  obtain ⟨v1, r1, e1, e2⟩ := cag_some e
  exact h v1 r1 e1 v r' e2
theorem Pv.no {I : Rst → Prop} : Pv I none := fun v r' e => by cases e
/-- whether there is a CANCEL ahead of a place -/
def can (f : Int → Int) : Nat → Int
  | 0 => 0
  | n + 1 => if f n = 6 then 1 else can f n
theorem can_n {f : Int → Int} {n : Nat} : ∀ {t : Nat}, (∀ k : Int, n ≤ k → k < n + t → f k ≠ 6) → can f (n + t) = can f n
  | 0, _ => rfl
  | t + 1, h => by
    rw [show n + (t + 1) = (n + t) + 1 from rfl, can, if_f (h ((n + t : Nat) : Int) (by omega) (by omega))]
    exact can_n fun k a b => h k a (by omega)
