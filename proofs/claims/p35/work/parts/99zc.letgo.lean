/-! what becomes of all that a run has begun: the class's way -/
section ER
variable {N N' : Int} {uf : Int → Int} {r r' z r0 r1 r2 : Rst} {m m' m0 m1 : Mem} {w n k x y q s b c a v row I o t l u f W E M p nu pa L R F : Int} {A A' T T' S S' C C' X X' Y Y' : Int → Prop}
def acts (r : Rst) (X : Int → Prop) (i : Int) : Prop := ∃ p, X p ∧ 80 * p ≤ i ∧ i < 80 * p + r 22 p
def tims (r : Rst) (X : Int → Prop) (i : Int) : Prop := ∃ p, X p ∧ 80 * p ≤ i ∧ i < 80 * p + r 30 p
theorem lg_acts {kr : Int → Int → Int → Mem → Option R2} {k37 : Int → Int → Int → Int → Int → Mem → Option R2} {l2 : Int} (f0 : 0 ≤ f) (f1 : f < r 16 0) : ∀ (d : Nat) (n : Int) (t : Nat) (A : Int → Prop) (r1 : Rst) (m : Mem), r 22 f - n = d → 0 ≤ n → d < t → RelK N uf r1 m → Eff A T S C r r1 → ∃ r2 m2, X11_letGo_8 kr k37 t 1 F l2 (Rl r f) n m = k37 1 F l2 (Rl r f) 0 m2 ∧ RelK N uf r2 m2 ∧ Eff (fun i => A i ∨ (80 * f + n ≤ i ∧ i < 80 * f + r 22 f)) T S C r r2 ∧ ∀ i, i < 1000 → m2 i = m i := by
  intro d
  induction d with
  | zero =>
    intro n t A r1 m hd n0 ht h e
    obtain ⟨t, rfl⟩ : ∃ k, t = k + 1 := ⟨t - 1, by omega⟩
    have f1' : f < r1 16 0 := by rw [e.1 16 (by omega)]; exact f1
    have s1 := (h.2.2.rg.2.2 f f0 f1').1
    have l := (h.1.2.2.2.2.2.1 f f0 f1').2.2.1.1
    rw [(e.rw f).2, e.1 22 (by omega)] at l
    have eR := (e.rw f).2
    unfold Rl at eR
    refine ⟨r1, m, ?_, h, e.congr (fun i => ⟨fun hh => Or.inl hh, fun hh => hh.resolve_right (by omega)⟩) (fun _ => Iff.rfl) (fun _ => Iff.rfl) (fun _ => Iff.rfl), fun _ _ => rfl⟩
    rw [X11_letGo_8, l, if_t (by omega), chk_t (by unfold Rl; omega)]
  | succ d ih =>
    intro n t A r1 m hd n0 ht h e
    obtain ⟨t, rfl⟩ : ∃ k, t = k + 1 := ⟨t - 1, by omega⟩
    have f1' : f < r1 16 0 := by rw [e.1 16 (by omega)]; exact f1
    have s := h.2.2.rg.2.2 f f0 f1'
    have s1 := s.1
    have lt := h.2.2.lt f0 f1'
    have fA := h.1.2.2.2.2.2.1 f f0 f1'
    have l := fA.2.2.1.1
    have eR9 : Rl r1 f = 100000 * (f + 1) + 10000 * r1 12 f := rfl
    have ru := fA.2.1 (r1 12 f) s1 (Int.le_refl _)
    rw [← eR9] at ru
    have e22 : r1 22 f = r 22 f := by rw [e.1 22 (by omega)]
    have ac := (fA.2.2.2.1 n n0 (by omega)).1
    obtain ⟨m', r2, z1, z2, z3, z4⟩ := h.off (w := f) (n := n) f0 f1' n0 (by omega)
    obtain ⟨r3, m3, y1, y2, y3, y4⟩ := ih (n + 1) t _ r2 m' (by omega) (by omega) (by omega) z3 (e.off z2)
    refine ⟨r3, m3, ?_, y2, y3.congr (fun i => ⟨fun hh => ?_, fun hh => ?_⟩) (fun _ => Iff.rfl) (fun _ => Iff.rfl) (fun _ => Iff.rfl), fun i hi => by rw [y4 i hi, z4 i (by omega) (by omega)]⟩
    · rw [← y1, X11_letGo_8, ← (e.rw f).2, l, e22, if_f (by omega), ru.1.2.1, ac, z1, cal_e]
      repeat rw [chk_t (by omega)]
    · rcases hh with (hh | hh) | hh
      · exact Or.inl hh
      · exact Or.inr (by omega)
      · exact Or.inr (by omega)
    · rcases hh with hh | hh
      · exact Or.inl (Or.inl hh)
      · by_cases c : i = 80 * f + n
        · exact Or.inl (Or.inr c)
        · exact Or.inr (by omega)
theorem lg_tims {kr : Int → Int → Int → Mem → Option R2} {k61 : Int → Int → Int → Int → Mem → Option R2} {l2 : Int} (f0 : 0 ≤ f) (f1 : f < r 16 0) : ∀ (d : Nat) (n : Int) (t : Nat) (T : Int → Prop) (r1 : Rst) (m : Mem), r 30 f - n = d → 0 ≤ n → d < t → RelK N uf r1 m → Eff A T S C r r1 → ∃ r2 m2, X11_letGo_37 kr k61 t 1 F l2 (Rl r f) n m = k61 1 F l2 0 m2 ∧ RelK N uf r2 m2 ∧ Eff A (fun i => T i ∨ (80 * f + n ≤ i ∧ i < 80 * f + r 30 f)) S C r r2 ∧ ∀ i, i < 1000 → m2 i = m i := by
  intro d
  induction d with
  | zero =>
    intro n t T r1 m hd n0 ht h e
    obtain ⟨t, rfl⟩ : ∃ k, t = k + 1 := ⟨t - 1, by omega⟩
    have f1' : f < r1 16 0 := by rw [e.1 16 (by omega)]; exact f1
    have s1 := (h.2.2.rg.2.2 f f0 f1').1
    have l := (h.1.2.2.2.2.2.1 f f0 f1').2.2.1.2.1
    rw [(e.rw f).2, e.1 30 (by omega)] at l
    have e12 : r1 12 f = r 12 f := by rw [e.1 12 (by omega)]
    refine ⟨r1, m, ?_, h, e.congr (fun _ => Iff.rfl) (fun i => ⟨fun hh => Or.inl hh, fun hh => hh.resolve_right (by omega)⟩) (fun _ => Iff.rfl) (fun _ => Iff.rfl), fun _ _ => rfl⟩
    rw [X11_letGo_37, l, if_t (by omega), chk_t (by unfold Rl; omega)]
  | succ d ih =>
    intro n t T r1 m hd n0 ht h e
    obtain ⟨t, rfl⟩ : ∃ k, t = k + 1 := ⟨t - 1, by omega⟩
    have f1' : f < r1 16 0 := by rw [e.1 16 (by omega)]; exact f1
    have s := h.2.2.rg.2.2 f f0 f1'
    have s1 := s.1
    have lt := h.2.2.lt f0 f1'
    have fA := h.1.2.2.2.2.2.1 f f0 f1'
    have l := fA.2.2.1.2.1
    have eR9 : Rl r1 f = 100000 * (f + 1) + 10000 * r1 12 f := rfl
    have e30 : r1 30 f = r 30 f := by rw [e.1 30 (by omega)]
    obtain ⟨z1, z2⟩ := h.toff (w := f) (n := n) f0 f1' n0 (by omega)
    obtain ⟨r3, m3, y1, y2, y3, y4⟩ := ih (n + 1) t _ _ _ (by omega) (by omega) (by omega) z2 (e.toff (w := f) (n := n))
    refine ⟨r3, m3, ?_, y2, y3.congr (fun _ => Iff.rfl) (fun i => ⟨fun hh => ?_, fun hh => ?_⟩) (fun _ => Iff.rfl) (fun _ => Iff.rfl), fun i hi => by rw [y4 i hi, upd9_row (by omega)]⟩
    · rw [← y1, X11_letGo_37, ← (e.rw f).2, l, e30, if_f (by omega), z1, cal_e]
      repeat rw [chk_t (by omega)]
    · rcases hh with (hh | hh) | hh
      · exact Or.inl hh
      · exact Or.inr (by omega)
      · exact Or.inr (by omega)
    · rcases hh with hh | hh
      · exact Or.inl (Or.inl hh)
      · by_cases c : i = 80 * f + n
        · exact Or.inl (Or.inr c)
        · exact Or.inr (by omega)
/-- what is let go of so far, ahead of a child -/
def LgQ (r : Rst) (w f : Int) (S C Y S' C' : Int → Prop) (i : Int) : Prop := (Y f ∧ (∀ p, Y p → p = f ∨ S' p) ∧ (∀ p, Y p → f ≤ p)) ∧ ((∀ c, S c → S' c) ∧ (∀ c, C c → C' c)) ∧ ((∀ c, S' c → S c ∨ Y c) ∧ (∀ c, S' c → Stw r w c)) ∧ ((∀ c, C' c → C c ∨ ∃ p, Y p ∧ DsC r p c) ∧ (∀ c, C' c → r 9 c = f → c < i)) ∧ (∀ p, Y p → p ≠ f → (∀ c, DsS r p c → S' c) ∧ ∀ c, DsC r p c → C' c) ∧ (∀ c, c < i → DsS r f c → S' c) ∧ ∀ c, c < i → DsC r f c → C' c
/-- the same, when all is done -/
def LgF (r : Rst) (w f : Int) (S C Y S' C' : Int → Prop) : Prop := (Y f ∧ (∀ p, Y p → p = f ∨ S' p) ∧ (∀ p, Y p → f ≤ p)) ∧ ((∀ c, S c → S' c) ∧ (∀ c, C c → C' c)) ∧ ((∀ c, S' c → S c ∨ Y c) ∧ (∀ c, S' c → Stw r w c)) ∧ (∀ c, C' c → C c ∨ ∃ p, Y p ∧ DsC r p c) ∧ (∀ p, Y p → (∀ c, DsS r p c → S' c) ∧ ∀ c, DsC r p c → C' c)
theorem LgQ.fin (h : LgQ r w f S C Y S' C' (r 16 0)) : LgF r w f S C Y S' C' := by
  obtain ⟨h1, h2, h3, h4, h5, h6, h7⟩ := h
  refine ⟨h1, h2, h3, h4.1, fun p hp => ?_⟩
  by_cases e : p = f
  · rw [e]
    exact ⟨fun c hc => h6 c hc.1.2.1 hc, fun c hc => h7 c hc.1.2.1 hc⟩
  · exact h5 p hp e
/-- a child that isn't touched -/
theorem LgQ.skip {i : Int} (h : LgQ r w f S C Y S' C' i) (n1 : DsS r f i → S' i) (n2 : DsC r f i → C' i) : LgQ r w f S C Y S' C' (i + 1) := by
  obtain ⟨h1, h2, h3, h4, h5, h6, h7⟩ := h
  refine ⟨h1, h2, h3, ⟨h4.1, fun c hc e => by have := h4.2 c hc e; omega⟩, h5, fun c hc d => ?_, fun c hc d => ?_⟩
  · by_cases e : c = i
    · rw [e] at d ⊢; exact n1 d
    · exact h6 c (by omega) d
  · by_cases e : c = i
    · rw [e] at d ⊢; exact n2 d
    · exact h7 c (by omega) d
/-- a child that is cancelled too -/
theorem LgQ.canc {i : Int} (h : LgQ r w f S C Y S' C' i) (d : DsC r f i) : LgQ r w f S C Y S' (fun c => C' c ∨ c = i) (i + 1) := by
  obtain ⟨h1, h2, h3, h4, h5, h6, h7⟩ := h
  refine ⟨h1, ⟨h2.1, fun c hc => Or.inl (h2.2 c hc)⟩, h3, ⟨fun c hc => ?_, fun c hc e => ?_⟩, fun p hp e => ⟨(h5 p hp e).1, fun c hc => Or.inl ((h5 p hp e).2 c hc)⟩, fun c hc e => ?_, fun c hc e => ?_⟩
  · rcases hc with hc | hc
    · exact h4.1 c hc
    · rw [hc]; exact Or.inr ⟨f, h1.1, d⟩
  · rcases hc with hc | hc
    · have := h4.2 c hc e; omega
    · omega
  · by_cases g : c = i
    · rw [g] at e
      have := e.2
      have := d.2
      omega
    · exact h6 c (by omega) e
  · by_cases g : c = i
    · exact Or.inr g
    · exact Or.inl (h7 c (by omega) e)
/-- a child that is stopped too, and all that it has begun -/
theorem LgQ.stop {i : Int} (h : LgQ r w f S C Y S' C' i) (fi : f < i) (d : DsS r f i) {Y2 S2 C2 : Int → Prop} (k : LgF r w i (fun c => S' c ∨ c = i) C' Y2 S2 C2) : LgQ r w f S C (fun p => Y p ∨ Y2 p) S2 C2 (i + 1) := by
  obtain ⟨h1, h2, h3, h4, h5, h6, h7⟩ := h
  obtain ⟨k1, k2, k3, k4, k5⟩ := k
  have mS : ∀ c, S' c → S2 c := fun c hc => k2.1 c (Or.inl hc)
  have mC : ∀ c, C' c → C2 c := k2.2
  have si : S2 i := k2.1 i (Or.inr rfl)
  refine ⟨⟨Or.inl h1.1, fun p hp => ?_, fun p hp => ?_⟩, ⟨fun c hc => mS c (h2.1 c hc), fun c hc => mC c (h2.2 c hc)⟩, ⟨fun c hc => ?_, k3.2⟩, ⟨fun c hc => ?_, fun c hc e => ?_⟩, fun p hp e => ?_, fun c hc e => ?_, fun c hc e => ?_⟩
  · rcases hp with hp | hp
    · rcases h1.2.1 p hp with g | g
      · exact Or.inl g
      · exact Or.inr (mS p g)
    · rcases k1.2.1 p hp with g | g
      · rw [g]; exact Or.inr si
      · exact Or.inr g
  · rcases hp with hp | hp
    · exact h1.2.2 p hp
    · have := k1.2.2 p hp; omega
  · rcases k3.1 c hc with (g | g) | g
    · rcases h3.1 c g with g | g
      · exact Or.inl g
      · exact Or.inr (Or.inl g)
    · rw [g]; exact Or.inr (Or.inr k1.1)
    · exact Or.inr (Or.inr g)
  · rcases k4 c hc with g | ⟨p, g1, g2⟩
    · rcases h4.1 c g with g | ⟨p, g1, g2⟩
      · exact Or.inl g
      · exact Or.inr ⟨p, Or.inl g1, g2⟩
    · exact Or.inr ⟨p, Or.inr g1, g2⟩
  · rcases k4 c hc with g | ⟨p, g1, g2⟩
    · have := h4.2 c g e; omega
    · have := k1.2.2 p g1
      have := g2.1.2.2.1
      omega
  · by_cases g : Y p
    · exact ⟨fun c hc => mS c ((h5 p g e).1 c hc), fun c hc => mC c ((h5 p g e).2 c hc)⟩
    · exact k5 p (hp.resolve_left g)
  · by_cases g : c = i
    · rw [g]; exact si
    · exact mS c (h6 c (by omega) e)
  · by_cases g : c = i
    · rw [g] at e
      have := e.2
      have := d.2
      omega
    · exact mC c (h7 c (by omega) e)
theorem acts_or : (∀ i, acts r (fun p => X p ∨ Y p) i ↔ acts r X i ∨ acts r Y i) ∧ ∀ i, tims r (fun p => X p ∨ Y p) i ↔ tims r X i ∨ tims r Y i := by
  refine ⟨fun i => ⟨fun ⟨p, h1, h2⟩ => ?_, fun h => ?_⟩, fun i => ⟨fun ⟨p, h1, h2⟩ => ?_, fun h => ?_⟩⟩
  · rcases h1 with h1 | h1
    · exact Or.inl ⟨p, h1, h2⟩
    · exact Or.inr ⟨p, h1, h2⟩
  · rcases h with ⟨p, h1, h2⟩ | ⟨p, h1, h2⟩
    · exact ⟨p, Or.inl h1, h2⟩
    · exact ⟨p, Or.inr h1, h2⟩
  · rcases h1 with h1 | h1
    · exact Or.inl ⟨p, h1, h2⟩
    · exact Or.inr ⟨p, h1, h2⟩
  · rcases h with ⟨p, h1, h2⟩ | ⟨p, h1, h2⟩
    · exact ⟨p, Or.inl h1, h2⟩
    · exact ⟨p, Or.inr h1, h2⟩
theorem acts_one : (∀ i, acts r (fun p => p = f) i ↔ 80 * f + 0 ≤ i ∧ i < 80 * f + r 22 f) ∧ ∀ i, tims r (fun p => p = f) i ↔ 80 * f + 0 ≤ i ∧ i < 80 * f + r 30 f := by
  refine ⟨fun i => ⟨fun ⟨p, h1, h2⟩ => ?_, fun h => ⟨f, rfl, by omega, h.2⟩⟩, fun i => ⟨fun ⟨p, h1, h2⟩ => ?_, fun h => ⟨f, rfl, by omega, h.2⟩⟩⟩
  · rw [h1] at h2; omega
  · rw [h1] at h2; omega
end ER
