/-! the reference's play within its rows: going on, taking what happens -/
def SameQ (r r' : Rst) : Prop := ∀ j : Nat, j < 40 ∨ 76 < j → r' j = r j
theorem SameQ.rf {r : Rst} : SameQ r r := fun _ _ => rfl
theorem SameQ.tr {r r1 r2 : Rst} (h : SameQ r r1) (k : SameQ r1 r2) : SameQ r r2 := fun j hj => (k j hj).trans (h j hj)
theorem SameP.q {r r1 : Rst} (h : SameP r r1) : SameQ r r1 := fun j hj => h j (by omega)
theorem SameQ.ur {r r1 : Rst} {j : Nat} {i v : Int} (h : SameQ r r1) (hj : 40 ≤ j) (hj2 : j ≤ 76) : SameQ r (ur r1 j i v) := fun a ha => by
  rw [ur_ne (by omega)]
  exact h a ha
theorem PgR.sameQ {r r' : Rst} (h : PgR r) (k : SameQ r r') : PgR r' := by
  unfold PgR
  rw [k 77 (by omega), k 5 (by omega), k 2 (by omega), k 3 (by omega), k 4 (by omega)]
  exact h
theorem Pt.sameQ {r r' : Rst} (h : Pt r) (k : SameQ r r') : Pt r' := by
  unfold Pt
  rw [k 78 (by omega), k 79 (by omega)]
  exact h
def Ok2 (o : Option G2) (r : Rst) (P : Int → Rst → Prop) : Prop := ∃ v r', o = some (v, r') ∧ SameQ r r' ∧ Made r r' ∧ P v r'
theorem Ok.to {o : Option G2} {r : Rst} {P : Int → Rst → Prop} (h : Ok o r P) : Ok2 o r P := by
  obtain ⟨v, r', a, b, c, d⟩ := h
  exact ⟨v, r', a, b.q, c, d⟩
theorem Ok2.imp {o : Option G2} {r : Rst} {P Q : Int → Rst → Prop} (h : Ok2 o r P) (k : ∀ v r', SameQ r r' → Made r r' → P v r' → Q v r') : Ok2 o r Q := by
  obtain ⟨v, r', a, b, c, d⟩ := h
  exact ⟨v, r', a, b, c, k v r' b c d⟩
theorem Ok2.cag {o : Option G2} {r : Rst} {P : Int → Rst → Prop} {k : Int → Rst → Option G2} {Q : Int → Rst → Prop} (h : Ok2 o r P) (hk : ∀ v r', SameQ r r' → Made r r' → P v r' → Ok2 (k v r') r' Q) : Ok2 (cag o k) r Q := by
  obtain ⟨v, r', rfl, b, c, d⟩ := h
  obtain ⟨v2, r2, a2, b2, c2, d2⟩ := hk v r' b c d
  exact ⟨v2, r2, a2, b.tr b2, c.tr c2, d2⟩
theorem okcag2 {o : Option G2} {r : Rst} {P : Int → Rst → Prop} {k : Int → Rst → Option G2} {Q : Int → Rst → Prop} (h : Ok o r P) (hk : ∀ v r', SameP r r' → Made r r' → P v r' → Ok2 (k v r') r' Q) : Ok2 (cag o k) r Q := by
  obtain ⟨v, r', rfl, b, c, d⟩ := h
  obtain ⟨v2, r2, a2, b2, c2, d2⟩ := hk v r' b c d
  exact ⟨v2, r2, a2, b.q.tr b2, c.tr c2, d2⟩
theorem Ok2.ret {r : Rst} {v : Int} {P : Int → Rst → Prop} (h : P v r) : Ok2 (some (v, r)) r P := ⟨v, r, rfl, SameQ.rf, Made.rf, h⟩
theorem Ok2.chk {c : Prop} [Decidable c] {a : Option G2} {r : Rst} {P : Int → Rst → Prop} (hc : c) (h : Ok2 a r P) : Ok2 (chk9 c a) r P := by
  rw [chk_t hc]; exact h
theorem Ok2.st {r : Rst} {j : Nat} {i v : Int} {k : Rst → Option G2} {P : Int → Rst → Prop} (hj : 40 ≤ j ∧ j < 72 ∨ j = 75) (h : Ok2 (k (ur r j i v)) (ur r j i v) P) : Ok2 (stg (ur r j i v) k) r P := by
  obtain ⟨v2, r2, a2, b2, c2, d2⟩ := h
  exact ⟨v2, r2, a2, (SameQ.rf.ur (by omega) (by omega)).tr b2, (Made.rf.ur (by omega) (by omega) (by omega) (by omega)).tr c2, d2⟩
theorem Ok2.ite {c : Prop} [Decidable c] {a b : Option G2} {r : Rst} {P : Int → Rst → Prop} (h1 : c → Ok2 a r P) (h2 : ¬ c → Ok2 b r P) : Ok2 (if c then a else b) r P := by
  split
  · rename_i h; exact h1 h
  · rename_i h; exact h2 h
theorem Bz.tight {D T U S D2 : Int} {r : Rst} (h : Bz D T U S r) (k : r 76 0 ≤ D2) : Bz D2 T U S r := ⟨⟨h.1.1, k⟩, h.2⟩
theorem Bz.o44 {D T U S : Int} {r : Rst} (h : Bz D T U S r) {i v : Int} : Bz D T U S (ur r 44 i v) := h.oth (j := 44) rfl
theorem go_stop {n : Nat} {r : Rst} (h : r 42 0 ≠ 0 ∨ r 55 0 ≠ 0) : G_goesOn_0 (n + 1) r = some (0, r) := by
  rw [G_goesOn_0]
  by_cases c : r 42 0 = 0
  · rw [if_t c, if_f (by omega)]
  · rw [if_f c]
theorem ok_goesOn0 {D T U S : Int} (hD : D + 64 ≤ 5200) (hU : U + 61 ≤ 5200) (hT : T ≤ 70000) (hS : S ≤ 80) : ∀ (n : Nat) (r : Rst), 0 ≤ r 44 0 → r 44 0 ≤ 60 → 62 - r 44 0 < n → PgR r → Pt r → (r 42 0 = 0 → r 55 0 = 0 → Bd (D + r 44 0) (T + 4 * r 44 0) (U + r 44 0) S r) → ((r 42 0 ≠ 0 ∨ r 55 0 ≠ 0) → Bd (D + 64) (T + 244) (U + 61) S r) → Ok2 (G_goesOn_0 n r) r fun _ r' => Bd (D + 64) (T + 244) (U + 61) S r' ∧ (r' 42 0 = 0 → 0 < r' 55 0) := by
  intro n
  induction n with
  | zero => intro r h1 h2 h3; omega
  | succ n ih =>
    intro r h1 h2 h3 g p hA hB
    by_cases hm : r 42 0 ≠ 0 ∨ r 55 0 ≠ 0
    · rw [go_stop hm]
      have hb := hB hm
      have := hb.1.2.2.2.2.2.2.2.2.2.1
      exact Ok2.ret ⟨hb, fun h => by omega⟩
    · have m0 : r 42 0 = 0 := by omega
      have w0 : r 55 0 = 0 := by omega
      have hb := hA m0 w0
      have hz := hb.1
      have hat := hb.2.2.1 m0 w0
      have h45 := hz.2.2.2.2.2.2.2.1
      obtain ⟨k, rfl⟩ : ∃ k, n = k + 1 := ⟨n - 1, by omega⟩
      rw [G_goesOn_0, if_t m0, if_t w0]
      have fl : ∀ x, -1 ≤ x → x ≤ 9 → Ok2 (cag (G_fails x r) fun _ r1 => G_goesOn_0 (k + 1) r1) r fun _ r' => Bd (D + 64) (T + 244) (U + 61) S r' ∧ (r' 42 0 = 0 → 0 < r' 55 0) := fun x hx1 hx2 =>
        okcag2 (ok_fails hz ⟨hx1, hx2⟩ (by omega) (by omega) (by omega)) fun v r' _ _ hp => by
          rw [go_stop (Or.inl hp.2.1)]
          exact Ok2.ret ⟨hp.1.mono (by omega) (by omega) (by omega) (by omega), fun h => absurd h hp.2.1⟩
      have nx : Ok2 (G_goesOn_36 (G_goesOn_0 (k + 1)) r) r fun _ r' => Bd (D + 64) (T + 244) (U + 61) S r' ∧ (r' 42 0 = 0 → 0 < r' 55 0) := by
        unfold G_goesOn_36
        have g0 := g.1
        have g1 := g.2.1
        refine Ok2.chk (by omega) (Ok2.ite (fun e => ?_) fun ne => Ok2.ite (fun _ => fl 9 (by omega) (by omega)) fun n60 => Ok2.chk (by omega) (Ok2.st (by omega) ?_))
        · refine okcag2 (ok_ends hz w0 hz.2.2.2.2.2.2.2.2.1 (by omega)) fun v r' _ _ hp => ?_
          rw [go_stop (Or.inl (by rw [hp.2.1]; decide))]
          exact Ok2.ret ⟨hp.1.mono (by omega) (by omega) (by omega) (by omega), fun h => by omega⟩
        · have hz1 : Bz (D + r 44 0) (T + 4 * r 44 0) (U + r 44 0) S (ur r 44 0 (r 44 0 + 1)) := hz.o44
          have fin : ∀ s0, s0 = 0 ∨ s0 = 1 → 0 ≤ r 45 0 - s0 → Ok2 (G_goesOn_126 (G_goesOn_0 (k + 1)) s0 (r 45 0) (ur (ur r 44 0 (r 44 0 + 1)) 46 0 s0)) (ur (ur r 44 0 (r 44 0 + 1)) 46 0 s0) fun _ r' => Bd (D + 64) (T + 244) (U + 61) S r' ∧ (r' 42 0 = 0 → 0 < r' 55 0) := by
            intro s0 hs hs2
            unfold G_goesOn_126
            refine Ok2.chk (by omega) (Ok2.st (by omega) ?_)
            have hz2 : Bz (D + r 44 0) (T + 4 * r 44 0) (U + r 44 0) S (ur (ur (ur r 44 0 (r 44 0 + 1)) 46 0 s0) 45 0 (r 45 0 - s0)) := (hz1.oth (j := 46) rfl).v45 (by omega) (by omega)
            have hq : SameQ r (ur (ur (ur r 44 0 (r 44 0 + 1)) 46 0 s0) 45 0 (r 45 0 - s0)) := ((SameQ.rf.ur (by omega) (by omega)).ur (by omega) (by omega)).ur (by omega) (by omega)
            have e44 : ur (ur (ur r 44 0 (r 44 0 + 1)) 46 0 s0) 45 0 (r 45 0 - s0) 44 0 = r 44 0 + 1 := by simp (disch := omega) only [ur_n, ur_e]
            have e40 : ur (ur (ur r 44 0 (r 44 0 + 1)) 46 0 s0) 45 0 (r 45 0 - s0) 40 0 = r 40 0 := by simp (disch := omega) only [ur_n]
            have e42 : ur (ur (ur r 44 0 (r 44 0 + 1)) 46 0 s0) 45 0 (r 45 0 - s0) 42 0 = r 42 0 := by simp (disch := omega) only [ur_n]
            have e55 : ur (ur (ur r 44 0 (r 44 0 + 1)) 46 0 s0) 45 0 (r 45 0 - s0) 55 0 = r 55 0 := by simp (disch := omega) only [ur_n]
            generalize ur (ur (ur r 44 0 (r 44 0 + 1)) 46 0 s0) 45 0 (r 45 0 - s0) = x at *
            have gx := g.sameQ hq
            have px := p.sameQ hq
            rw [e40]
            have z76 := hz2.1
            refine okcag2 (ok_passes hz2 gx px hat.1 (by rw [hq 5 (by omega), hq 77 (by omega)]; omega) (by omega) (by omega) (by omega) (by omega) (by omega) hS) fun v r' hsp _ hp => ?_
            have e44' : r' 44 0 = r 44 0 + 1 := by rw [hsp 44 (by omega)]; exact e44
            obtain ⟨p1, p2⟩ := hp
            refine ih r' (by omega) (by omega) (by omega) (gx.same hsp) (px.same hsp) (fun a b => ?_) fun a => ?_
            · have h76 : r' 76 0 ≤ x 76 0 + 1 := by omega
              rw [e44']
              exact ⟨(p1.1.tight (D2 := D + (r 44 0 + 1)) (by omega)).mono (by omega) (by omega) (by omega) (by omega), p1.2⟩
            · exact ⟨(p1.1.tight (D2 := D + 64) (by omega)).mono (by omega) (by omega) (by omega) (by omega), p1.2⟩
          have e45 : ur r 44 0 (r 44 0 + 1) 45 0 = r 45 0 := ur_n (by omega)
          rw [e45]
          have e46 : ∀ s0, ur (ur r 44 0 (r 44 0 + 1)) 46 0 s0 46 0 = s0 := fun s0 => ur_e rfl rfl
          have e47 : ∀ s0, ur (ur r 44 0 (r 44 0 + 1)) 46 0 s0 45 0 = r 45 0 := fun s0 => by simp (disch := omega) only [ur_n]
          refine Ok2.ite (fun c0 => ?_) fun c0 => ?_
          · unfold G_goesOn_106
            refine Ok2.chk (by omega) (Ok2.st (by omega) ?_)
            rw [e46, e47, if_t rfl]
            exact fin 0 (Or.inl rfl) (by omega)
          · unfold G_goesOn_106
            refine Ok2.chk (by omega) (Ok2.st (by omega) ?_)
            rw [e46, e47, if_f (by decide)]
            exact fin 1 (Or.inr rfl) (by omega)
      exact Ok2.ite (fun _ => nx) fun _ => Ok2.ite (fun _ => fl (-1) (by omega) (by omega)) fun _ => nx
theorem ok_goesOn {D T U S : Int} {r : Rst} (hb : Bd D T U S r) (hp : r 44 0 = 0) (g : PgR r) (p : Pt r) (hD : D + 64 ≤ 5200) (hU : U + 61 ≤ 5200) (hT : T ≤ 70000) (hS : S ≤ 80) : Ok2 (G_goesOn r) r fun _ r' => Bd (D + 64) (T + 244) (U + 61) S r' ∧ (r' 42 0 = 0 → 0 < r' 55 0) :=
  ok_goesOn0 hD hU hT hS fuel9 r (by omega) (by omega) (fuel_big (by omega)) g p (fun _ _ => by rw [hp]; exact hb.mono (by omega) (by omega) (by omega) (by omega)) fun _ => hb.mono (by omega) (by omega) (by omega) (by omega)
