/-! what becomes of all that a run has begun: the class's way (2) -/
section ES
variable {N N' : Int} {uf : Int → Int} {r r' z r0 r1 r2 : Rst} {m m' m0 m1 : Mem} {w n k x y q s b c a v row I o t l u f W E M p nu pa L R F : Int} {A A' T T' S S' C C' X X' Y Y' : Int → Prop}
theorem x_letGo (gb : GI N r) (w0 : 0 ≤ w) : ∀ (n : Nat) (f l2 : Int) (X S C : Int → Prop) (r1 : Rst) (m1 : Mem), 10 - f ≤ n → 0 ≤ l2 → l2 ≤ f → w ≤ f → f < r 16 0 → (f = w ∨ S f) → ¬ X f → (∀ p, X p → p = w ∨ S p) → (∀ c, S c → Stw r w c) → (∀ c, C c → ∃ p, X p ∧ DsC r p c) → RelK N uf r1 m1 → Eff (acts r X) (tims r X) S C r r1 → ∃ (Y S' C' : Int → Prop) (r2 : Rst) (m2 : Mem), X11_letGo n 1 (100000 * (f + 1)) l2 m1 = some (0, m2) ∧ RelK N uf r2 m2 ∧ Eff (acts r (fun p => X p ∨ Y p)) (tims r (fun p => X p ∨ Y p)) S' C' r r2 ∧ (∀ i, i < 1000 → m2 i = m1 i) ∧ LgF r w f S C Y S' C' := by
  have f9 := fuel9_ge
  have g := gb.rg
  have b10 := g.1
  have gc := gb.2.2.2.2.2.2.1
  intro n
  induction n with
  | zero => intro f l2 X S C r1 m1 hn _ _ _ f1; omega
  | succ n ih =>
    intro f l2 X S C r1 m1 hn l0 lf wf f1 hf hX pX pS pC h e
    have f0 : 0 ≤ f := by omega
    have sf := g.2.2 f f0 f1
    have ltf := gb.lt f0 f1
    obtain ⟨ra, ma, a1, a2, a3, a4⟩ := lg_acts (kr := X11_letGo n) (k37 := X11_letGo_37 (X11_letGo n) (X11_letGo_61 (X11_letGo n) fuel9) fuel9) (l2 := l2) (F := 100000 * (f + 1)) f0 f1 (r 22 f).toNat 0 fuel9 _ r1 m1 (by omega) (by omega) (by omega) h e
    obtain ⟨rb, mb, b1, b2, b3, b4⟩ := lg_tims (kr := X11_letGo n) (k61 := X11_letGo_61 (X11_letGo n) fuel9) (l2 := l2) (F := 100000 * (f + 1)) f0 f1 (r 30 f).toNat 0 fuel9 _ ra ma (by omega) (by omega) (by omega) a2 a3
    have e0 : Eff (acts r (fun p => X p ∨ p = f)) (tims r (fun p => X p ∨ p = f)) S C r rb := b3.congr (fun i => by rw [acts_or.1, acts_one.1]) (fun i => by rw [acts_or.2, acts_one.2]) (fun _ => Iff.rfl) (fun _ => Iff.rfl)
    have loop : ∀ (d : Nat) (i : Int) (t : Nat) (Y S' C' : Int → Prop) (r2 : Rst) (m2 : Mem), r 16 0 - i = d → 0 ≤ i → d < t → LgQ r w f S C Y S' C' i → RelK N uf r2 m2 → Eff (acts r (fun p => X p ∨ Y p)) (tims r (fun p => X p ∨ Y p)) S' C' r r2 → ∃ (Y' S'' C'' : Int → Prop) (r3 : Rst) (m3 : Mem), X11_letGo_61 (X11_letGo n) t 1 (100000 * (f + 1)) l2 i m2 = some (0, m3) ∧ RelK N uf r3 m3 ∧ Eff (acts r (fun p => X p ∨ Y' p)) (tims r (fun p => X p ∨ Y' p)) S'' C'' r r3 ∧ (∀ i, i < 1000 → m3 i = m2 i) ∧ LgF r w f S C Y' S'' C'' := by
      intro d
      induction d with
      | zero =>
        intro i t Y S' C' r2 m2 hd i0 ht q h2 e2
        obtain ⟨t, rfl⟩ : ∃ k, t = k + 1 := ⟨t - 1, by omega⟩
        have ei : i = r 16 0 := by omega
        subst ei
        refine ⟨Y, S', C', r2, m2, ?_, h2, e2, fun _ _ => rfl, q.fin⟩
        rw [X11_letGo_61, h2.1.1.1.2.2.2.2.2.1, e2.1 16 (by omega), if_t (Int.le_refl _), chk_t (by omega)]
      | succ d ih2 =>
        intro i t Y S' C' r2 m2 hd i0 ht q h2 e2
        obtain ⟨t, rfl⟩ : ∃ k, t = k + 1 := ⟨t - 1, by omega⟩
        have i1 : i < r 16 0 := by omega
        have si := g.2.2 i i0 i1
        have i1' : i < r2 16 0 := by rw [e2.1 16 (by omega)]; exact i1
        have hSb : ∀ c, S' c → 1 ≤ r 12 c ∧ r 12 c ≤ 9 := fun c hc => by
          obtain ⟨p, d, _⟩ := (q.2.2.1.2 c hc).is gc
          have := g.2.2 c d.1.1 d.1.2.1
          exact ⟨this.1, this.2.1⟩
        have hCb : ∀ c, C' c → 1 ≤ r 12 c ∧ r 12 c ≤ 9 := fun c hc => by
          rcases q.2.2.2.1.1 c hc with hc | ⟨p, _, d⟩
          · obtain ⟨p, _, d⟩ := pC c hc
            have := g.2.2 c d.1.1 d.1.2.1
            exact ⟨this.1, this.2.1⟩
          · have := g.2.2 c d.1.1 d.1.2.1
            exact ⟨this.1, this.2.1⟩
        have n17 : ¬ S' i → r2 17 (rw9 r i) = r 17 (rw9 r i) := fun hh => e2.2.2.2.2.2.1.2 _ fun c hc hr => hh (by rw [rw_inj ⟨si.1, si.2.1⟩ (hSb c hc) hr]; exact hc)
        have y17 : S' i → r2 17 (rw9 r i) = 24 := fun hh => e2.2.2.2.2.2.1.1 i hh
        have fate2 : S' i → fate r i = 2 := fun hh => by
          obtain ⟨p, d, _⟩ := (q.2.2.1.2 i hh).is gc
          exact d.2
        have fA := h2.1.2.2.2.2.2.1 i i0 i1'
        have fi := fA.1
        have ff := (h2.1.2.2.2.2.2.1 f f0 (by rw [e2.1 16 (by omega)]; exact f1)).1
        have s12 : 1 ≤ r2 12 i := by rw [e2.1 12 (by omega)]; exact si.1
        have ru := fA.2.1 (r2 12 i) s12 (Int.le_refl _)
        have eRl : Rl r2 i = Rl r i := (e2.rw i).2
        rw [show 100000 * (i + 1) + 10000 * r2 12 i = Rl r i from eRl, show 9 * i + r2 12 i - 1 = rw9 r i from (e2.rw i).1] at ru
        have m3 : m2 3 i = 100000 * (i + 1) := h2.1.1.2 i i0 i1'
        have m11 : m2 1 1 = 3 := h2.1.1.1.2.1
        have m15 : m2 1 5 = r 16 0 := by rw [h2.1.1.1.2.2.2.2.2.1, e2.1 16 (by omega)]
        have g7 : m2 (100000 * (i + 1)) 7 = r 9 i := by rw [fi.1.2.2.2.2.2.2.2, e2.1 9 (by omega)]
        have g6 : m2 (100000 * (i + 1)) 6 = Rl r i := by rw [fi.1.2.2.2.2.2.2.1, eRl]
        have g0 : m2 (100000 * (f + 1)) 0 = f := ff.1.1
        have g5 : m2 (100000 * (f + 1)) 5 = r 12 f := by rw [ff.1.2.2.2.2.2.1, e2.1 12 (by omega)]
        have gR7 : m2 (Rl r i) 7 = r2 17 (rw9 r i) := ru.1.2.2.2.1
        have eR9 : Rl r i = 100000 * (i + 1) + 10000 * r 12 i := rfl
        have ti := si.1
        have ti2 := si.2.1
        have nx : ¬ (r 9 i = f ∧ r 10 i = r 12 f ∧ r2 17 (rw9 r i) = 20) → X11_letGo_61 (X11_letGo n) (t + 1) 1 (100000 * (f + 1)) l2 i m2 = X11_letGo_61 (X11_letGo n) t 1 (100000 * (f + 1)) l2 (i + 1) m2 := fun hh => by
          rw [X11_letGo_61, m15, if_f (by omega), m11, m3, g7, g0]
          by_cases c : r 9 i = f
          · have g8 : m2 (100000 * (i + 1)) 8 = r 10 i := by rw [(fi.2.1 (by rw [e2.1 9 (by omega)]; omega)).1, e2.1 10 (by omega)]
            rw [if_t c, g8, g5]
            by_cases c2 : r 10 i = r 12 f
            · rw [if_t c2, g6, gR7, if_f (fun c3 => hh ⟨c, c2, c3⟩)]
              repeat rw [chk_t (by omega)]
            · rw [if_f c2]
              repeat rw [chk_t (by omega)]
          · rw [if_f c]
            repeat rw [chk_t (by omega)]
        by_cases hl : r 9 i = f ∧ r 10 i = r 12 f ∧ r2 17 (rw9 r i) = 20
        · have nS : ¬ S' i := fun hh => by have := y17 hh; omega
          have e17 := n17 nS
          have lv : Lv r f i := ⟨i0, i1, hl.1, hl.2.1, by rw [← e17]; exact hl.2.2⟩
          have fi0 : f < i := by
            have := (gc.2 i i0 i1).resolve_left (by omega)
            omega
          have g8 : m2 (100000 * (i + 1)) 8 = r 10 i := by rw [(fi.2.1 (by rw [e2.1 9 (by omega)]; omega)).1, e2.1 10 (by omega)]
          have gF : m2 (100000 * (i + 1)) 10 = fate r i := by
            have := h2.1.2.2.2.2.2.2.1 i i0 i1' (by rw [e2.1 9 (by omega)]; omega) (by rw [e2.1 9 (by omega), e2.1 10 (by omega), e2.1 12 (by omega), hl.1]; exact hl.2.1)
            rw [this, e2.1 34 (by omega), e2.1 9 (by omega), e2.1 11 (by omega)]
            rfl
          have go : X11_letGo_61 (X11_letGo n) (t + 1) 1 (100000 * (f + 1)) l2 i m2 = cal (X11_leaveChild (X11_letGo n) 1 (100000 * (i + 1)) l2 m2) fun _ m16 => X11_letGo_61 (X11_letGo n) t 1 (100000 * (f + 1)) l2 (i + 1) m16 := by
            rw [X11_letGo_61, m15, if_f (by omega), m11, m3, g7, g0, if_t hl.1, g8, g5, if_t hl.2.1, g6, gR7, if_t hl.2.2]
            have ic : iR (i + 1) := by omega
            repeat rw [chk_t (by omega)]
            congr 1
            funext _ m16
            rw [chk_t ic]
          by_cases c1 : fate r i = 1
          · have dC : DsC r f i := ⟨lv, c1⟩
            have nC : ¬ C' i := fun hh => by have := q.2.2.2.1.2 i hh hl.1; omega
            have h18 := si.2.2.2.2.2 (rw9 r i) (by unfold rw9; omega) (by unfold rw9; omega)
            obtain ⟨v, m4, k1, k2, k3, k4⟩ := h2.cancel i0 i1'
            rw [eRl] at k1 k4
            have e4 := e2.can nC nS ⟨ti, ti2⟩ h18 hSb hCb
            have le : X11_leaveChild (X11_letGo n) 1 (100000 * (i + 1)) l2 m2 = some (0, m4) := by
              have z10 : m4 (100000 * (i + 1)) 10 = 1 := by rw [k4 _ (by omega), gF, c1]
              unfold X11_leaveChild X11_leaveChild_0 X11_leaveChild_16
              rw [gF, if_t c1, g6, k1, cal_e, z10, if_f (by decide)]
              repeat rw [chk_t (by omega)]
            obtain ⟨Y', S'', C'', r3, m5, t1, t2, t3, t4, t5⟩ := ih2 (i + 1) t Y S' _ _ m4 (by omega) (by omega) (by omega) (q.canc dC) k3 e4
            exact ⟨Y', S'', C'', r3, m5, by rw [go, le, cal_e, t1], t2, t3, fun j hj => by rw [t4 j hj, k4 j (by omega)], t5⟩
          · by_cases c2 : fate r i = 2
            · have dS : DsS r f i := ⟨lv, c2⟩
              obtain ⟨k1, k2⟩ := h2.stop (w := i) (v := 24) i0 i1' (by decide)
              rw [eRl] at k1 k2
              rw [(e2.rw i).1] at k2
              have e4 := e2.stop ⟨ti, ti2⟩ hSb
              have sti : Stw r w i := by
                rcases hf with hf | hf
                · rw [hf] at dS; exact Stw.base dS
                · exact (pS f hf).step dS
              obtain ⟨Y2, S2, C2, r4, m4, u1, u2, u3, u4, u5⟩ := ih i (l2 + 1) (fun p => X p ∨ Y p) (fun c => S' c ∨ c = i) C' _ _ (by omega) (by omega) (by omega) (by omega) i1 (Or.inr (Or.inr rfl)) (fun hh => by
                rcases hh with hh | hh
                · rcases pX i hh with e | e
                  · omega
                  · exact nS (q.2.1.1 i e)
                · rcases q.1.2.1 i hh with e | e
                  · omega
                  · exact nS e) (fun p hp => by
                rcases hp with hp | hp
                · rcases pX p hp with e | e
                  · exact Or.inl e
                  · exact Or.inr (Or.inl (q.2.1.1 p e))
                · rcases q.1.2.1 p hp with e | e
                  · rcases hf with hf | hf
                    · exact Or.inl (by rw [e]; exact hf)
                    · exact Or.inr (Or.inl (by rw [e]; exact q.2.1.1 f hf))
                  · exact Or.inr (Or.inl e)) (fun c hc => by
                rcases hc with hc | hc
                · exact q.2.2.1.2 c hc
                · rw [hc]; exact sti) (fun c hc => by
                rcases q.2.2.2.1.1 c hc with e | ⟨p, e1, e2⟩
                · obtain ⟨p, e1, e2⟩ := pC c e
                  exact ⟨p, Or.inl e1, e2⟩
                · exact ⟨p, Or.inr e1, e2⟩) k2 e4
              rw [show (fun p => (X p ∨ Y p) ∨ Y2 p) = fun p => X p ∨ (Y p ∨ Y2 p) from funext fun p => propext or_assoc] at u3
              have le : X11_leaveChild (X11_letGo n) 1 (100000 * (i + 1)) l2 m2 = some (0, m4) := by
                unfold X11_leaveChild X11_leaveChild_0 X11_leaveChild_16
                rw [gF, if_f c1, if_t c2, if_f (by omega), g6, k1, cal_e, u1, cal_e]
                repeat rw [chk_t (by omega)]
              obtain ⟨Y', S'', C'', r3, m5, t1, t2, t3, t4, t5⟩ := ih2 (i + 1) t _ S2 C2 r4 m4 (by omega) (by omega) (by omega) (q.stop fi0 dS u5) u2 u3
              exact ⟨Y', S'', C'', r3, m5, by rw [go, le, cal_e, t1], t2, t3, fun j hj => by rw [t4 j hj, u4 j hj, upd9_row (by omega), upd9_row (by omega)], t5⟩
            · have le : X11_leaveChild (X11_letGo n) 1 (100000 * (i + 1)) l2 m2 = some (0, m2) := by
                unfold X11_leaveChild X11_leaveChild_0 X11_leaveChild_16
                rw [gF, if_f c1, if_f c2]
                repeat rw [chk_t (by omega)]
              obtain ⟨Y', S'', C'', r3, m5, t1, t2, t3, t4, t5⟩ := ih2 (i + 1) t Y S' C' r2 m2 (by omega) (by omega) (by omega) (q.skip (fun d => absurd d.2 c2) (fun d => absurd d.2 c1)) h2 e2
              exact ⟨Y', S'', C'', r3, m5, by rw [go, le, cal_e, t1], t2, t3, t4, t5⟩
        · have st : Lv r f i → S' i := fun lv => by
            by_cases c : S' i
            · exact c
            · exact absurd ⟨lv.2.2.1, lv.2.2.2.1, by rw [n17 c]; exact lv.2.2.2.2⟩ hl
          obtain ⟨Y', S'', C'', r3, m5, t1, t2, t3, t4, t5⟩ := ih2 (i + 1) t Y S' C' r2 m2 (by omega) (by omega) (by omega) (q.skip (fun d => st d.1) (fun d => by
            have := fate2 (st d.1)
            have := d.2
            omega)) h2 e2
          exact ⟨Y', S'', C'', r3, m5, by rw [nx hl, t1], t2, t3, t4, t5⟩
    obtain ⟨Y', S'', C'', r3, m3, t1, t2, t3, t4, t5⟩ := loop (r 16 0).toNat 0 fuel9 (fun p => p = f) S C rb mb (by omega) (by omega) (by omega) ⟨⟨rfl, fun p hp => Or.inl hp, fun p hp => by omega⟩, ⟨fun _ hc => hc, fun _ hc => hc⟩, ⟨fun c hc => Or.inl hc, pS⟩, ⟨fun c hc => Or.inl hc, fun c hc e => by
      obtain ⟨p, e1, e2⟩ := pC c hc
      have := e2.1.2.2.1
      exact absurd (show X f by rw [← e, this]; exact e1) hX⟩, fun p hp e => absurd hp e, fun c hc d => by have := d.1.1; omega, fun c hc d => by have := d.1.1; omega⟩ b2 e0
    have f1' : f < r1 16 0 := by rw [e.1 16 (by omega)]; exact f1
    have g6 : m1 (100000 * (f + 1)) 6 = Rl r f := by rw [(h.1.2.2.2.2.2.1 f f0 f1').1.1.2.2.2.2.2.2.1, (e.rw f).2]
    refine ⟨Y', S'', C'', r3, m3, ?_, t2, t3, fun i hi => by rw [t4 i hi, b4 i hi, a4 i hi], t5⟩
    rw [X11_letGo]
    unfold X11_letGo_0
    rw [g6, chk_t (by omega), a1, b1, t1]
end ES
