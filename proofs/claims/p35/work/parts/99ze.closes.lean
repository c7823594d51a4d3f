/-! what becomes of all that a run has begun: the reference's way -/
section ET2
variable {N N' : Int} {uf : Int → Int} {r r' z r0 r1 r2 : Rst} {m m' m0 m1 : Mem} {w n k x y q s b c a v row I o t l u f W E M p nu pa L R F : Int} {A A' T T' S S' C C' X X' Y Y' P : Int → Prop}
theorem Eff.st (h : Eff A T S C r r1) (e : ∀ j : Nat, j ≠ 81 → j ≠ 82 → r2 j = r1 j) : Eff A T S C r r2 := by
  obtain ⟨a1, a2, a3, a4, a5, a6, a7, a8⟩ := h
  refine ⟨fun j hj => by rw [e j (by omega) (by omega), a1 j hj], by rw [e 23 (by omega) (by omega)]; exact a2, by rw [e 31 (by omega) (by omega)]; exact a3, by rw [e 39 (by omega) (by omega)]; exact a4, by rw [e 15 (by omega) (by omega)]; exact a5, by rw [e 17 (by omega) (by omega)]; exact a6, fun c hc j i hj => ?_, fun j i j0 j1 hj => by rw [e j (by omega) (by omega)]; exact a8 j i j0 j1 hj⟩
  have : j ≠ 81 ∧ j ≠ 82 := by
    unfold HO at hj
    omega
  rw [e j this.1 this.2]
  exact a7 c hc j i hj
theorem rg_acts {k26 : Int → Int → Rst → Option G2} (f0 : 0 ≤ f) (f1 : f < 10) (h22 : 0 ≤ r 22 f ∧ r 22 f ≤ 80) : ∀ (d : Nat) (n : Int) (t : Nat) (A : Int → Prop) (r1 : Rst), r 22 f - n = d → 0 ≤ n → d < t → Eff A T S C r r1 → ∃ r2, G_closesOne_2 k26 t f n r1 = k26 f 0 r2 ∧ Eff (fun i => A i ∨ (80 * f + n ≤ i ∧ i < 80 * f + r 22 f)) T S C r r2 ∧ ∀ j : Nat, j ≠ 23 → j ≠ 39 → r2 j = r1 j := by
  intro d
  induction d with
  | zero =>
    intro n t A r1 hd n0 ht e
    obtain ⟨t, rfl⟩ : ∃ k, t = k + 1 := ⟨t - 1, by omega⟩
    refine ⟨r1, ?_, e.congr (fun i => ⟨fun hh => Or.inl hh, fun hh => hh.resolve_right (by omega)⟩) (fun _ => Iff.rfl) (fun _ => Iff.rfl) (fun _ => Iff.rfl), fun _ _ _ => rfl⟩
    rw [G_closesOne_2, e.1 22 (by omega), if_t (by omega), chk_t (by omega)]
  | succ d ih =>
    intro n t A r1 hd n0 ht e
    obtain ⟨t, rfl⟩ : ∃ k, t = k + 1 := ⟨t - 1, by omega⟩
    obtain ⟨r2, z1, z2⟩ := g_off (r := r1) (w := f) (n := n) (by omega) (by omega)
    obtain ⟨r3, y1, y2, y3⟩ := ih (n + 1) t _ r2 (by omega) (by omega) (by omega) (e.off z2)
    refine ⟨r3, ?_, y2.congr (fun i => ⟨fun hh => ?_, fun hh => ?_⟩) (fun _ => Iff.rfl) (fun _ => Iff.rfl) (fun _ => Iff.rfl), fun j a b => by rw [y3 j a b, z2.1 j b a]⟩
    · rw [← y1, G_closesOne_2, e.1 22 (by omega), if_f (by omega), z1, cag_e]
      repeat rw [chk_t (by omega)]
    · rcases hh with (hh | hh) | hh
      · exact Or.inl hh
      · exact Or.inr (by omega)
      · exact Or.inr (by omega)
    · rcases hh with hh | hh
      · exact Or.inl (Or.inl hh)
      · by_cases c : i = 80 * f + n
        · exact Or.inl (Or.inr c)
        · exact Or.inr (by omega)
theorem rg_tims {k56 : Int → Int → Rst → Option G2} (f0 : 0 ≤ f) (f1 : f < 10) (h30 : 0 ≤ r 30 f ∧ r 30 f ≤ 80) : ∀ (d : Nat) (n : Int) (t : Nat) (T : Int → Prop) (r1 : Rst), r 30 f - n = d → 0 ≤ n → d < t → Eff A T S C r r1 → ∃ r2, G_closesOne_26 k56 t f n r1 = k56 f 0 r2 ∧ Eff A (fun i => T i ∨ (80 * f + n ≤ i ∧ i < 80 * f + r 30 f)) S C r r2 ∧ ∀ j : Nat, j ≠ 31 → r2 j = r1 j := by
  intro d
  induction d with
  | zero =>
    intro n t T r1 hd n0 ht e
    obtain ⟨t, rfl⟩ : ∃ k, t = k + 1 := ⟨t - 1, by omega⟩
    refine ⟨r1, ?_, e.congr (fun _ => Iff.rfl) (fun i => ⟨fun hh => Or.inl hh, fun hh => hh.resolve_right (by omega)⟩) (fun _ => Iff.rfl) (fun _ => Iff.rfl), fun _ _ => rfl⟩
    rw [G_closesOne_26, e.1 30 (by omega), if_t (by omega), chk_t (by omega)]
  | succ d ih =>
    intro n t T r1 hd n0 ht e
    obtain ⟨t, rfl⟩ : ∃ k, t = k + 1 := ⟨t - 1, by omega⟩
    obtain ⟨r3, y1, y2, y3⟩ := ih (n + 1) t _ _ (by omega) (by omega) (by omega) (e.toff (w := f) (n := n))
    refine ⟨r3, ?_, y2.congr (fun _ => Iff.rfl) (fun i => ⟨fun hh => ?_, fun hh => ?_⟩) (fun _ => Iff.rfl) (fun _ => Iff.rfl), fun j a => by rw [y3 j a, ur_ne a]⟩
    · rw [← y1, G_closesOne_26, e.1 30 (by omega), if_f (by omega)]
      repeat rw [chk_t (by omega)]
      rw [stg_e]
      repeat rw [chk_t (by omega)]
    · rcases hh with (hh | hh) | hh
      · exact Or.inl hh
      · exact Or.inr (by omega)
      · exact Or.inr (by omega)
    · rcases hh with hh | hh
      · exact Or.inl (Or.inl hh)
      · by_cases c : i = 80 * f + n
        · exact Or.inl (Or.inr c)
        · exact Or.inr (by omega)
/-- how many latest runs are RUNNING -/
def rcnt (r r1 : Rst) : Int := cntP (fun x => decide (x = 20)) (fun c => r1 17 (rw9 r c)) (r 16 0).toNat
theorem cnt_dec {pp : Int → Bool} {g g' : Int → Int} {c0 : Int} (c00 : 0 ≤ c0) (h1 : pp (g c0) = true) (h2 : pp (g' c0) = false) : ∀ n : Nat, (∀ c : Int, 0 ≤ c → c < n → c ≠ c0 → g' c = g c) → c0 < n → cntP pp g' n + 1 = cntP pp g n := by
  intro n
  induction n with
  | zero => intro _ h; omega
  | succ n ih =>
    intro e h
    rw [cntP, cntP]
    by_cases c : c0 = n
    · rw [cntP_congr (f := g') (g := g) fun i a b => e i a (by omega) (by omega), ← c, h1, h2, if_t rfl, if_f (by decide)]
      omega
    · rw [e n (by omega) (by omega) (by omega)]
      have := ih (fun i a b d => e i a (by omega) d) (by omega)
      omega
/-- the stack of those that are still to be gone through -/
def SK (r r1 : Rst) (P S : Int → Prop) : Prop := 0 ≤ r1 82 0 ∧ (∀ i, 0 ≤ i → i < r1 82 0 → S (r1 81 i) ∧ ¬ P (r1 81 i)) ∧ (∀ i j, 0 ≤ i → i < j → j < r1 82 0 → r1 81 i ≠ r1 81 j) ∧ (∀ c, S c → P c ∨ ∃ i, 0 ≤ i ∧ i < r1 82 0 ∧ r1 81 i = c) ∧ r1 82 0 + rcnt r r1 ≤ 10
theorem SK.fr (h : SK r r1 P S) (e : ∀ j : Nat, j = 17 ∨ j = 81 ∨ j = 82 → r2 j = r1 j) : SK r r2 P S ∧ rcnt r r2 = rcnt r r1 := by
  unfold SK rcnt at *
  rw [e 17 (by omega), e 81 (by omega), e 82 (by omega)]
  exact ⟨h, rfl⟩
/-- one run's children, as far as they were gone through -/
def RgQ (r : Rst) (w f : Int) (P S C S' C' : Int → Prop) (l : Int) : Prop := ((∀ c, S c → S' c) ∧ (∀ c, C c → C' c)) ∧ (∀ c, S' c → Stw r w c) ∧ ((∀ c, C' c → ∃ p, P p ∧ DsC r p c) ∧ (∀ c, C' c → r 9 c = f → r 11 c < l)) ∧ (∀ c, DsS r f c → r 11 c < l → S' c) ∧ ∀ c, DsC r f c → r 11 c < l → C' c
theorem RgQ.skip (h : RgQ r w f P S C S' C' l) (n1 : ∀ c, DsS r f c → r 11 c = l → S' c) (n2 : ∀ c, DsC r f c → r 11 c = l → C' c) : RgQ r w f P S C S' C' (l + 1) := by
  obtain ⟨h1, h2, h3, h4, h5⟩ := h
  refine ⟨h1, h2, ⟨h3.1, fun c hc e => by have := h3.2 c hc e; omega⟩, fun c d e => ?_, fun c d e => ?_⟩
  · by_cases g : r 11 c = l
    · exact n1 c d g
    · exact h4 c d (by omega)
  · by_cases g : r 11 c = l
    · exact n2 c d g
    · exact h5 c d (by omega)
theorem eff_run (gb : GI N r) (e : Eff A T S C r r1) (c0 : 0 ≤ c) (c1 : c < r 16 0) : G_isRunning c r1 = some (if r1 17 (rw9 r c) = 20 then 1 else 0, r1) := by
  have g := gb.rg
  have b10 := g.1
  have s := g.2.2 c c0 c1
  have e12 : r1 12 c = r 12 c := by rw [e.1 12 (by omega)]
  rw [g_isRunning c0 (by omega) (by rw [e12]; exact s.1) (by rw [e12]; exact s.2.1), (e.rw c).1]
theorem rc_56 (gb : GI N r) (w0 : 0 ≤ w) (wf : w ≤ f) (f1 : f < r 16 0) (hf : f = w ∨ Stw r w f) (Pf : P f) (hP : ∀ p, P p → p ≤ f ∨ S p) (hP2 : ∀ p, P p → p = w ∨ p = f ∨ S p) : ∀ (d : Nat) (l : Int) (t : Nat) (S' C' : Int → Prop) (r1 : Rst), r 32 f - l = d → 0 ≤ l → d < t → RgQ r w f P S C S' C' l → Eff (acts r P) (tims r P) S' C' r r1 → SK r r1 P S' → ∃ (S'' C'' : Int → Prop) (r2 : Rst), G_closesOne_56 t f l r1 = some (0, r2) ∧ Eff (acts r P) (tims r P) S'' C'' r r2 ∧ SK r r2 P S'' ∧ RgQ r w f P S C S'' C'' (r 32 f) ∧ r2 82 0 + 2 * rcnt r r2 ≤ r1 82 0 + 2 * rcnt r r1 := by
  have g := gb.rg
  have b10 := g.1
  have gc := gb.2.2.2.2.2.2.1
  have f0 : 0 ≤ f := by omega
  have ltf := gb.lt f0 f1
  intro d
  induction d with
  | zero =>
    intro l t S' C' r1 hd l0 ht q e sk
    obtain ⟨t, rfl⟩ : ∃ k, t = k + 1 := ⟨t - 1, by omega⟩
    have el : l = r 32 f := by omega
    subst el
    refine ⟨S', C', r1, ?_, e, sk, q, Int.le_refl _⟩
    rw [G_closesOne_56, e.1 32 (by omega), if_t (Int.le_refl _), chk_t (by omega)]
  | succ d ih =>
    intro l t S' C' r1 hd l0 ht q e sk
    obtain ⟨t, rfl⟩ : ∃ k, t = k + 1 := ⟨t - 1, by omega⟩
    have l1 : l < r 32 f := by omega
    have e33 : r1 33 (80 * f + l) = r 33 (80 * f + l) := by rw [e.1 33 (by omega)]
    have e34 : r1 34 (80 * f + l) = r 34 (80 * f + l) := by rw [e.1 34 (by omega)]
    have e32 : r1 32 f = r 32 f := by rw [e.1 32 (by omega)]
    /- whoever has this number is the child of this number -/
    have who : ∀ c, Lv r f c → r 11 c = l → r 33 (80 * f + l) = c := fun c lv ec => by
      have k := (gc.2 c lv.1 lv.2.1).resolve_left (by have := lv.2.2.1; omega)
      have k4 := k.2.2.2 (by rw [lv.2.2.1]; exact lv.2.2.2.1)
      rw [lv.2.2.1, ec] at k4
      exact k4.2.2
    have nxt : ∀ (S2 C2 : Int → Prop) (r2 : Rst), G_closesOne_56 (t + 1) f l r1 = G_closesOne_56 t f (l + 1) r2 → RgQ r w f P S C S2 C2 (l + 1) → Eff (acts r P) (tims r P) S2 C2 r r2 → SK r r2 P S2 → r2 82 0 + 2 * rcnt r r2 ≤ r1 82 0 + 2 * rcnt r r1 → ∃ (S'' C'' : Int → Prop) (r2 : Rst), G_closesOne_56 (t + 1) f l r1 = some (0, r2) ∧ Eff (acts r P) (tims r P) S'' C'' r r2 ∧ SK r r2 P S'' ∧ RgQ r w f P S C S'' C'' (r 32 f) ∧ r2 82 0 + 2 * rcnt r r2 ≤ r1 82 0 + 2 * rcnt r r1 := fun S2 C2 r2 h1 h2 h3 h4 h5 => by
      obtain ⟨S3, C3, r3, k1, k2, k3, k4, k5⟩ := ih (l + 1) t S2 C2 r2 (by omega) (by omega) (by omega) h2 h3 h4
      exact ⟨S3, C3, r3, by rw [h1, k1], k2, k3, k4, by omega⟩
    have hSb : ∀ c, S' c → 1 ≤ r 12 c ∧ r 12 c ≤ 9 := fun c hc => by
      obtain ⟨p, d, _⟩ := (q.2.1 c hc).is gc
      have := g.2.2 c d.1.1 d.1.2.1
      exact ⟨this.1, this.2.1⟩
    have hCb : ∀ c, C' c → 1 ≤ r 12 c ∧ r 12 c ≤ 9 := fun c hc => by
      obtain ⟨p, _, d⟩ := q.2.2.1.1 c hc
      have := g.2.2 c d.1.1 d.1.2.1
      exact ⟨this.1, this.2.1⟩
    by_cases cm : r 33 (80 * f + l) = -1
    · refine nxt S' C' r1 ?_ (q.skip (fun c d ec => ?_) (fun c d ec => ?_)) e sk (Int.le_refl _)
      · rw [G_closesOne_56, e32, if_f (by omega), e33, cm, if_t rfl]
        unfold G_closesOne_116
        rw [if_t rfl]
        repeat rw [chk_t (by omega)]
      · have := who c d.1 ec
        have := d.1.1
        omega
      · have := who c d.1 ec
        have := d.1.1
        omega
    · obtain ⟨c, hc⟩ : ∃ c, c = r 33 (80 * f + l) := ⟨_, rfl⟩
      rw [← hc] at cm e33 who
      obtain ⟨g1, g2, g3, g4, g5⟩ := (by rw [hc] at cm ⊢; exact (gc.1 f l f0 f1 l0 l1).resolve_left cm : f < c ∧ c < r 16 0 ∧ r 9 c = f ∧ r 10 c = r 12 f ∧ r 11 c = l)
      have sc := g.2.2 c (by omega) g2
      have sc1 := sc.1
      have sc2 := sc.2.1
      have run := eff_run gb e (show 0 ≤ c by omega) g2
      have ef : r 34 (80 * f + l) = fate r c := by unfold fate; rw [g3, g5]
      rw [ef] at e34
      by_cases c17 : r1 17 (rw9 r c) = 20
      · have nS : ¬ S' c := fun hh => by
          have := e.2.2.2.2.2.1.1 c hh
          omega
        have e17 : r1 17 (rw9 r c) = r 17 (rw9 r c) := e.2.2.2.2.2.1.2 _ fun c2 hc2 hr => nS (by rw [rw_inj ⟨sc1, sc2⟩ (hSb c2 hc2) hr]; exact hc2)
        have lv : Lv r f c := ⟨by omega, g2, g3, g4, by rw [← e17]; exact c17⟩
        rw [if_t c17] at run
        have iP : ¬ P c := fun hh => by
          rcases hP c hh with hp | hp
          · omega
          · exact nS (q.1.1 c hp)
        by_cases c1 : fate r c = 1
        · have dC : DsC r f c := ⟨lv, c1⟩
          have nC : ¬ C' c := fun hh => by have := q.2.2.1.2 c hh g3; omega
          have h18 := sc.2.2.2.2.2 (rw9 r c) (by unfold rw9; omega) (by unfold rw9; omega)
          have e12 : r1 12 c = r 12 c := by rw [e.1 12 (by omega)]
          have h18' : 0 ≤ r1 18 (rw9 r1 c) ∧ r1 18 (rw9 r1 c) ≤ 80 := by
            rw [(e.rw c).1, e.2.2.2.2.2.2.2 18 _ (by omega) (by omega) fun c2 hc2 hb => nC (by rw [← ho_inj (hCb c2 hc2) ⟨sc1, sc2⟩ hb (by unfold HO; omega : HO r c 18 (rw9 r c))]; exact hc2)]
            exact h18
          have gcan := g_cancels (r := r1) (w := c) (by omega) (by omega) (by rw [e12]; exact sc1) (by rw [e12]; exact sc2) h18'.1 h18'.2
          have e4 := e.can nC nS ⟨sc1, sc2⟩ h18 hSb hCb
          obtain ⟨sk2, rc2⟩ := sk.fr (r2 := caR c r1) (fun j hj => ca_j (by omega))
          have gcv : ∃ v, G_cancels c r1 = some (v, caR c r1) := by
            rw [gcan]
            unfold caR
            split
            · exact ⟨1, rfl⟩
            · exact ⟨0, rfl⟩
          obtain ⟨v, gcv⟩ := gcv
          refine nxt S' (fun i => C' i ∨ i = c) (caR c r1) ?_ ?_ e4 sk2 (by rw [rc2, ca_j (by omega)]; exact Int.le_refl _)
          · rw [G_closesOne_56, e32, if_f (by omega), e33, if_f cm, run, cag_e, if_f (by decide), e34, if_t c1, gcv, cag_e]
            repeat rw [chk_t (by omega)]
          · obtain ⟨h1, h2, h3, h4, h5⟩ := q
            refine ⟨⟨h1.1, fun i hi => Or.inl (h1.2 i hi)⟩, h2, ⟨fun i hi => ?_, fun i hi ei => ?_⟩, fun i di ei => ?_, fun i di ei => ?_⟩
            · rcases hi with hi | hi
              · exact h3.1 i hi
              · rw [hi]; exact ⟨f, Pf, dC⟩
            · rcases hi with hi | hi
              · have := h3.2 i hi ei; omega
              · rw [hi]; omega
            · by_cases gl : r 11 i = l
              · have := who i di.1 gl
                rw [← this] at di
                have := di.2
                omega
              · exact h4 i di (by omega)
            · by_cases gl : r 11 i = l
              · exact Or.inr (who i di.1 gl).symm
              · exact Or.inl (h5 i di (by omega))
        · by_cases c2 : fate r c = 2
          · have dS : DsS r f c := ⟨lv, c2⟩
            have stc : Stw r w c := by
              rcases hf with hf | hf
              · rw [hf] at dS; exact Stw.base dS
              · exact hf.step dS
            have e4 := e.stop (w := c) ⟨sc1, sc2⟩ hSb
            obtain ⟨ra, hra⟩ : ∃ ra, ra = ur (ur r1 17 (rw9 r c) 24) 15 c (-1) := ⟨_, rfl⟩
            rw [← hra] at e4
            have a81 : ra 81 = r1 81 := by rw [hra, ur_ne (by omega), ur_ne (by omega)]
            have a82 : ra 82 = r1 82 := by rw [hra, ur_ne (by omega), ur_ne (by omega)]
            have a17 : ra 17 (rw9 r c) = 24 ∧ ∀ i, i ≠ rw9 r c → ra 17 i = r1 17 i := by
              rw [hra]
              exact ⟨by rw [ur_n (by omega), ur_e rfl rfl], fun i hi => by rw [ur_n (by omega), ur_n (by omega)]⟩
            obtain ⟨rb, hrb⟩ : ∃ rb, rb = ur (ur ra 81 (r1 82 0) c) 82 0 (r1 82 0 + 1) := ⟨_, rfl⟩
            have e5 : Eff (acts r P) (tims r P) (fun i => S' i ∨ i = c) C' r rb := e4.st fun j a b => by rw [hrb, ur_ne b, ur_ne a]
            have b82 : rb 82 0 = r1 82 0 + 1 := by rw [hrb, ur_e rfl rfl]
            have b81 : rb 81 (r1 82 0) = c ∧ ∀ i, i ≠ r1 82 0 → rb 81 i = r1 81 i := by
              rw [hrb]
              exact ⟨by rw [ur_n (by omega), ur_e rfl rfl], fun i hi => by rw [ur_n (by omega), ur_n (by omega), a81]⟩
            have b17 : rb 17 = ra 17 := by rw [hrb, ur_ne (by omega), ur_ne (by omega)]
            have rc : rcnt r rb + 1 = rcnt r r1 := by
              unfold rcnt
              rw [b17]
              refine cnt_dec (c0 := c) (by omega) ?_ ?_ _ (fun i i0 i1 ic => ?_) (by omega)
              · show decide (r1 17 (rw9 r c) = 20) = true
                rw [c17]; rfl
              · show decide (ra 17 (rw9 r c) = 20) = false
                rw [a17.1]; rfl
              · have si := g.2.2 i i0 (by omega)
                exact a17.2 _ fun hh => ic (rw_inj ⟨si.1, si.2.1⟩ ⟨sc1, sc2⟩ hh)
            obtain ⟨k1, k2, k3, k4, k5⟩ := sk
            have cr := cntP_0 (p := fun x => decide (x = 20)) (f := fun c => rb 17 (rw9 r c)) (n := (r 16 0).toNat)
            have cr2 : 0 ≤ rcnt r rb := cr
            refine nxt (fun i => S' i ∨ i = c) C' rb ?_ ?_ e5 ⟨by omega, fun i i0 i1 => ?_, fun i j i0 ij j1 => ?_, fun i hi => ?_, by omega⟩ (by omega)
            · rw [G_closesOne_56, e32, if_f (by omega), e33, if_f cm, run, cag_e, if_f (by decide), e34, if_f c1]
              unfold G_closesOne_116
              rw [if_f cm, run, cag_e, if_f (by decide), e34, if_t c2]
              have e12 : r1 12 c = r 12 c := by rw [e.1 12 (by omega)]
              rw [g_rowOfRun (by omega) (by omega) (by rw [e12]; omega) (by rw [e12]; exact sc2), cag_e, (e.rw c).1]
              have ec9 : rw9 r c = 9 * c + r 12 c - 1 := rfl
              repeat rw [chk_t (by omega)]
              rw [stg_e, chk_t (by omega), stg_e, ← hra, a82]
              repeat rw [chk_t (by omega)]
              rw [stg_e]
              have q82 : ur ra 81 (r1 82 0) c 82 0 = r1 82 0 := by rw [ur_n (by omega), a82]
              rw [q82, chk_t (by omega), stg_e, ← hrb]
              repeat rw [chk_t (by omega)]
            · obtain ⟨h1, h2, h3, h4, h5⟩ := q
              refine ⟨⟨fun i hi => Or.inl (h1.1 i hi), h1.2⟩, fun i hi => ?_, ⟨h3.1, fun i hi ei => by have := h3.2 i hi ei; omega⟩, fun i di ei => ?_, fun i di ei => ?_⟩
              · rcases hi with hi | hi
                · exact h2 i hi
                · rw [hi]; exact stc
              · by_cases gl : r 11 i = l
                · exact Or.inr (who i di.1 gl).symm
                · exact Or.inl (h4 i di (by omega))
              · by_cases gl : r 11 i = l
                · have := who i di.1 gl
                  rw [← this] at di
                  have := di.2
                  omega
                · exact h5 i di (by omega)
            · rw [b82] at i1
              by_cases ie : i = r1 82 0
              · rw [ie, b81.1]; exact ⟨Or.inr rfl, iP⟩
              · rw [b81.2 i ie]
                have := k2 i i0 (by omega)
                exact ⟨Or.inl this.1, this.2⟩
            · rw [b82] at j1
              rw [b81.2 i (by omega)]
              by_cases je : j = r1 82 0
              · rw [je, b81.1]
                intro hh
                have := (k2 i i0 (by omega)).1
                rw [hh] at this
                exact nS this
              · rw [b81.2 j je]
                exact k3 i j i0 ij (by omega)
            · rw [b82]
              rcases hi with hi | hi
              · rcases k4 i hi with hp | ⟨j, j0, j1, j2⟩
                · exact Or.inl hp
                · exact Or.inr ⟨j, j0, by omega, by rw [b81.2 j (by omega)]; exact j2⟩
              · exact Or.inr ⟨r1 82 0, k1, by omega, by rw [hi]; exact b81.1⟩
          · refine nxt S' C' r1 ?_ (q.skip (fun i di ec => ?_) (fun i di ec => ?_)) e sk (Int.le_refl _)
            · rw [G_closesOne_56, e32, if_f (by omega), e33, if_f cm, run, cag_e, if_f (by decide), e34, if_f c1]
              unfold G_closesOne_116
              rw [if_f cm, run, cag_e, if_f (by decide), e34, if_f c2]
              repeat rw [chk_t (by omega)]
            · have := who i di.1 ec
              rw [← this] at di
              exact absurd di.2 c2
            · have := who i di.1 ec
              rw [← this] at di
              exact absurd di.2 c1
      · have st : Lv r f c → S' c := fun lv => by
          by_cases cS : S' c
          · exact cS
          · have e17 : r1 17 (rw9 r c) = r 17 (rw9 r c) := e.2.2.2.2.2.1.2 _ fun c2 hc2 hr => cS (by rw [rw_inj ⟨sc1, sc2⟩ (hSb c2 hc2) hr]; exact hc2)
            exact absurd lv.2.2.2.2 (by rw [← e17]; exact c17)
        rw [if_f c17] at run
        refine nxt S' C' r1 ?_ (q.skip (fun i di ec => ?_) (fun i di ec => ?_)) e sk (Int.le_refl _)
        · rw [G_closesOne_56, e32, if_f (by omega), e33, if_f cm, run, cag_e, if_t rfl]
          unfold G_closesOne_116
          rw [if_f cm, run, cag_e, if_t rfl]
          repeat rw [chk_t (by omega)]
        · have := who i di.1 ec
          rw [← this] at di ⊢
          exact st di.1
        · have := who i di.1 ec
          rw [← this] at di
          obtain ⟨p, d, _⟩ := (q.2.1 c (st di.1)).is gc
          have := d.2
          have := di.2
          omega
end ET2
