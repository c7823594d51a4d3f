/-! a decide as a whole, for p35; what is found anew behind it -/
/-- nothing of a play is left -/
def zr (r : Rst) : Rst := fun j i => if j < 40 then r j i else 0
theorem zr_lo {r : Rst} {j : Nat} (h : j < 40) : zr r j = r j := by
  funext i
  unfold zr
  rw [if_t h]
theorem zr_hi {r : Rst} {j : Nat} (h : 40 ≤ j) : zr r j = fun _ => 0 := by
  funext i
  unfold zr
  rw [if_f (by omega)]
theorem GI.fz {N : Int} {r r' : Rst} (h : GI N r) (e : ∀ j : Nat, 1 ≤ j → j < 40 → r' j = r j) (fb : Fb r') (pt : Pt r') : GI N r' := by
  obtain ⟨a1, a2, -, a4, a5, a6, a7, a8, a9⟩ := h
  have k : (0 ≤ r' 16 0 ∧ r' 16 0 ≤ 10) ∧ GP r' ∧ GW r' ∧ GU r' ∧ (∀ w, 0 ≤ w → w < r' 16 0 → HI r' w) ∧ GC r' ∧ GK r' ∧ GN N r' := by
    have h : (0 ≤ r 16 0 ∧ r 16 0 ≤ 10) ∧ GP r ∧ GW r ∧ GU r ∧ (∀ w, 0 ≤ w → w < r 16 0 → HI r w) ∧ GC r ∧ GK r ∧ GN N r := ⟨a1, a2, a4, a5, a6, a7, a8, a9⟩
    clear a1 a2 a4 a5 a6 a7 a8 a9 fb pt
    unfold GP StC PgR GW GU HI hk rw9 GC GK GN at *
    simp (disch := omega) only [ur_ne] at h ⊢
    rw [e 1 (by omega) (by omega), e 2 (by omega) (by omega), e 3 (by omega) (by omega), e 4 (by omega) (by omega), e 5 (by omega) (by omega), e 6 (by omega) (by omega), e 7 (by omega) (by omega), e 8 (by omega) (by omega), e 9 (by omega) (by omega), e 10 (by omega) (by omega), e 11 (by omega) (by omega), e 12 (by omega) (by omega), e 13 (by omega) (by omega), e 16 (by omega) (by omega), e 17 (by omega) (by omega), e 18 (by omega) (by omega), e 19 (by omega) (by omega), e 20 (by omega) (by omega), e 21 (by omega) (by omega), e 22 (by omega) (by omega), e 23 (by omega) (by omega), e 25 (by omega) (by omega), e 26 (by omega) (by omega), e 27 (by omega) (by omega), e 29 (by omega) (by omega), e 30 (by omega) (by omega), e 32 (by omega) (by omega), e 33 (by omega) (by omega), e 36 (by omega) (by omega), e 37 (by omega) (by omega), e 38 (by omega) (by omega), e 39 (by omega) (by omega)]
    simp only [ur_e] at h ⊢
    exact h
  exact ⟨k.1, k.2.1, ⟨fb, pt⟩, k.2.2⟩
section DOU
variable {r r' r0 r1 r2 ra z A S : Rst} {B E n w ver v N rn : Int} {m : Mem}
theorem RelC.toZ (h : RelC N r m) : RelC N (zr r) m := by
  have g := h.2.2.rg
  have f : ∀ j : Nat, j < 40 → zr r j = r j := fun j hj => zr_lo hj
  refine ⟨h.1.fr g h.1.2.1 (fun _ _ => rfl) fun j _ hj => f j hj, fun w a b => ?_, h.2.2.fz (fun j _ hj => f j hj) ?_ ?_⟩
  · have e16 : zr r 16 = r 16 := zr_lo (by omega)
    have e12 : zr r 12 = r 12 := zr_lo (by omega)
    have e18 : zr r 18 = r 18 := zr_lo (by omega)
    have e19 : zr r 19 = r 19 := zr_lo (by omega)
    rw [e16] at b
    unfold CaW hk rw9 Rl
    rw [e12, e18, e19]
    exact h.2.1 w a b
  · unfold Fb
    rw [zr_hi (by omega), zr_hi (by omega), zr_hi (by omega), zr_hi (by omega)]
    have nb : (-100000 : Int) ≤ 0 ∧ (0 : Int) ≤ 100000 := ⟨by decide, by decide⟩
    exact ⟨fun _ => nb, fun _ => nb, fun _ => Or.inl rfl, fun _ => Or.inl rfl⟩
  · unfold Pt
    rw [zr_hi (by omega), zr_hi (by omega)]
    exact ⟨by decide, by decide, by decide⟩
end DOU
section DOV
variable {r r' r0 r1 r2 ra z A S : Rst} {B E n w ver v N rn : Int} {m : Mem}
/-- how a decide went on, once it was played: what was decided is written and done, or there was no room for it -/
def Wt (w ver : Int) (A ra : Rst) (n : Int) : Prop := (∀ j : Nat, 1 ≤ j → j < 40 → j ≠ 14 → j ≠ 15 → ra j = A j) ∧ (ra 42 0 = 2 → OV ra) ∧ 0 ≤ n ∧ ra 76 0 = n ∧ A 18 (rw9 A w) + 1 + n ≤ 80 ∧ (∀ k, 0 ≤ k → k < n → 8 ≤ ra 72 k ∧ ra 72 k ≤ 16 ∧ (ra 72 k = 16 → k = n - 1 ∧ ra 42 0 = 2)) ∧ (ra 42 0 = 2 → Sov (ra 49 0)) ∧ ((ra 42 0 = 2 ∧ ra 49 0 = 22 ∧ ra 50 0 = 8 ∧ n = 1) ∨ ∃ v r1 u r2, G_plays w ver (ur A 0 0 0) = some (v, r1) ∧ v ≠ -1 ∧ G_takesAll v (80 * rw9 A w + A 18 (rw9 A w)) (ur r1 80 0 1) = some (u, r2) ∧ r2 76 0 = n ∧ (∀ j : Nat, 72 ≤ j → j ≤ 74 → r2 j = ra j) ∧ ra 14 w = r2 41 0)
theorem dec_go150 (hp : Px nob nob nob A) (gi : GI N A) (w0 : 0 ≤ w) (w1 : w < A 16 0) (hr : A 17 (rw9 A w) = 20) (hdue : hk A w (A 18 (rw9 A w) - 1) < 7) (dp : Dp w (ur A 0 0 0) r2) {s0 : Int} (hs : s0 = 80 ∨ s0 = 77) (e : G_decide_150 w ver s0 (A 18 (rw9 A w) + 1 + r2 76 0) r2 = some (v, r')) : ∃ ra, (∀ j : Nat, 1 ≤ j → j < 40 → j ≠ 14 → j ≠ 15 → ra j = A j) ∧ (ra 42 0 = 2 → OV ra) ∧ 0 ≤ ra 76 0 ∧ A 18 (rw9 A w) + 1 + ra 76 0 ≤ 80 ∧ (∀ k, 0 ≤ k → k < ra 76 0 → 8 ≤ ra 72 k ∧ ra 72 k ≤ 16 ∧ (ra 72 k = 16 → k = ra 76 0 - 1 ∧ ra 42 0 = 2)) ∧ (ra 42 0 = 2 → Sov (ra 49 0)) ∧ ((ra 42 0 = 2 ∧ ra 49 0 = 22 ∧ ra 50 0 = 8 ∧ ra 76 0 = 1) ∨ (r2 76 0 = ra 76 0 ∧ (∀ j : Nat, 72 ≤ j → j ≤ 74 → r2 j = ra j) ∧ ra 14 w = r2 41 0)) ∧ ra 0 0 = 0 ∧ v = ra 76 0 ∧ Px nob nob nob r' ∧ Dd w ver (rw9 A w) (A 18 (rw9 A w)) (ra 76 0) ra r' := by
  have f9 := fuel9_ge
  have bb := hp.bb w0 w1
  have er : rw9 A w = 9 * w + A 12 w - 1 := rfl
  obtain ⟨d1, d2, d3, d4, d5, d6⟩ := dp
  have lo : ∀ j : Nat, 1 ≤ j → j < 40 → r2 j = A j := fun j a b => by rw [d1 j b, ur_ne (by omega)]
  have hi := gi.hi w0 w1
  have i5 := hi.2.2.2.2.1 (A 18 (rw9 A w) - 1) (by omega) (by omega) hdue
  have hcnt := hi.2.2.2.2.2.2.2.2.2.2.2.2
  rw [ur_ne (show (22 : Nat) ≠ 0 by decide), ur_ne (show (30 : Nat) ≠ 0 by decide), ur_ne (show (12 : Nat) ≠ 0 by decide)] at d5
  -- the run's own numbers
  have core : ∀ (ra : Rst) (x p : Int), (∀ j : Nat, 1 ≤ j → j < 40 → j ≠ 14 → j ≠ 15 → ra j = A j) → (∀ i, i ≠ w → ra 14 i = A 14 i ∧ ra 15 i = A 15 i) → ra 14 w = x → B3 x → ra 15 w = p → p < 12 → 0 ≤ ra 76 0 → A 18 (rw9 A w) + 1 + ra 76 0 ≤ 80 → (∀ k, 0 ≤ k → k < ra 76 0 → Kd (A 22 w) (A 30 w) (ra 72) (ra 73) (ra 76 0) (ra 42 0) (A 12 w) k) → (ra 42 0 = 2 → OV ra ∧ Sov (ra 49 0) ∧ ra 15 w = -1 ∧ (ra 49 0 = 14 → A 12 w ≤ 8) ∧ B3 (ra 50 0)) → (∀ k, B3 (ra 66 k)) → (∀ k, 0 ≤ k → k < ra 76 0 → B3 (ra 75 k)) → (cag (G_writes w 7 ver 0 ra) fun _ r6 => G_decide_224 G_decide_265 fuel9 w 0 r6) = some (v, r') → v = ra 76 0 ∧ Px nob nob nob r' ∧ Dd w ver (rw9 A w) (A 18 (rw9 A w)) (ra 76 0) ra r' := by
    intro ra x p a1 a2 a3 a4 a5 a6 a7 a8 a9 a10 a11 a12 ee
    have e9 : rw9 ra w = rw9 A w := rw9_e (a1 12 (by omega) (by omega) (by omega) (by omega))
    have pa : Px nob nob nob ra := by
      refine hp.one (w := w) w0 w1 (by rw [a1 16 (by omega) (by omega) (by omega) (by omega)]) (fun c _ => by rw [a1 12 (by omega) (by omega) (by omega) (by omega)]) (fun i _ => by rw [a1 18 (by omega) (by omega) (by omega) (by omega)]) (fun c c0 c1 c2 j i hj => ?_) (Or.inl ⟨by rw [a1 12 (by omega) (by omega) (by omega) (by omega)], by rw [a1 32 (by omega) (by omega) (by omega) (by omega)]; omega⟩) (fun k b c => ?_) (hp.2.2.2.2.fr (a1 39 (by omega) (by omega) (by omega) (by omega))) ?_ fun _ _ => ⟨id, id, id⟩
      · by_cases j14 : j = 14
        · subst j14; exact (a2 i (by unfold Own at hj; omega)).1
        · by_cases j15 : j = 15
          · subst j15; exact (a2 i (by unfold Own at hj; omega)).2
          · have := hj.j
            rw [a1 j (by omega) (by omega) j14 j15]
      · rw [a1 12 (by omega) (by omega) (by omega) (by omega)] at b
        rw [a1 18 (by omega) (by omega) (by omega) (by omega)]
        exact hp.2.2.2.1 w k w0 bb.1 b c
      · obtain ⟨q1, q2, q3, q4, q5, q6, q7, q8, q9⟩ := hp.pw w0 w1
        unfold Pw Hr Sr Ct3 rwf
        rw [e9, a3, a5, a1 9 (by omega) (by omega) (by omega) (by omega), a1 10 (by omega) (by omega) (by omega) (by omega), a1 11 (by omega) (by omega) (by omega) (by omega), a1 12 (by omega) (by omega) (by omega) (by omega), a1 16 (by omega) (by omega) (by omega) (by omega), a1 17 (by omega) (by omega) (by omega) (by omega), a1 18 (by omega) (by omega) (by omega) (by omega), a1 19 (by omega) (by omega) (by omega) (by omega), a1 20 (by omega) (by omega) (by omega) (by omega), a1 21 (by omega) (by omega) (by omega) (by omega), a1 22 (by omega) (by omega) (by omega) (by omega), a1 23 (by omega) (by omega) (by omega) (by omega), a1 30 (by omega) (by omega) (by omega) (by omega), a1 32 (by omega) (by omega) (by omega) (by omega), a1 33 (by omega) (by omega) (by omega) (by omega)]
        refine ⟨q1, q2, q3, q4, q5, ⟨a4, a6, fun h => absurd hr h⟩, q7, q8, q9⟩
    have dc := dec_core (rn := A 12 w) (E := A 18 (rw9 A w)) (n := ra 76 0) pa w0 (by rw [a1 16 (by omega) (by omega) (by omega) (by omega)]; exact w1) (by rw [e9, a1 17 (by omega) (by omega) (by omega) (by omega)]; exact hr) (by rw [e9, a1 18 (by omega) (by omega) (by omega) (by omega)]) a7 rfl a8 (by
      unfold rwf
      rw [e9, a1 19 (by omega) (by omega) (by omega) (by omega), a1 22 (by omega) (by omega) (by omega) (by omega), a1 30 (by omega) (by omega) (by omega) (by omega), a1 32 (by omega) (by omega) (by omega) (by omega)]
      exact hcnt) (fun k k0 k1 => by
      rw [a1 22 (by omega) (by omega) (by omega) (by omega), a1 30 (by omega) (by omega) (by omega) (by omega)]
      exact a9 k k0 k1) (fun c => by
      rw [a1 12 (by omega) (by omega) (by omega) (by omega)]
      exact a10 c) a11 a12 ee
    rw [e9] at dc
    exact dc
  unfold G_decide_150 at e
  rcases ite_some e with ⟨fit, e⟩ | ⟨fit, e⟩
  · obtain ⟨p, hp9⟩ : ∃ p, p = if r2 42 0 = 0 then r2 40 0 else -1 := ⟨_, rfl⟩
    have gg : G_decide_158 w ver 0 r2 = (cag (G_writes w 7 ver 0 (ur (ur r2 14 w (r2 41 0)) 15 w p)) fun _ r6 => G_decide_224 G_decide_265 fuel9 w 0 r6) := by
      have q42 : ur r2 14 w (r2 41 0) 42 0 = r2 42 0 := ur_n (by omega)
      have q40 : ur r2 14 w (r2 41 0) 40 0 = r2 40 0 := ur_n (by omega)
      unfold G_decide_158 G_decide_191 G_decide_211
      rw [if_t rfl, chk_t (by omega), stg_e, q42, q40]
      by_cases c : r2 42 0 = 0
      · rw [if_t c] at hp9 ⊢
        rw [chk_t (by omega), stg_e, ← hp9]
      · rw [if_f c] at hp9 ⊢
        rw [chk_t (by omega), stg_e, ← hp9]
    rw [gg] at e
    have aj : ∀ j : Nat, j ≠ 14 → j ≠ 15 → ur (ur r2 14 w (r2 41 0)) 15 w p j = r2 j := fun j a b => by rw [ur_ne b, ur_ne a]
    have a14 : ur (ur r2 14 w (r2 41 0)) 15 w p 14 w = r2 41 0 := by rw [ur_n (by omega), ur_e rfl rfl]
    have a15 : ur (ur r2 14 w (r2 41 0)) 15 w p 15 w = p := ur_e rfl rfl
    have ao : ∀ i, i ≠ w → ur (ur r2 14 w (r2 41 0)) 15 w p 14 i = A 14 i ∧ ur (ur r2 14 w (r2 41 0)) 15 w p 15 i = A 15 i := fun i hi => by
      rw [ur_n (by omega), ur_n (by omega), ur_n (by omega), ur_n (by omega), lo 14 (by omega) (by omega), lo 15 (by omega) (by omega)]
      exact ⟨rfl, rfl⟩
    generalize ur (ur r2 14 w (r2 41 0)) 15 w p = ra at *
    obtain ⟨b1, b2, b3, b4, b5, b6, b7⟩ := d3
    have e76 : ra 76 0 = r2 76 0 := by rw [aj 76 (by omega) (by omega)]
    have e42 : ra 42 0 = r2 42 0 := by rw [aj 42 (by omega) (by omega)]
    have p12 : p < 12 := by
      rw [hp9]
      by_cases c : r2 42 0 = 0
      · rw [if_t c]; exact d4 c
      · rw [if_f c]; decide
    have hov : ra 42 0 = 2 → OV ra := fun c => by
      have := d6 (by omega)
      unfold OV at *
      rw [aj 72 (by omega) (by omega), aj 73 (by omega) (by omega), aj 74 (by omega) (by omega), aj 76 (by omega) (by omega), aj 49 (by omega) (by omega), aj 50 (by omega) (by omega)]
      exact this
    have hsv : ra 42 0 = 2 → Sov (ra 49 0) := fun c => by
      rw [aj 49 (by omega) (by omega)]
      exact (b5 (by omega)).1
    have hkd : ∀ k, 0 ≤ k → k < ra 76 0 → Kd (A 22 w) (A 30 w) (ra 72) (ra 73) (ra 76 0) (ra 42 0) (A 12 w) k := fun k k0 k1 => by
      rw [aj 72 (by omega) (by omega), aj 73 (by omega) (by omega), e76, e42]
      exact d5 k k0 (by omega)
    refine ⟨ra, fun j a b c d => by rw [aj j c d, lo j a b], hov, by omega, by omega, fun k k0 k1 => ?_, hsv, Or.inr ⟨e76.symm, fun j a b => (aj j (by omega) (by omega)).symm, a14⟩, by rw [aj 0 (by omega) (by omega), d1 0 (by omega)]; exact ur_e rfl rfl, core ra (r2 41 0) p (fun j a b c d => by rw [aj j c d, lo j a b]) ao a14 b1 a15 p12 (by omega) (by omega) hkd (fun c => ⟨hov c, hsv c, ?_, fun h14 => ?_, by rw [aj 50 (by omega) (by omega)]; exact (b5 (by omega)).2⟩) (fun k => by rw [aj 66 (by omega) (by omega)]; exact b3 k) (fun k k0 k1 => by rw [aj 75 (by omega) (by omega)]; exact b6 k k0 (by omega)) e⟩
    · obtain ⟨k1, k2, k3, k4, k5, k6, k7⟩ := hkd k k0 k1
      exact ⟨k1.1, k1.2, fun h => ⟨(k7 h).1, (k7 h).2.1⟩⟩
    · rw [a15, hp9, if_f (by omega)]
    · obtain ⟨o1, o2, o3, o4⟩ := hov c
      have := (hkd (ra 76 0 - 1) (by omega) (by omega)).2.2.2.2.2.2 o2
      have := this.2.2.1 (by rw [o3]; exact h14)
      omega
  · have y76 : ur (ur (ur (ur r2 76 0 0) 42 0 2) 49 0 22) 50 0 8 76 0 = 0 := by rw [ur_n (by omega), ur_n (by omega), ur_n (by omega), ur_e rfl rfl]
    obtain ⟨re, hre⟩ : ∃ re, re = gdec 16 22 8 (ur (ur (ur (ur r2 76 0 0) 42 0 2) 49 0 22) 50 0 8) := ⟨_, rfl⟩
    have ends : G_ends 22 8 (ur r2 76 0 0) = some (0, re) := by
      unfold G_ends G_ends_0
      rw [stg_e, stg_e, stg_e, gdec_ok (by rw [y76]; omega) (by rw [y76]; omega), cag_e, ← hre]
    have ej : ∀ j : Nat, j ≠ 42 → j ≠ 49 → j ≠ 50 → j < 72 ∨ 76 < j → re j = r2 j := fun j b1 b2 b3 b4 => by
      rw [hre, gdec_n b4, ur_ne b3, ur_ne b2, ur_ne b1, ur_ne (by omega)]
    have e42 : re 42 0 = 2 := by
      rw [hre, gdec_n (by omega)]
      simp (disch := omega) only [ur_n, ur_e]
    have e49 : re 49 0 = 22 := by
      rw [hre, gdec_n (by omega)]
      simp (disch := omega) only [ur_n, ur_e]
    have e50 : re 50 0 = 8 := by
      rw [hre, gdec_n (by omega), ur_e rfl rfl]
    have e76 : re 76 0 = 1 := by rw [hre, gdec_76, y76]; rfl
    have ev := gdec_v (k := 16) (x := 22) (y := 8) (a := 0) (r := ur (ur (ur (ur r2 76 0 0) 42 0 2) 49 0 22) 50 0 8)
    rw [y76, if_t rfl, if_t rfl, if_t rfl, ← hre] at ev
    have v75 : B3 (re 75 0) := by
      have : VB0 re := by
        rw [hre]
        refine VB0.dec ?_
        obtain ⟨b1, b2, b3, b4, b5, b6, b7⟩ := d3
        unfold VB0
        simp (disch := omega) only [ur_ne, ur_n, ur_e]
        exact ⟨b1, b2, b3, fun h => by omega, fun _ => ⟨by unfold Sov; omega, by decide, by decide⟩, fun k k0 k1 => by omega, b7⟩
      exact this.2.2.2.2.2.1 0 (by omega) (by omega)
    have gg : G_decide_158 w ver 1 r2 = (cag (G_writes w 7 ver 0 (ur re 15 w (-1))) fun _ r6 => G_decide_224 G_decide_265 fuel9 w 0 r6) := by
      unfold G_decide_158 G_decide_191 G_decide_211
      rw [if_f (by decide), stg_e, ends, cag_e, e42, if_f (by decide), chk_t (by omega), stg_e]
    rw [gg] at e
    have aj : ∀ j : Nat, j ≠ 15 → ur re 15 w (-1) j = re j := fun j a => ur_ne a
    have a15 : ur re 15 w (-1) 15 w = -1 := ur_e rfl rfl
    have a15n : ∀ i, i ≠ w → ur re 15 w (-1) 15 i = re 15 i := fun i hi => ur_n (by omega)
    generalize ur re 15 w (-1) = ra at *
    have lo2 : ∀ j : Nat, 1 ≤ j → j < 40 → re j = A j := fun j a b => by rw [ej j (by omega) (by omega) (by omega) (by omega), lo j a b]
    have f76 : ra 76 0 = 1 := by rw [aj 76 (by omega)]; exact e76
    have f42 : ra 42 0 = 2 := by rw [aj 42 (by omega)]; exact e42
    have f49 : ra 49 0 = 22 := by rw [aj 49 (by omega)]; exact e49
    have f50 : ra 50 0 = 8 := by rw [aj 50 (by omega)]; exact e50
    have f72 : ra 72 0 = 16 ∧ ra 73 0 = 22 ∧ ra 74 0 = 8 := by rw [aj 72 (by omega), aj 73 (by omega), aj 74 (by omega)]; exact ⟨ev.1, ev.2.1, ev.2.2⟩
    have hov : OV ra := by
      unfold OV
      rw [f76]
      exact ⟨by decide, f72.1, by rw [f49]; exact f72.2.1, by rw [f50]; exact f72.2.2⟩
    have hsv : Sov (ra 49 0) := by unfold Sov; omega
    have x14 := ((hp.pw w0 w1).2.2.2.2.2.1).1
    refine ⟨ra, fun j a b c d => by rw [aj j d, lo2 j a b], fun _ => hov, by omega, by omega, fun k k0 k1 => ?_, fun _ => hsv, Or.inl ⟨f42, f49, f50, f76⟩, by rw [aj 0 (by omega), ej 0 (by omega) (by omega) (by omega) (by omega), d1 0 (by omega)]; exact ur_e rfl rfl, core ra (A 14 w) (-1) (fun j a b c d => by rw [aj j d, lo2 j a b]) (fun i hi => ⟨by rw [aj 14 (by omega), lo2 14 (by omega) (by omega)], by rw [a15n i hi, lo2 15 (by omega) (by omega)]⟩) (by rw [aj 14 (by omega), lo2 14 (by omega) (by omega)]) x14 a15 (by decide) (by omega) (by omega) (fun k k0 k1 => ?_) (fun _ => ⟨hov, hsv, a15, fun h => by omega, by rw [f50]; exact ⟨by decide, by decide⟩⟩) (fun k => by rw [aj 66 (by omega), ej 66 (by omega) (by omega) (by omega) (by omega)]; exact d3.2.2.1 k) (fun k k0 k1 => by rw [show k = 0 by omega, aj 75 (by omega)]; exact v75) e⟩
    · rw [show k = 0 by omega, f72.1]; omega
    · rw [show k = 0 by omega]
      unfold Kd
      rw [f72.1, f72.2.1, f76, f42]
      refine ⟨by omega, fun h => by omega, fun h => by omega, fun h => by omega, fun h => by omega, fun h => by omega, fun _ => by omega⟩
end DOV
