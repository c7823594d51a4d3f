/-! a decide's answers, and what registerAnew answers behind it -/
/-- a play touches nothing of what stands -/
theorem p58_lo {H : Int} : ∀ (n : Nat) (l5 l6 v : Int) (r r' : Rst), G_plays_58 n H l5 l6 r = some (v, r') → ∀ j : Nat, j < 40 → r' j = r j := by
  intro n
  induction n with
  | zero => intro l5 l6 v r r' e; cases e
  | succ n ih =>
    intro l5 l6 v r r' e j hj
    rw [G_plays_58] at e
    rcases ite_some e with ⟨_, e⟩ | ⟨_, e⟩
    · cases e; rfl
    rcases ite_some (chk_some e).2 with ⟨_, e⟩ | ⟨_, e⟩
    · have e := stg_some (chk_some e).2
      obtain ⟨v1, r1, e1, e⟩ := cag_some e
      obtain ⟨rfl, -, -⟩ := end_inv e1
      have e := stg_some e
      obtain ⟨v2, r2, e2, e⟩ := cag_some e
      obtain ⟨v3, r3, e3, e4⟩ := cag_some e
      clear e
      obtain ⟨rfl, -⟩ := told_inv e3
      unfold G_takesAll G_takesAll_0 at e2
      have e2 := stg_some e2
      have m2 := (mg_takesAll7 _ _ _ _ v2 _ e2).2
      have f : r3 j = r j := by rw [m2 j (by omega), ur_ne (by omega), ur_ne (by omega), ur_ne (by omega)]
      rcases ite_some e4 with ⟨_, e⟩ | ⟨_, e⟩
      · cases e; exact f
      · rw [ih _ _ _ _ _ (chk_some e).2 j hj]; exact f
    · exact ih _ _ _ _ _ (chk_some e).2 j hj
section DAG
variable {r r' r0 r1 r2 ra z A S : Rst} {B E n w ver v N rn : Int} {m : Mem}
theorem Fz0.u (h : Fz0 r) {v : Int} : Fz0 (ur r 0 0 v) := fun j hj => by rw [ur_ne (by omega)]; exact h j hj
theorem dec_out (h : RelC N A m) (hp : Px nob nob nob A) (hz : Fz0 A) (w0 : 0 ≤ w) (w1 : w < A 16 0) (e : G_decide w ver A = some (v, r')) : r' = ur A 0 0 1 ∨ ((1 ≤ ver ∧ ver ≤ A 6 (A 7 w)) ∧ ((A 17 (rw9 A w) ≠ 20 ∧ r' = ur A 0 0 2) ∨ (A 17 (rw9 A w) = 20 ∧ ¬ hk A w (A 18 (rw9 A w) - 1) < 7 ∧ v = -1 ∧ r' = ur A 0 0 0) ∨ (A 17 (rw9 A w) = 20 ∧ hk A w (A 18 (rw9 A w) - 1) < 7 ∧ v = -2 ∧ r' 0 0 = 0 ∧ ∀ j : Nat, 1 ≤ j → j < 40 → r' j = A j) ∨ (A 17 (rw9 A w) = 20 ∧ hk A w (A 18 (rw9 A w) - 1) < 7 ∧ 0 ≤ v ∧ r' 0 0 = 0 ∧ Px nob nob nob r' ∧ ∃ ra, Wt w ver A ra v ∧ Dd w ver (rw9 A w) (A 18 (rw9 A w)) v ra r'))) := by
  have g := h.2.2.rg
  have b10 := g.1
  have gw := h.2.2.2.2.2.1 w w0 w1
  have g6 := g.2.1 (A 7 w) gw.1.1 gw.1.2
  have s := g.2.2 w w0 w1
  have s1 := s.1
  have s2 := s.2.1
  have er : rw9 A w = 9 * w + A 12 w - 1 := rfl
  unfold G_decide G_decide_0 at e
  rw [g_flow g, cag_e, if_t (show 0 ≤ w ∧ w ≤ A 16 0 - 1 by omega), if_f (by decide)] at e
  have e := (chk_some (chk_some e).2).2
  rw [g_isIn, cag_e] at e
  unfold G_decide_32 at e
  by_cases d : 1 ≤ ver ∧ ver ≤ A 6 (A 7 w)
  · rw [if_t d, if_f (show ¬ (1 : Int) = 0 by decide), if_f (show ¬ (1 : Int) = 0 by decide), g_isRunning w0 (by omega) s1 s2, cag_e] at e
    unfold G_decide_55 at e
    refine Or.inr ⟨d, ?_⟩
    by_cases e20 : A 17 (rw9 A w) = 20
    · rw [if_t e20, if_f (show ¬ (1 : Int) = 0 by decide), g_fine0, cag_e, if_f (show ¬ (1 : Int) = 0 by decide)] at e
      have hz0 := h.z0
      have e0 : ∀ j : Nat, j ≠ 0 → ur A 0 0 0 j = A j := fun j hj => ur_ne hj
      have e9 : rw9 (ur A 0 0 0) w = rw9 A w := rw9_e (e0 12 (by omega))
      have ek : hk (ur A 0 0 0) w = hk A w := by unfold hk; rw [e9, e0 19 (by omega)]
      have wz : w < ur A 0 0 0 16 0 := by rw [e0 16 (by omega)]; exact w1
      rw [g_due hz0.2.2 w0 wz, cag_e, e9, ek, e0 17 (by omega), e0 18 (by omega)] at e
      by_cases f : hk A w (A 18 (rw9 A w) - 1) < 7
      · rw [if_t (show A 17 (rw9 A w) = 20 ∧ hk A w (A 18 (rw9 A w) - 1) < 7 from ⟨e20, f⟩), if_f (show ¬ (1 : Int) = 0 by decide)] at e
        have p0 : Px nob nob nob (ur A 0 0 0) := hp.fr fun j hj => e0 j (by omega)
        obtain ⟨v1, r1, x1, x2, x3⟩ := dec_play (ver := ver) hz0 p0 hz.u w0 wz d.1 (by rw [e0 6 (by omega), e0 7 (by omega)]; exact d.2) (by rw [e9, e0 17 (by omega)]; exact e20) (by rw [ek, e9, e0 18 (by omega)]; exact f)
        rw [x1, cag_e] at e
        have r1j : ∀ j : Nat, 1 ≤ j → j < 40 → r1 j = A j := fun j a b => by rw [x2 j b, e0 j (by omega)]
        rcases x3 with rfl | ⟨vn, u, r2, y1, dp⟩
        · rw [if_t rfl] at e
          cases e
          exact Or.inr (Or.inr (Or.inl ⟨e20, f, rfl, by rw [x2 0 (by omega)]; exact ur_e rfl rfl, r1j⟩))
        · rw [if_f vn, g_rowOfRun w0 (by omega) (by rw [r1j 12 (by omega) (by omega)]; omega) (by rw [r1j 12 (by omega) (by omega)]; exact s2), cag_e] at e
          have e := stg_some e
          have e19 : rw9 r1 w = rw9 A w := rw9_e (r1j 12 (by omega) (by omega))
          have q18 : ur r1 80 0 1 18 (rw9 A w) = A 18 (rw9 A w) := by rw [ur_n (by omega), r1j 18 (by omega) (by omega)]
          rw [e19, q18] at e
          have e := (chk_some (chk_some (chk_some e).2).2).2
          rw [e9, e0 18 (by omega)] at y1
          rw [y1, cag_e] at e
          have r2j : ∀ j : Nat, 1 ≤ j → j < 40 → r2 j = A j := fun j a b => by rw [dp.1 j b, e0 j (by omega)]
          rw [r2j 18 (by omega) (by omega)] at e
          have e := (chk_some (chk_some (chk_some e).2).2).2
          have fin : ∀ s0 : Int, s0 = 80 ∨ s0 = 77 → G_decide_150 w ver s0 (A 18 (rw9 A w) + 1 + r2 76 0) r2 = some (v, r') → 0 ≤ v ∧ r' 0 0 = 0 ∧ Px nob nob nob r' ∧ ∃ ra, Wt w ver A ra v ∧ Dd w ver (rw9 A w) (A 18 (rw9 A w)) v ra r' := fun s0 hs ee => by
            obtain ⟨ra, a1, a2, a3, a4, a5, a6, a7, a0, rfl, a9, aa⟩ := dec_go150 hp h.2.2 w0 w1 e20 f dp hs ee
            have d0 := aa.2.2.2.2.2.2.2 0 (by omega)
            refine ⟨a3, by rw [d0]; exact a0, a9, ra, ⟨a1, a2, a3, rfl, a4, a5, a6, a7.imp_right fun b => ?_⟩, aa⟩
            exact ⟨v1, r1, u, r2, x1, vn, y1, b.1, b.2.1, b.2.2⟩
          rcases ite_some e with ⟨_, e⟩ | ⟨_, e⟩
          · exact Or.inr (Or.inr (Or.inr ⟨e20, f, fin 80 (Or.inl rfl) e⟩))
          · exact Or.inr (Or.inr (Or.inr ⟨e20, f, fin 77 (Or.inr rfl) e⟩))
      · rw [if_f (show ¬ (A 17 (rw9 A w) = 20 ∧ hk A w (A 18 (rw9 A w) - 1) < 7) from fun hh => f hh.2), if_t rfl] at e
        cases e
        exact Or.inr (Or.inl ⟨e20, f, rfl, rfl⟩)
    · rw [if_f e20, if_t rfl, g_fineE (by decide), cag_e, if_t rfl] at e
      cases e
      exact Or.inl ⟨e20, rfl⟩
  · unfold G_decide_55 at e
    rw [if_f d, if_t rfl, if_t rfl, g_fineE (by decide), cag_e, if_t rfl] at e
    cases e
    exact Or.inl rfl
theorem again_val (h : RelC N S m) (hA : GI N A) (fA : Fz0 A) (fS : Fz0 S) (w0 : 0 ≤ w) (w1 : w < A 16 0) (hv : 1 ≤ ver ∧ ver ≤ A 6 (A 7 w)) (wt : Wt w ver A ra n) (dd : Dd w ver (rw9 A w) (A 18 (rw9 A w)) n ra r') (hS : ∀ j : Nat, 1 ≤ j → j < 40 → S j = r' j) (e16 : w < S 16 0) (h14 : ra 42 0 = 2 → ra 49 0 ≠ 14) (h8 : ra 42 0 = 2 → ra 50 0 ≠ 8) : ∃ S', G_registerAnew w ver S = some (S 14 w, S') ∧ S' 0 0 = 0 ∧ ∀ j : Nat, 1 ≤ j → j < 40 → S' j = S j := by
  have f9 := fuel9_ge
  have g := hA.rg
  have b10 := g.1
  have gw := hA.2.2.2.1 w w0 w1
  have g6 := g.2.1 (A 7 w) gw.1.1 gw.1.2
  have s := g.2.2 w w0 w1
  have s1 := s.1
  have s2 := s.2.1
  have er : rw9 A w = 9 * w + A 12 w - 1 := rfl
  have gS := h.2.2.rg
  have bS := gS.1
  have lt := hA.lt w0 w1
  obtain ⟨d1, ⟨d2, d3⟩, d4, ⟨d5, d6⟩, d7, d8, d9, da⟩ := dd
  obtain ⟨t1, t2, t3, t4, t5, t6, t7, t8⟩ := wt
  have c12 : r' 12 w = A 12 w := by
    rw [← t1 12 (by omega) (by omega) (by omega) (by omega)]
    rcases d8 with ⟨c, _, _, c2, _⟩ | ⟨_, _, c2, _⟩
    · rw [c2, if_f (h14 c)]; omega
    · exact c2
  have c14 : r' 14 w = ra 14 w := by
    rcases d8 with ⟨c, _, _, _, c2⟩ | ⟨_, _, _, c2⟩
    · exact c2 (h14 c)
    · exact c2
  have c7 : r' 7 w = A 7 w := by rw [d9, t1 7 (by omega) (by omega) (by omega) (by omega)]
  have clo : ∀ j : Nat, 1 ≤ j → j < 7 → S j = A j := fun j a b => by rw [hS j a (by omega), da j b, t1 j a (by omega) (by omega) (by omega)]
  rcases t8 with ⟨c1, c2, c3, c4⟩ | ⟨v1, r1, u, r2, x1, x2, x3, x4, x5, x6⟩
  · exact absurd c3 (h8 c1)
  have S12 : S 12 w = A 12 w := by rw [hS 12 (by omega) (by omega), c12]
  have S7 : S 7 w = A 7 w := by rw [hS 7 (by omega) (by omega), c7]
  have eS : rw9 S w = rw9 A w := by unfold rw9; rw [S12]
  have u0 : ∀ j : Nat, j ≠ 0 → ur A 0 0 0 j = A j := fun j hj => ur_ne hj
  have s0 : ∀ j : Nat, j ≠ 0 → ur S 0 0 0 j = S j := fun j hj => ur_ne hj
  have eA0 : rw9 (ur A 0 0 0) w = rw9 A w := rw9_e (u0 12 (by omega))
  have S18 : S 18 (rw9 A w) = r' 18 (rw9 A w) := by rw [hS 18 (by omega) (by omega)]
  obtain ⟨v', S', y1, y2, y3⟩ := g_again (A := ur A 0 0 0) (S := ur S 0 0 0) (w := w) (ver := ver) (n := n) (E := A 18 (rw9 A w)) (v := v1) (u := u) (r1 := r1) (r2 := r2) w0 (by omega) (by rw [u0 12 (by omega)]; omega) (by rw [u0 7 (by omega)]; omega) (by omega) (by rw [eA0, u0 18 (by omega)]) (by omega) (by rw [eA0, s0 18 (by omega), S18]; exact d5) (by rw [eA0, s0 18 (by omega), S18]; exact d6) t3 x1 x2 (by rw [eA0]; exact x3) x4 (fun j hj => by
    have sg := spc_ge hj
    rw [u0 j (by omega), s0 j (by omega)]
    by_cases c : 40 ≤ j
    · rw [fA j c, fS j c]
    · exact clo j (by omega) (by omega)) (by rw [s0 7 (by omega), u0 7 (by omega)]; exact S7) (by rw [s0 12 (by omega), u0 12 (by omega)]; exact S12) (by rw [s0 78 (by omega), u0 78 (by omega), s0 79 (by omega), u0 79 (by omega), fA 78 (by omega), fS 78 (by omega), fA 79 (by omega), fS 79 (by omega)]; exact ⟨rfl, rfl⟩) (fun j i a b c d => by
    rw [eA0, s0 j (by omega), u0 j (by omega), hS j (by omega) (by omega), d1 j i a b c d, t1 j (by omega) (by omega) (by omega) (by omega)]) (by rw [eA0, s0 19 (by omega), hS 19 (by omega) (by omega)]; exact d2) (fun k k0 k1 => by
    obtain ⟨e1, e2, e3⟩ := d4 k k0 k1
    obtain ⟨f1, f2, f3⟩ := t6 k k0 k1
    rw [eA0, s0 19 (by omega), s0 20 (by omega), s0 21 (by omega), hS 19 (by omega) (by omega), hS 20 (by omega) (by omega), hS 21 (by omega) (by omega), e1, e2, e3, x5 72 (by omega) (by omega), x5 73 (by omega) (by omega), x5 74 (by omega) (by omega)]
    exact ⟨by omega, rfl, rfl, rfl⟩) (fun i i0 i1 => by
    rw [eA0, s0 18 (by omega), S18] at i1
    rw [eA0, s0 19 (by omega), hS 19 (by omega) (by omega), d7 i i0 i1]
    decide)
  have hi := h.2.2.hi w0 e16
  have hb := hi.1
  obtain ⟨a, b1, b2, b3⟩ := any_loop (r := ur S 0 0 0) (row := rw9 S w) (E := S 18 (rw9 S w)) (by rw [eS]; omega) (by rw [s0 18 (by omega)]) hb.2 (S 18 (rw9 S w)).toNat fuel9 0 0 (by omega) (by omega) (by omega) (Or.inl rfl)
  have ga : G_isAny w (ur S 0 0 0) = some (a, ur S 0 0 0) := by
    unfold G_isAny G_isAny_0
    rw [g_rowOfRun w0 (by omega) (by rw [s0 12 (by omega)]; omega) (by rw [s0 12 (by omega)]; omega), cag_e, rw9_e (s0 12 (by omega)), b1, boolG_e b2]
  have a1 : a ≠ 0 := fun c => by
    have := (b3 c).2 (A 18 (rw9 A w)) (by omega) (by rw [eS, S18]; omega)
    rw [eS, s0 19 (by omega), hS 19 (by omega) (by omega)] at this
    exact this d2
  unfold G_registerAnew G_registerAnew_0
  rw [g_flow gS, cag_e, if_t (show 0 ≤ w ∧ w ≤ S 16 0 - 1 by omega), if_f (by decide), S7, clo 6 (by omega) (by omega), chk_t (by omega), chk_t (by omega), g_isIn, cag_e, if_t hv, if_f (show ¬ (1 : Int) = 0 by decide)]
  unfold G_registerAnew_32 G_registerAnew_43
  rw [if_f (show ¬ (1 : Int) = 0 by decide), g_fine0, cag_e, if_f (show ¬ (1 : Int) = 0 by decide), ga, cag_e, if_f a1, y1, cag_e, if_f y2, y3, ← x6, ← c14, hS 14 (by omega) (by omega)]
  rw [g_plays9 (r := ur S 0 0 0) w0 (by omega) (by rw [s0 12 (by omega)]; omega) (by rw [s0 12 (by omega)]; omega) (by rw [s0 7 (by omega)]; omega) (by rw [s0 7 (by omega)]; omega) hv.1 (by omega) (by rw [rw9_e (s0 12 (by omega)), s0 18 (by omega)]; omega) (by rw [rw9_e (s0 12 (by omega)), s0 18 (by omega)]; omega)] at y1
  have lo := p58_lo _ _ _ _ _ _ y1
  refine ⟨_, rfl, ?_, fun j a b => ?_⟩
  · rw [lo 0 (by omega), bgn_lo (by omega)]
    exact ur_e rfl rfl
  · rw [lo j b, bgn_lo (by omega), s0 j (by omega)]
end DAG
