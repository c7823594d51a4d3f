/-! p35's law: what it asks of a decide -/
def cdA (e : Int) : Int := if e = 0 then 0 else if e = 1 then 1 else if e = 3 then 2 else 77
theorem cdA_0 {e : Int} (he : e = 0 ∨ e = 1 ∨ e = 2 ∨ e = 3) (h : cdA e = 0) : e = 0 := by
  rcases he with rfl | rfl | rfl | rfl
  · rfl
  · exact absurd h (by decide)
  · exact absurd h (by decide)
  · exact absurd h (by decide)
theorem cdA_1 {e : Int} (he : e = 0 ∨ e = 1 ∨ e = 2 ∨ e = 3) (h : cdA e = 1) : e = 1 := by
  rcases he with rfl | rfl | rfl | rfl
  · exact absurd h (by decide)
  · rfl
  · exact absurd h (by decide)
  · exact absurd h (by decide)
theorem cdA_2 {e : Int} (he : e = 0 ∨ e = 1 ∨ e = 2 ∨ e = 3) (h : cdA e = 2) : e = 3 := by
  rcases he with rfl | rfl | rfl | rfl
  · exact absurd h (by decide)
  · exact absurd h (by decide)
  · exact absurd h (by decide)
  · rfl
section DCS
variable {N K b0 b1 : Int} {s3 s4 : Int → Int} {r r' A S ra : Rst} {m m' m1 : Mem} {w k n e v ver E : Int}
theorem dueV_fr (h : ∀ j : Nat, 1 ≤ j → j < 40 → S j = A j) : dueV S w = dueV A w := by
  unfold dueV hk rw9
  rw [h 12 (by omega) (by omega), h 17 (by omega) (by omega), h 18 (by omega) (by omega), h 19 (by omega) (by omega)]
/-- nothing was decided -/
theorem l_dec88 (h : RelC N S m) (w0 : 0 ≤ w) (w1 : w < S 16 0) {due st : Int} (hv : v = -90003 ∧ st ≠ 20 ∨ v = -1 ∧ st = 20 ∧ due = 0 ∨ v = -2 ∧ st = 20 ∧ due ≠ 0) : L_decides_88 1 w (S 12 w) E due st v E m = some (1, m) := by
  have t142 : (v = -2 → due ≠ 0) → L_decides_142 due v m = some (1, m) := fun h => by
    unfold L_decides_142
    by_cases c : v = -2
    · rw [if_t c, if_f (h c)]
    · rw [if_f c]
  unfold L_decides_88
  rw [if_t rfl, chk_t (by omega), q_runs h w0 w1, cal0_e, if_t rfl]
  rcases hv with ⟨a, b⟩ | ⟨a, b, c⟩ | ⟨a, b, c⟩
  · rw [if_t a]
    unfold L_decides_116 L_decides_128
    rw [if_f b, if_t rfl, if_f (by omega), t142 (fun h => by omega)]
  · rw [if_f (by omega)]
    unfold L_decides_116 L_decides_128
    rw [if_t b, if_t rfl, if_t a, if_t c, t142 (fun h => by omega)]
  · rw [if_f (by omega)]
    unfold L_decides_116 L_decides_128
    rw [if_t b, if_t rfl, if_f (by omega), t142 (fun _ => c)]
theorem l_dec412 (h : RelC N S m) (w0 : 0 ≤ w) (w1 : w < S 16 0) {l8 l10 : Int} (hb : (0 ≤ E ∧ E ≤ 100) ∧ (0 ≤ n ∧ n ≤ 100)) (hd : l10 = 0 → E + 1 + n < l8 ∨ dueV S w = 0) : L_decides_412 1 w E n l8 l10 m = some (1, m) := by
  unfold L_decides_412
  by_cases c : l10 = 0
  · rw [if_t c, chk_t (by omega), chk_t (by omega)]
    by_cases d : E + 1 + n < l8
    · rw [if_t d]
    · rw [if_f d, chk_t (by omega), q_due h w0 w1, cal0_e, if_t ((hd c).resolve_left d)]
  · rw [if_f c]
theorem l_decides (h : Sw N K b0 b1 s3 s4 A m) (hN : N ≤ 599) (w0 : 0 ≤ w) (w1 : w < A 16 0) : ∃ r' m', L_decides 1 w ver m = some (1, m') ∧ Sw (N + 2) (K + 2) b0 b1 s3 s4 r' m' ∧ 0 < r' 16 0 := by
  obtain ⟨h1, h2, h3, h4, h5⟩ := id h
  have g := h1.2.2.rg
  have b10 := g.1
  have s := g.2.2 w w0 w1
  have s1 := s.1
  have s2 := s.2.1
  have er : rw9 A w = 9 * w + A 12 w - 1 := rfl
  have bb := (h3.bb w0 w1).2.2
  have cl := c_decide (cd := cdA) (w := w) (ver := ver) h1 h2 (by omega) rfl rfl rfl
  obtain ⟨e, v, m1, v', r1, x1, x2, x3, x4, x5, x6⟩ := h.call cl fun v r' e => by
    rcases dec_out h1 h3 h4 w0 w1 e with rfl | ⟨-, ⟨-, rfl⟩ | ⟨-, -, -, rfl⟩ | ⟨-, -, -, -, hj⟩ | ⟨-, -, -, -, hp, -⟩⟩
    · exact h3.f0
    · exact h3.f0
    · exact h3.f0
    · exact h3.fr fun j hj2 => hj j (by omega) (by omega)
    · exact hp
  have zl : ∀ j : Nat, j < 40 → zr r1 j = r1 j := fun j hj => zr_lo hj
  unfold L_decides L_decides_0
  rw [chk_t (by omega), q_runs h1 w0 w1, cal0_e, q_events h1 w0 w1 s1 (Int.le_refl _), cal0_e, q_due h1 w0 w1, cal0_e, q_state h1 w0 w1 s1 (Int.le_refl _), cal0_e, ← er, on_3 x3 x1, cal_e]
  -- nothing changed
  have same : (∀ j : Nat, 1 ≤ j → j < 40 → r1 j = A j) → w < zr r1 16 0 ∧ X11_events 1 w (A 12 w) m1 = some (0, A 18 (rw9 A w), m1) ∧ zr r1 12 w = A 12 w := fun hj => by
    have e12 : zr r1 12 w = A 12 w := by rw [zl 12 (by omega), hj 12 (by omega) (by omega)]
    have w2 : w < zr r1 16 0 := by rw [zl 16 (by omega), hj 16 (by omega) (by omega)]; exact w1
    have := q_events x6.1 w0 w2 s1 (by rw [e12]; exact Int.le_refl _)
    rw [zl 18 (by omega), hj 18 (by omega) (by omega), ← er] at this
    exact ⟨w2, this, e12⟩
  rcases dec_out h1 h3 h4 w0 w1 x2 with rfl | ⟨hver, ⟨c1, rfl⟩ | ⟨c1, c2, rfl, rfl⟩ | ⟨c1, c2, rfl, c3, hj⟩ | ⟨c1, c2, c3, c7, c4, ra, c5, c6⟩⟩
  · rw [ur_e rfl rfl] at x4
    obtain rfl := cdA_1 x3 x4.symm
    obtain ⟨w2, y, e12⟩ := same fun j a b => ur_ne (by omega)
    rw [y, cal0_e, show onV 1 v = -90001 from rfl, if_t rfl, if_t rfl]
    exact ⟨_, m1, boolR_e (Or.inr rfl), x6.mono (by omega) (by omega), by omega⟩
  · rw [ur_e rfl rfl] at x4
    obtain rfl := cdA_2 x3 x4.symm
    obtain ⟨w2, y, e12⟩ := same fun j a b => ur_ne (by omega)
    rw [y, cal0_e, show onV 3 v = -90003 from rfl, if_f (by decide), if_t rfl]
    have := l_dec88 (v := -90003) (E := A 18 (rw9 A w)) (due := dueV A w) (st := A 17 (rw9 A w)) x6.1 w0 w2 (Or.inl ⟨rfl, c1⟩)
    rw [e12] at this
    rw [this]
    exact ⟨_, m1, boolR_e (Or.inr rfl), x6.mono (by omega) (by omega), by omega⟩
  · rw [ur_e rfl rfl] at x4
    obtain rfl := cdA_0 x3 x4.symm
    obtain ⟨w2, y, e12⟩ := same fun j a b => ur_ne (by omega)
    have d0 : dueV A w = 0 := by
      unfold dueV
      rw [if_f (fun hh => c2 hh.2)]
    rw [y, cal0_e, show onV 0 v = v from rfl, ← x5 rfl, if_f (by decide), if_f (by decide), if_t rfl]
    have := l_dec88 (v := -1) (E := A 18 (rw9 A w)) (due := dueV A w) (st := A 17 (rw9 A w)) x6.1 w0 w2 (Or.inr (Or.inl ⟨rfl, c1, d0⟩))
    rw [e12] at this
    rw [this]
    exact ⟨_, m1, boolR_e (Or.inr rfl), x6.mono (by omega) (by omega), by omega⟩
  · have e0 : e = 0 := cdA_0 x3 (by rw [← x4]; exact c3)
    subst e0
    obtain ⟨w2, y, e12⟩ := same hj
    have d0 : dueV A w ≠ 0 := by
      unfold dueV
      rw [if_t ⟨c1, c2⟩]
      decide
    rw [y, cal0_e, show onV 0 v = v from rfl, ← x5 rfl, if_f (by decide), if_f (by decide), if_f (by decide), if_t rfl]
    have := l_dec88 (v := -2) (E := A 18 (rw9 A w)) (due := dueV A w) (st := A 17 (rw9 A w)) x6.1 w0 w2 (Or.inr (Or.inr ⟨rfl, c1, d0⟩))
    rw [e12] at this
    rw [this]
    exact ⟨_, m1, boolR_e (Or.inr rfl), x6.mono (by omega) (by omega), by omega⟩
  · have e0 : e = 0 := cdA_0 x3 (by rw [← x4]; exact c7)
    subst e0
    obtain rfl := x5 rfl
    obtain ⟨d1, ⟨d2, d3⟩, d4, ⟨d5, d6⟩, d7, d8, d9, da⟩ := id c6
    obtain ⟨t1, t2, t3, t4, t5, t6, t7, t8⟩ := id c5
    have r12 : r1 12 w = A 12 w ∨ r1 12 w = A 12 w + 1 := by
      rw [← t1 12 (by omega) (by omega) (by omega) (by omega)]
      rcases d8 with ⟨_, _, _, c2, _⟩ | ⟨_, _, c2, _⟩
      · by_cases c : ra 49 0 = 14
        · rw [if_t c] at c2; omega
        · rw [if_f c] at c2; omega
      · omega
    have z12 : zr r1 12 w = r1 12 w := by rw [zl 12 (by omega)]
    have w2 : w < zr r1 16 0 := by
      rcases Int.lt_or_le w (zr r1 16 0) with hh | hh
      · exact hh
      · have := x6.2.2.1.2.2.1 w hh (by omega)
        omega
    have lt := h1.2.2.lt w0 w1
    have k1 : A 12 w ≤ zr r1 12 w := by omega
    generalize hE : A 18 (rw9 A w) = E at *
    have z18 : zr r1 18 (9 * w + A 12 w - 1) = r1 18 (rw9 A w) := by rw [zl 18 (by omega), er]
    have z17 : zr r1 17 (9 * w + A 12 w - 1) = r1 17 (rw9 A w) := by rw [zl 17 (by omega), er]
    have z19 : ∀ (j : Nat) i, j < 40 → zr r1 j (80 * (9 * w + A 12 w - 1) + i) = r1 j (80 * rw9 A w + i) := fun j i hj => by rw [zl j hj, er]
    have x61 := x6.1
    have dv : dueV A w = 1 := by
      unfold dueV
      rw [hE, if_t ⟨c1, c2⟩]
    have y1 : X11_events 1 w (A 12 w) m1 = some (0, r1 18 (rw9 A w), m1) := by rw [q_events x61 w0 w2 s1 k1, z18]
    have yk : ∀ i, 0 ≤ i → i < r1 18 (rw9 A w) → X11_eventKind 1 w (A 12 w) i m1 = some (0, r1 19 (80 * rw9 A w + i), m1) := fun i i0 i1 => by rw [q_kind x61 w0 w2 s1 k1 i0 (by rw [z18]; exact i1), z19 19 i (by omega)]
    have yx : ∀ i, 0 ≤ i → i < r1 18 (rw9 A w) → X11_eventNumber 1 w (A 12 w) i 1 m1 = some (0, r1 20 (80 * rw9 A w + i), m1) := fun i i0 i1 => by rw [q_first x61 w0 w2 s1 k1 i0 (by rw [z18]; exact i1), z19 20 i (by omega)]
    have yy : ∀ i, 0 ≤ i → i < r1 18 (rw9 A w) → X11_eventNumber 1 w (A 12 w) i 0 m1 = some (0, r1 21 (80 * rw9 A w + i), m1) := fun i i0 i1 => by rw [q_second x61 w0 w2 s1 k1 i0 (by rw [z18]; exact i1), z19 21 i (by omega)]
    have ys : X11_state 1 w (A 12 w) m1 = some (0, r1 17 (rw9 A w), m1) := by rw [q_state x61 w0 w2 s1 k1, z17]
    have yr : X11_runs 1 w m1 = some (0, r1 12 w, m1) := by rw [q_runs x61 w0 w2, z12]
    -- the end of what was decided
    have ov1 : ra 42 0 = 2 → 0 < v' ∧ r1 19 (80 * rw9 A w + (E + v')) = 16 ∧ r1 20 (80 * rw9 A w + (E + v')) = ra 49 0 ∧ r1 21 (80 * rw9 A w + (E + v')) = ra 50 0 := fun c => by
      obtain ⟨o1, o2, o3, o4⟩ := t2 c
      rw [t4] at o1 o2 o3 o4
      obtain ⟨f1, f2, f3⟩ := d4 (v' - 1) (by omega) (by omega)
      rw [show E + 1 + (v' - 1) = E + v' by omega] at f1 f2 f3
      exact ⟨o1, f1.trans o2, f2.trans o3, f3.trans o4⟩
    have ov0 : ra 42 0 ≠ 2 → 0 < v' → r1 19 (80 * rw9 A w + (E + v')) ≠ 16 := fun c hv hh => by
      obtain ⟨f1, f2, f3⟩ := d4 (v' - 1) (by omega) (by omega)
      rw [show E + 1 + (v' - 1) = E + v' by omega] at f1
      rw [f1] at hh
      exact c ((t6 (v' - 1) (by omega) (by omega)).2.2 hh).2
    -- the last question
    have t412 : ∀ (S2 : Rst) (m2 : Mem) (l10 : Int), RelC (N + 2) S2 m2 → (∀ j : Nat, 1 ≤ j → j < 40 → S2 j = zr r1 j) → (l10 = 0 → ra 42 0 ≠ 2) → L_decides_412 1 w E v' (r1 18 (rw9 A w)) l10 m2 = some (1, m2) := fun S2 m2 l10 hR hS hl => by
      refine l_dec412 hR w0 (by rw [hS 16 (by omega) (by omega)]; exact w2) (by omega) fun h0 => ?_
      by_cases c : E + 1 + v' < r1 18 (rw9 A w)
      · exact Or.inl c
      · refine Or.inr ?_
        rw [dueV_fr hS]
        have nw := hl h0
        rcases d8 with ⟨c8, _⟩ | ⟨_, c8, c9, _⟩
        · exact absurd c8 nw
        · have e9 : rw9 (zr r1) w = rw9 A w := by
            unfold rw9
            rw [z12, c9, t1 12 (by omega) (by omega) (by omega) (by omega)]
          unfold dueV
          rw [if_f]
          intro hh
          have h2 := hh.2
          unfold hk at h2
          rw [e9, zl 18 (by omega), zl 19 (by omega), show r1 18 (rw9 A w) - 1 = E + v' by omega] at h2
          by_cases v0 : v' = 0
          · rw [v0, Int.add_zero, d2] at h2
            omega
          · have f1 := (d4 (v' - 1) (by omega) (by omega)).1
            rw [show E + 1 + (v' - 1) = E + v' by omega] at f1
            have := (t6 (v' - 1) (by omega) (by omega)).1
            omega
    have six : ∀ l10, (l10 = 0 → ra 42 0 ≠ 2) → ∃ r' m', L_decides_412 1 w E v' (r1 18 (rw9 A w)) l10 m1 = some (1, m') ∧ Sw (N + 2) (K + 2) b0 b1 s3 s4 r' m' ∧ 0 < r' 16 0 := fun l10 hl => ⟨_, m1, t412 _ m1 l10 (x61.mono (by omega)) (fun _ _ _ => rfl) hl, x6.mono (by omega) (by omega), by omega⟩
    have t373 : ∀ l10 s0, (l10 = 0 → ra 42 0 ≠ 2) → (l10 ≠ 0 → ra 42 0 = 2 ∧ (s0 = 0 → ra 50 0 ≠ 8)) → ∃ r' m', L_decides_373 1 w ver (A 12 w) E v' (r1 18 (rw9 A w)) 1 l10 s0 m1 = some (1, m') ∧ Sw (N + 2) (K + 2) b0 b1 s3 s4 r' m' ∧ 0 < r' 16 0 := fun l10 s0 hl hl2 => by
      unfold L_decides_373
      rw [if_f (by decide), chk_t (by omega), yr, cal0_e]
      by_cases c : A 12 w < r1 12 w
      · rw [if_t c]; exact six l10 hl
      · rw [if_f c]
        by_cases d : s0 = 0
        · rw [if_t d]
          have n14 : ra 42 0 = 2 → ra 49 0 ≠ 14 := fun c42 c14 => by
            rcases d8 with ⟨_, _, _, cc, _⟩ | ⟨cc, _⟩
            · rw [if_t c14, t1 12 (by omega) (by omega) (by omega) (by omega)] at cc
              omega
            · exact cc c42
          have n8 : ra 42 0 = 2 → ra 50 0 ≠ 8 := fun c42 => by
            by_cases l : l10 = 0
            · exact absurd c42 (hl l)
            · exact (hl2 l).2 d
          obtain ⟨S', g1, g2, g3⟩ := again_val (S := zr r1) (A := A) (r' := r1) (ra := ra) (n := v') x61 (h1.2.2.mono (by omega)) h4 zr_fz w0 w1 hver c5 (by rw [hE]; exact c6) (fun j a b => zl j b) w2 n14 n8
          have cl2 := c_registerAnew (cd := id) (w := w) (ver := ver) x61 x6.2.1 rfl rfl
          rw [g1] at cl2
          obtain ⟨e2, v2, m2, v2', r2, u1, u2, u3, u4, u5, u6⟩ := x6.call cl2 fun v r' e => by
            cases e
            exact x6.2.2.1.fr fun j hj => g3 j (by omega) (by omega)
          cases u2
          rw [g2] at u4
          obtain rfl : e2 = 0 := u4.symm
          obtain rfl := u5 rfl
          have q2 : ∀ j : Nat, 1 ≤ j → j < 40 → zr S' j = zr r1 j := fun j a b => by rw [zr_lo b, g3 j a b]
          rw [on_8 u3 u1, cal_e, show onV 0 (zr r1 14 w) = zr r1 14 w from rfl, q_register u6.1 w0 (by rw [q2 16 (by omega) (by omega)]; exact w2), cal0_e, q2 14 (by omega) (by omega), if_t rfl]
          exact ⟨_, m2, t412 _ m2 l10 (u6.1.mono (by omega)) q2 hl, u6.mono (by omega) (by omega), by rw [q2 16 (by omega) (by omega)]; omega⟩
        · rw [if_f d]; exact six l10 hl
    have main : ∃ r' m', L_decides_220 1 w ver (A 12 w) E v' (r1 18 (rw9 A w)) 1 m1 = some (1, m') ∧ Sw (N + 2) (K + 2) b0 b1 s3 s4 r' m' ∧ 0 < r' 16 0 := by
      by_cases c42 : ra 42 0 = 2
      · obtain ⟨o1, o2, o3, o4⟩ := ov1 c42
        obtain ⟨_, l18, l17, l12, _⟩ := d8.resolve_right fun hh => hh.1 c42
        have sv := (t7 c42).n
        rw [t1 12 (by omega) (by omega) (by omega) (by omega)] at l12
        unfold L_decides_220 L_decides_248 L_decides_273 L_decides_293 L_decides_309 L_decides_336 L_decides_344
        rw [if_f (by omega), chk_t (by omega), chk_t (by omega), yk _ (by omega) (by omega), cal0_e, o2, if_t rfl, if_f (by decide), chk_t (by omega), ys, cal0_e, l17, if_f sv.1, if_t rfl, if_f (by decide), chk_t (by omega), chk_t (by omega), if_t l18, chk_t (by omega), yr, cal0_e, chk_t (by omega), yx _ (by omega) (by omega), o3]
        have last : ∃ r' m', (if (1 : Int) = 0 then L_decides_373 1 w ver (A 12 w) E v' (r1 18 (rw9 A w)) 1 1 0 m1 else chk9 (iR (E + v')) <| chk9 (0 < (1 : Int)) <| cal0 (X11_eventNumber 1 w (A 12 w) (E + v') 0 m1) fun v4 m5 => if v4 = 8 then L_decides_373 1 w ver (A 12 w) E v' (r1 18 (rw9 A w)) 1 1 1 m5 else L_decides_373 1 w ver (A 12 w) E v' (r1 18 (rw9 A w)) 1 1 0 m5) = some (1, m') ∧ Sw (N + 2) (K + 2) b0 b1 s3 s4 r' m' ∧ 0 < r' 16 0 := by
          rw [if_f (by decide), chk_t (by omega), chk_t (by omega), yy _ (by omega) (by omega), o4, cal0_e]
          by_cases c8 : ra 50 0 = 8
          · rw [if_t c8]; exact t373 1 1 (fun h => by omega) fun _ => ⟨c42, fun h => by omega⟩
          · rw [if_f c8]; exact t373 1 0 (fun h => by omega) fun _ => ⟨c42, fun _ => c8⟩
        by_cases c14 : ra 49 0 = 14
        · rw [if_t c14] at l12
          rw [if_t l12, if_f (by decide), chk_t (by omega), chk_t (by omega), cal0_e, if_t c14, if_t rfl]
          exact last
        · rw [if_f c14] at l12
          rw [if_f (by omega), if_f (by decide), chk_t (by omega), chk_t (by omega), cal0_e, if_f c14, if_t rfl]
          exact last
      · obtain ⟨_, l17, l12, _⟩ := d8.resolve_left fun hh => c42 hh.1
        rw [t1 12 (by omega) (by omega) (by omega) (by omega)] at l12
        have n248 : ∃ r' m', L_decides_248 1 w ver (A 12 w) E v' (r1 18 (rw9 A w)) 1 0 m1 = some (1, m') ∧ Sw (N + 2) (K + 2) b0 b1 s3 s4 r' m' ∧ 0 < r' 16 0 := by
          unfold L_decides_248 L_decides_273 L_decides_293 L_decides_309 L_decides_336 L_decides_344
          rw [if_f (by decide), chk_t (by omega), ys, cal0_e, l17, if_t rfl, if_t rfl, if_t rfl, chk_t (by omega), yr, cal0_e, chk_t (by omega), if_f (by omega), if_t rfl, if_t rfl, if_t rfl]
          exact t373 0 0 (fun _ => c42) fun h => absurd rfl h
        unfold L_decides_220
        by_cases v0 : v' ≤ 0
        · rw [if_t v0]; exact n248
        · rw [if_f v0, chk_t (by omega), chk_t (by omega), yk _ (by omega) (by omega), cal0_e, if_f (ov0 c42 (by omega))]
          exact n248
    obtain ⟨r', m', z1, z2⟩ := main
    refine ⟨r', m', ?_, z2⟩
    rw [y1, cal0_e, show onV 0 v' = v' from rfl, dv, if_f (by omega), if_f (by omega), if_f (by omega), if_f (by omega), if_f (by omega), if_f (by decide), chk_t (by omega), chk_t (by omega), if_f (by omega), if_f (by omega), yk E (by omega) (by omega), cal0_e, if_t d2, yx E (by omega) (by omega), cal0_e, if_t d3, z1]
    exact boolR_e (Or.inr rfl)
end DCS
