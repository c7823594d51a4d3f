/-! one call on both sides: release, whole -/
section PV
variable {cd : Int → Int} {N : Int} {r r' : Rst} {m m' : Mem} {w n q k t a b x P s C V F : Int}
/-- what releasing leaves of the class's memory -/
theorem x_releaseTold (h : RelM r m) (g : Rg r) (t0 : 0 ≤ t) (t1 : t < 3) (hF : F = 1000 * (t + 1)) (hV : V = r 6 t) (lt : V < 4) : ∃ m', X2_releaseTold F m = some (0, m') ∧ (∀ i, ¬ (F + 10 * (V + 2) ≤ i ∧ i ≤ F + 10 * (V + 2) + 3) → i ≠ -1 → i ≠ -2 → i ≠ F → i ≠ F + 1 → m' i = m i) ∧ (∀ i, ¬ (F + 10 * (V + 2) ≤ i ∧ i ≤ F + 10 * (V + 2) + 3) → m' (-1) i = m (-1) i) ∧ (m' (-2) 0 = m (-2) 0 + 4 ∧ m' (-2) 1 = m (-2) 1 + 40) ∧ (m' (F + 10 * (V + 2)) 0 = F + 10 * (V + 2) + 1 ∧ m' (F + 10 * (V + 2)) 1 = F + 10 * (V + 2) + 2 ∧ m' (F + 10 * (V + 2)) 2 = F + 10 * (V + 2) + 3 ∧ m' (F + 10 * (V + 2)) 3 = 0) ∧ (m' F 0 = F + 1 ∧ m' F 1 = V + 1 ∧ m' F 2 = F + 10 * (V + 2)) ∧ ∀ k, m' (F + 1) k = if k = V then F + 10 * (V + 1) else m (F + 1) k := by
  have f := h.2.2.1 t t0 t1
  have g6 := g.2.1 t t0 t1
  have fz := h.2.2.2.2.2.2.2.2.2 t t0 t1
  rw [← hF, ← hV] at fz
  have f0 := f.1.2.1
  have f1 := f.1.2.2.1
  have f2 := f.1.2.2.2
  rw [← hF] at f0 f1 f2
  rw [← hV] at f1 f2
  have y1 : upd9 m (F + 1) V (F + 10 * (V + 1)) F 1 = V := by rw [upd9_n (by omega)]; exact f1
  have y2 : upd9 (upd9 m (F + 1) V (F + 10 * (V + 1))) F 1 (V + 1) F 1 = V + 1 := upd9_e rfl rfl
  have y3 : ∀ i, i ≠ F → i ≠ F + 1 → upd9 (upd9 m (F + 1) V (F + 10 * (V + 1))) F 1 (V + 1) i = m i := fun i c d => by rw [upd9_row c, upd9_row d]
  have fr : ∀ i, F + 10 * (V + 2) ≤ i → i ≤ F + 10 * (V + 2) + 3 → upd9 (upd9 m (F + 1) V (F + 10 * (V + 1))) F 1 (V + 1) (-1) i = 0 := fun i c d => by
    rw [y3 (-1) (by omega) (by omega)]
    exact fz i c (by omega)
  obtain ⟨m1, z1, z2, z3, z4, z5⟩ := x_newProg (by omega) fr
  unfold X2_releaseTold X2_releaseTold_0
  rw [chk_t (by omega), f1, if_f (by omega), f0, f2, chk_t (by omega), st_e, y1, chk_t (by omega), st_e, y2, show F + 10 * (V + 1 + 1) = F + 10 * (V + 2) by omega, show ∀ {α : Type} (v : Int) (k : Int → Option α), vl9 v k = k v from fun v k => rfl, chk_t ⟨by omega, fr _ (by omega) (by omega)⟩, st_e, z1, cal_e, st_e]
  have w1 : m1 F = upd9 (upd9 m (F + 1) V (F + 10 * (V + 1))) F 1 (V + 1) F := z2 F (by omega) (by omega) (by omega)
  have w2 : m1 (F + 1) = upd9 (upd9 m (F + 1) V (F + 10 * (V + 1))) F 1 (V + 1) (F + 1) := z2 (F + 1) (by omega) (by omega) (by omega)
  refine ⟨_, rfl, fun i a b c d e => ?_, fun i a => ?_, ⟨?_, ?_⟩, ⟨?_, ?_, ?_, ?_⟩, ⟨?_, ?_, ?_⟩, fun k => ?_⟩
  · rw [upd9_row d, z2 i a b c, y3 i d e]
  · rw [upd9_n (by omega), z3 i a, y3 (-1) (by omega) (by omega)]
  · rw [upd9_n (by omega), z4.1, y3 (-2) (by omega) (by omega)]
  · rw [upd9_n (by omega), z4.2, y3 (-2) (by omega) (by omega)]
  · rw [upd9_n (by omega)]; exact z5.1
  · rw [upd9_n (by omega)]; exact z5.2.1
  · rw [upd9_n (by omega)]; exact z5.2.2.1
  · rw [upd9_n (by omega)]; exact z5.2.2.2
  · rw [upd9_n (by omega), w1, upd9_n (by omega), upd9_n (by omega)]; exact f0
  · rw [upd9_n (by omega), w1, upd9_e rfl rfl]
  · rw [upd9_e rfl rfl]
  · rw [upd9_row (by omega), w2, upd9_row (by omega)]
    by_cases c : k = V
    · rw [if_t c, upd9_e rfl c]
    · rw [if_f c, upd9_n (by omega)]
theorem c_release (h : RelC N r m) (tt : GT r) (h0 : cd 0 = 0) (h1 : cd 1 = 1) (h3 : cd 3 = 2) : CallR cd N r m (X11_release 1 t m) (G_release t r) := by
  have f9 := fuel9_ge
  have g := h.2.2.rg
  have z31 : ∀ l2 s, G_release_31 G_release_68 fuel9 t l2 0 s r = G_release_68 t l2 0 r := fun l2 s => by
    obtain ⟨t1, ht⟩ : ∃ k, fuel9 = k + 1 := ⟨fuel9 - 1, by omega⟩
    rw [ht, G_release_31, if_t rfl]
  unfold X11_release X11_release_0 G_release G_release_0
  rw [chk_t (by omega), x_familyOf h.1, g_isType, cag_e]
  by_cases c : 0 ≤ t ∧ t ≤ 2
  · have g6 := g.2.1 t c.1 (by omega)
    have td := h.1.told c.1 (by omega) g
    have gp := h.2.2.gp.2 t c.1 (by omega)
    have st := h.2.2.gp.1
    rw [if_t c, if_t c, calX_0, td.1.2, if_f (show ¬ (1 : Int) = 0 by decide), g_rowOf c.1 (by omega) (by omega) (by omega), cag_e, show 5 * t + 5 - 1 = 5 * t + 4 by omega]
    repeat rw [chk_t (by omega)]
    by_cases d : r 5 (5 * t + 4) ≤ 0
    · have xw : X5_isWhole (1000 * (t + 1) + 10 * (r 6 t + 1)) m = some (0, m) := by
        obtain ⟨t1, ht⟩ : ∃ k, fuel9 = k + 1 := ⟨fuel9 - 1, by omega⟩
        unfold X5_isWhole X5_isWhole_0
        rw [ht, X5_isWhole_2, td.2.1.2.2.2, if_t d]
        unfold X5_isWhole_44
        rw [td.2.1.2.2.2, if_t d]
        repeat rw [chk_t (by omega)]
        rw [boolR_e (Or.inl rfl)]
      rw [if_t d, z31, xw, cal_e, if_t rfl]
      unfold G_release_68 G_release_86
      rw [if_f (show ¬ (1 : Int) = 0 by decide), if_t rfl, g_fineE (by decide), cag_e, if_t rfl]
      exact CallR.thr h tt (e := 3) rfl (by rw [h3]) (by omega)
    · obtain ⟨v, y1, y2, y3, y4⟩ := whole_loop (k68 := G_release_68) td.2 (by omega) c.1 (by omega) ⟨by omega, gp.2.1.2.1⟩ st (r 5 (5 * t + 4)).toNat fuel9 fuel9 0 (by omega) (by omega) (by omega) (by omega)
      unfold X5_isWhole X5_isWhole_0
      rw [if_f d, y1, y2, boolR_e y3, cal_e]
      unfold G_release_68 G_release_86
      rw [if_f (show ¬ (1 : Int) = 0 by decide)]
      rcases y3 with rfl | rfl
      · rw [if_t rfl, if_t rfl, g_fineE (by decide), cag_e, if_t rfl]
        exact CallR.thr h tt (e := 3) rfl (by rw [h3]) (by omega)
      · have V3 : r 6 t < 4 := by
          by_cases e : r 6 t = 4
          · have := gp.2.1.2.2 e; omega
          · omega
        rw [if_f (show ¬ (1 : Int) = 0 by decide), if_f (show ¬ (1 : Int) = 0 by decide), g_fine0, cag_e, if_f (show ¬ (1 : Int) = 0 by decide)]
        obtain ⟨m1, x1, x2, x3, x4, x5, x6, x7⟩ := x_releaseTold h.1 g c.1 (by omega) rfl rfl V3
        have a6 : ur r 0 0 0 6 t = r 6 t := ur_n (by omega)
        have b6 : ur (ur r 0 0 0) 6 t (r 6 t + 1) 6 t = r 6 t + 1 := ur_e rfl rfl
        rw [x1, cal_e, x6.2.1, a6]
        repeat rw [chk_t (by omega)]
        rw [stg_e, g_rowOf c.1 (by omega) (by omega) (by omega), cag_e, b6, g_rowOf c.1 (by omega) (by omega) (by omega), cag_e, chk_t (by omega), show 5 * t + 5 - 1 = 5 * t + 4 by omega, show 5 * t + (r 6 t + 1) - 1 = 5 * t + r 6 t by omega]
        obtain ⟨r1, u1, u2, u3⟩ := copy_loop (k217 := G_release_217) (l1 := t) (l4 := 5 * t + 4) (l5 := 5 * t + r 6 t) (by omega) (by omega) (by omega) 12 fuel9 0 (ur (ur r 0 0 0) 6 t (r 6 t + 1)) (by omega) (by omega) (by omega)
        rw [u1]
        unfold G_release_217
        have o5 : r1 5 (5 * t + 4) = r 5 (5 * t + 4) := by rw [u2 5 _ (by omega), ur_n (by omega), ur_n (by omega)]
        have o6 : r1 6 t = r 6 t + 1 := by rw [u2 6 _ (by omega)]; exact b6
        have p6 : ur (ur r1 5 (5 * t + r 6 t) (r 5 (5 * t + 4))) 5 (5 * t + 4) 0 6 t = r 6 t + 1 := by rw [ur_n (by omega), ur_n (by omega)]; exact o6
        rw [chk_t (by omega), chk_t (by omega), o5, stg_e, chk_t (by omega), stg_e, chk_t (by omega)]
        have v5 : ur (ur r1 5 (5 * t + r 6 t) (r 5 (5 * t + 4))) 5 (5 * t + 4) 0 5 (5 * t + r 6 t) = r 5 (5 * t + 4) := by rw [ur_n (by omega), ur_e rfl rfl]
        have v4 : ur (ur r1 5 (5 * t + r 6 t) (r 5 (5 * t + 4))) 5 (5 * t + 4) 0 5 (5 * t + 4) = 0 := ur_e rfl rfl
        have vc : ∀ (j : Nat) i, 2 ≤ j → j ≤ 4 → 0 ≤ i → i < 12 → ur (ur r1 5 (5 * t + r 6 t) (r 5 (5 * t + 4))) 5 (5 * t + 4) 0 j (12 * (5 * t + r 6 t) + i) = r j (12 * (5 * t + 4) + i) := fun j i a b c d => by rw [ur_n (by omega), ur_n (by omega), u3 j i a b c d, ur_n (by omega), ur_n (by omega)]
        have er : ∀ (j : Nat) i, ¬ (j = 0 ∨ (2 ≤ j ∧ j ≤ 4 ∧ 12 * (5 * t + r 6 t) ≤ i ∧ i < 12 * (5 * t + r 6 t) + 12) ∨ (j = 5 ∧ (i = 5 * t + 4 ∨ i = 5 * t + r 6 t)) ∨ (j = 6 ∧ i = t)) → ur (ur r1 5 (5 * t + r 6 t) (r 5 (5 * t + 4))) 5 (5 * t + 4) 0 j i = r j i := fun j i hj => by rw [ur_n (by omega), ur_n (by omega), u2 j i (by omega), ur_n (by omega), ur_n (by omega)]
        have v0 : ur (ur r1 5 (5 * t + r 6 t) (r 5 (5 * t + 4))) 5 (5 * t + 4) 0 0 0 = 0 := by rw [ur_n (by omega), ur_n (by omega), u2 0 0 (by omega), ur_n (by omega), ur_e rfl rfl]
        rw [p6]
        generalize ur (ur r1 5 (5 * t + r 6 t) (r 5 (5 * t + 4))) 5 (5 * t + 4) 0 = rz at *
        have ef : ∀ j : Nat, j = 1 ∨ 7 ≤ j → rz j = r j := fun j hj => by
          funext i
          exact er j i (by omega)
        have b10 := g.1
        have hr : RelC N rz m1 := by
          refine h.mk (rel_fm h.1 g (fun s k a b c d => (h.2.2.b12 a b c d).2) c.1 (by omega) (fun i a b e => x2 i (by omega) a b (by omega) (by omega)) (fun i e => x3 i (by omega)) (fun j i hj => er j i (by omega)) ?_ (fun i a b => ?_)) (h.2.2.prog ef ⟨fun i i0 i1 => ?_, fun s a b => ?_⟩) (fun w a b => ?_) fun j hj => ef j (by omega)
          · have f := h.1.2.2.1 t c.1 (by omega)
            unfold Fm
            rw [p6, x2 2 (by omega) (by omega) (by omega) (by omega) (by omega)]
            refine ⟨⟨f.1.1, x6.1, x6.2.1, by rw [x6.2.2]; omega⟩, fun k k0 k1 => ?_, fun k k0 k1 => ?_⟩
            · rw [x7]
              by_cases e : k = r 6 t
              · rw [if_t e, e]
              · rw [if_f e]; exact f.2.1 k k0 (by omega)
            · unfold rowk
              rw [p6]
              by_cases e : k < r 6 t
              · have p := f.2.2 k k0 (by omega)
                have b := h.2.2.b12 c.1 (by omega) k0 (show k ≤ r 6 t by omega)
                unfold rowk at p b
                rw [if_t e] at p b
                rw [if_t (by omega)]
                exact p.fr2 (fun i a b => x2 i (by omega) (by omega) (by omega) (by omega) (by omega)) (er 5 _ (by omega)) fun j i a b c d => er j i (by omega)
              · by_cases e2 : k = r 6 t
                · rw [if_t (by omega), e2]
                  have p := td.2
                  have b12 := gp.2.1.2.1
                  unfold Pm at *
                  rw [v5, x2 (1000 * (t + 1) + 10 * (r 6 t + 1)) (by omega) (by omega) (by omega) (by omega) (by omega), x2 (1000 * (t + 1) + 10 * (r 6 t + 1) + 1) (by omega) (by omega) (by omega) (by omega) (by omega), x2 (1000 * (t + 1) + 10 * (r 6 t + 1) + 2) (by omega) (by omega) (by omega) (by omega) (by omega), x2 (1000 * (t + 1) + 10 * (r 6 t + 1) + 3) (by omega) (by omega) (by omega) (by omega) (by omega)]
                  refine ⟨p.1, fun s s0 s1 => ?_⟩
                  rw [vc 2 s (by omega) (by omega) s0 (by omega), vc 3 s (by omega) (by omega) s0 (by omega), vc 4 s (by omega) (by omega) s0 (by omega)]
                  exact p.2 s s0 s1
                · have ek : k = r 6 t + 1 := by omega
                  rw [if_f (by omega), ek, show 1000 * (t + 1) + 10 * (r 6 t + 1 + 1) = 1000 * (t + 1) + 10 * (r 6 t + 2) by omega]
                  unfold Pm
                  rw [v4]
                  exact ⟨x5, fun s s0 s1 => by omega⟩
          · rw [p6] at a
            rw [x3 i (by omega)]
            exact h.1.2.2.2.2.2.2.2.2.2 t c.1 (by omega) i (by omega) b
          · by_cases e : 12 * (5 * t + r 6 t) ≤ i ∧ i < 12 * (5 * t + r 6 t) + 12
            · obtain ⟨j, hj, j0, j1⟩ : ∃ j, i = 12 * (5 * t + r 6 t) + j ∧ 0 ≤ j ∧ j < 12 := ⟨i - 12 * (5 * t + r 6 t), by omega, by omega, by omega⟩
              rw [hj, vc 2 j (by omega) (by omega) j0 j1, vc 3 j (by omega) (by omega) j0 j1, vc 4 j (by omega) (by omega) j0 j1]
              exact st _ (by omega) (by omega)
            · rw [er 2 i (by omega), er 3 i (by omega), er 4 i (by omega)]
              exact st i i0 i1
          · have p := h.2.2.gp.2 s a b
            by_cases e : s = t
            · subst e
              rw [p6, v4]
              refine ⟨by omega, by omega, fun v w0 w1 => ?_⟩
              by_cases e2 : v = r 6 s + 1
              · refine pgx.2 ?_
                rw [e2, show 5 * s + (r 6 s + 1) - 1 = 5 * s + r 6 s by omega]
                unfold PgX
                rw [v5]
                refine ⟨by omega, by omega, by omega, p.2.1.2.1, fun x xa xb => ?_⟩
                have b12 := p.2.1.2.1
                rw [vc 2 x (by omega) (by omega) xa (by omega), vc 3 x (by omega) (by omega) xa (by omega), vc 4 x (by omega) (by omega) xa (by omega)]
                have sx := st (12 * (5 * s + 4) + x) (by omega) (by omega)
                obtain ⟨l1, l2, l3⟩ := y4 rfl x xa xb
                obtain ⟨q1, q2, q3, q4, q5, q6, q7, q8, q9, q10, q11⟩ := sx
                refine ⟨q1.1, q1.2, q2.1, q2.2, q3.1, q3.2, q4, q5, fun hh => ⟨q6 (by omega), l1 hh⟩, fun hh => ⟨q6 (by omega), l2 hh⟩, fun hh => ⟨(q7 hh).1, (q7 hh).2, (l3 hh).1, fun i ia ib => ?_⟩, q8, q9, q10⟩
                have l4 := (l3 hh).1
                rw [vc 2 (x + i) (by omega) (by omega) (by omega) (by omega)]
                exact (l3 hh).2 i ia ib
              · have q := pgx.1 (p.2.2 v w0 (by omega))
                have q4 := q.2.2.2.1
                exact pgx.2 (q.fr (er 5 _ (by omega)) fun j i c d e f => er j i (by omega))
            · rw [er 6 s (by omega), er 5 _ (by omega)]
              refine ⟨p.1, p.2.1, fun v w0 w1 => ?_⟩
              have q := pgx.1 (p.2.2 v w0 w1)
              have q4 := q.2.2.2.1
              exact pgx.2 (q.fr (er 5 _ (by omega)) fun j i c d e f => er j i (by omega))
          · have s1 := (g.2.2 w a b).1
            have eR : Rl r w = 100000 * (w + 1) + 10000 * r 12 w := rfl
            exact x2 _ (by omega) (by omega) (by omega) (by omega) (by omega)
        refine ⟨0, _, _, _, _, rfl, rfl, Or.inl rfl, by rw [v0, h0], fun _ => rfl, hr.mono (by omega), tt.fr fun j hj => ef j (by omega), fun i a b => x2 i (by omega) (by omega) (by omega) (by omega) (by omega), x2 _ (by omega) (by omega) (by omega) (by omega) (by omega), x2 _ (by omega) (by omega) (by omega) (by omega) (by omega), ?_, ?_⟩
        · rw [x4.1, ef 16 (by omega)]; omega
        · rw [x4.2, ef 16 (by omega)]; omega
  · rw [if_f c, if_f c, calX_e (by decide), if_t rfl, z31]
    unfold G_release_68 G_release_86
    rw [if_t rfl, g_fineE (by decide), cag_e, if_t rfl]
    exact CallR.thr h tt (e := 1) rfl (by rw [h1]) (Or.inl rfl)
end PV
