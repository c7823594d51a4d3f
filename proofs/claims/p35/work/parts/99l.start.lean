/-! one call on both sides: start -/
section NS
variable {cd : Int → Int} {N N' : Int} {r r' : Rst} {m m' : Mem} {w n q k t a b x P s C R l A W v p nu pa : Int}
theorem c_start (h : RelC N r m) (tt : GT r) (h0 : cd 0 = 0) (h1 : cd 1 = 1) (h2 : cd 2 = 2) (h3 : cd 3 = 3) : CallR cd N r m (X11_start 1 a b v m) (G_start a b v r) := by
  have g := h.2.2.rg
  have b10 := g.1
  unfold X11_start X11_start_0 G_start G_start_0
  rw [x_isWithin, cal_e, g_isType, cag_e]
  by_cases ca : 0 ≤ a ∧ a ≤ 2
  · rw [if_t ca, if_f (show ¬ (1 : Int) = 0 by decide), if_f (show ¬ (1 : Int) = 0 by decide), x_isWithin, cal_e, g_isIn, cag_e]
    by_cases cb : 0 ≤ b ∧ b ≤ 2
    · rw [if_t cb, if_f (show ¬ (1 : Int) = 0 by decide), if_f (show ¬ (1 : Int) = 0 by decide), x_isWithin, cal_e]
      unfold G_start_21
      rw [if_f (show ¬ (1 : Int) = 0 by decide), g_isValue, cag_e]
      by_cases cv : -99 ≤ v ∧ v ≤ 99
      · have e5 : m 1 5 = r 16 0 := h.1.1.1.2.2.2.2.2.1
        have e11 : m 1 1 = 3 := h.1.1.1.2.1
        rw [if_t cv, if_f (show ¬ (1 : Int) = 0 by decide), if_f (show ¬ (1 : Int) = 0 by decide), chk_t (by omega), e5]
        unfold G_start_58
        by_cases c10 : r 16 0 = 10
        · rw [if_t c10, if_f (show ¬ r 16 0 < 10 by omega), g_fineE (by decide), cag_e, if_t rfl]
          exact CallR.thr h tt (e := 3) rfl (by rw [h3]) (by omega)
        · rw [if_f c10, if_t (show r 16 0 < 10 by omega), g_fine0, cag_e, if_f (show ¬ (1 : Int) = 0 by decide)]
          have hz := h.z0
          have tz : GT (ur r 0 0 0) := tt.fr fun j hj => ur_ne (by omega)
          have z16 : ur r 0 0 0 16 0 = r 16 0 := ur_n (by omega)
          have gu := hz.2.2.2.2.2.2.1
          obtain ⟨W, hW⟩ : ∃ W, W = r 16 0 := ⟨_, rfl⟩
          have gu1 := gu.1 W (by omega) (by omega)
          have gu2 := gu.2.1 W 1 (by omega) (by omega) (by omega) (by omega)
          rw [show 9 * W + 1 - 1 = 9 * W by omega] at gu2
          obtain ⟨r1, y1, nf⟩ := g_makesFlow (a := a) (b := b) (v := v) (pa := -1) (nu := 0) (W := W) (r := ur r 0 0 0) (by rw [z16, hW]) (by omega) (by omega) gu1.1 gu2 (Or.inl rfl)
          rw [if_t rfl] at nf
          obtain ⟨A, hA⟩ : ∃ A, A = 100000 * (W + 1) := ⟨_, rfl⟩
          have fz : ∀ i, A ≤ i → i ≤ A + 10006 → m (-1) i = 0 := fun i c d => h.1.2.2.2.2.2.2.2.1 W (by omega) (by omega) i (by omega) (by omega)
          obtain ⟨m1, x0, x1, x2, x3, x4, x5, x6, x7, x8, x9⟩ := x_newFlow (W := W) (a := a) (b := b) (v := v) (by omega) fz
          have k5 : alo9 m A 20 11 1 5 = W := by rw [alo_row (by omega) (by omega) (by omega), e5, hW]
          have r1m : m1 1 = m 1 := x1 1 (by omega) (by omega) (by omega)
          have r3m : m1 3 = m 3 := x1 3 (by omega) (by omega) (by omega)
          rw [y1, cag_e, vl_e, ← hW, ← hA, chk_t ⟨by omega, fz A (by omega) (by omega)⟩, st_e, k5, x0, cal_e]
          have xa : X11_addFlow 1 A m1 = some (0, upd9 (upd9 m1 3 W A) 1 5 (W + 1)) := by
            have q5 : upd9 m1 3 W A 1 5 = W := by rw [upd9_n (by omega), r1m, e5, hW]
            unfold X11_addFlow X11_addFlow_0
            rw [r1m, e5, e11, ← hW, if_f (show ¬ 10 ≤ W by omega)]
            repeat rw [chk_t (by omega)]
            rw [st_e, q5]
            repeat rw [chk_t (by omega)]
            rw [st_e]
          rw [xa, cal_e]
          have u0 : upd9 (upd9 m1 3 W A) 1 5 (W + 1) A 0 = W := by rw [upd9_n (by omega), upd9_n (by omega)]; exact x4.1
          have uo : ∀ i, i ≠ 1 → i ≠ 3 → upd9 (upd9 m1 3 W A) 1 5 (W + 1) i = m1 i := fun i c d => by rw [upd9_row c, upd9_row d]
          have u1 : ∀ j, upd9 (upd9 m1 3 W A) 1 5 (W + 1) 1 j = if j = 5 then W + 1 else m 1 j := fun j => by
            by_cases c : j = 5
            · rw [if_t c, upd9_e rfl c]
            · rw [if_f c, upd9_n (by omega), upd9_n (by omega), r1m]
          have u3 : ∀ j, upd9 (upd9 m1 3 W A) 1 5 (W + 1) 3 j = if j = W then A else m 3 j := fun j => by
            by_cases c : j = W
            · rw [if_t c, upd9_n (by omega), upd9_e rfl c]
            · rw [if_f c, upd9_n (by omega), upd9_n (by omega), r3m]
          rw [u0]
          generalize upd9 (upd9 m1 3 W A) 1 5 (W + 1) = m2 at *
          have gc : GC r1 := by
            have gc := hz.2.2.gc
            have nw := nf.2.2.2.2.2.2.2
            refine ⟨fun w n c d e f => ?_, fun c d e => ?_⟩
            · by_cases i : w = W
              · rw [i, nf.2.2.2.2.2.1.2.2.2.2] at f; omega
              · rw [nf.1] at d
                rw [nw 32 w (by omega)] at f
                have k := gc.1 w n c (by omega) e f
                rw [nw 33 _ (by omega)]
                rcases k with k | k
                · exact Or.inl k
                · right
                  rw [nf.1, nw 9 _ (by omega), nw 10 _ (by omega), nw 11 _ (by omega), nw 12 w (by omega)]
                  exact ⟨k.1, by omega, k.2.2⟩
            · rw [nf.1] at e
              by_cases i : c = W
              · rw [i]
                exact Or.inl nf.2.1.2.2.1
              · have k := gc.2 c d (by omega)
                rw [nw 9 c (by omega)]
                rcases k with k | k
                · exact Or.inl k
                · right
                  rw [nw 10 c (by omega), nw 11 c (by omega), nw 12 _ (by omega), nw 32 _ (by omega), nw 33 _ (by omega)]
                  exact k
          have flz : Fl r1 m2 W := by
            have nw := nf.2.2.2.2.2.2.2
            unfold Fl Rl
            rw [← hA, uo A (by omega) (by omega), uo (A + 1) (by omega) (by omega), uo (A + 2) (by omega) (by omega), nf.2.1.1, nf.2.1.2.1, nf.2.1.2.2.1, nf.2.2.1, nw 13 _ (by omega), nw 13 _ (by omega), gu1.2.1, gu1.2.2]
            refine ⟨⟨x4.1, x4.2.1, x4.2.2.1, x4.2.2.2.1, x4.2.2.2.2.1, x4.2.2.2.2.2.1, by rw [x4.2.2.2.2.2.2.1]; omega, x4.2.2.2.2.2.2.2.1⟩, fun hh => absurd rfl hh, ⟨x5.1 0, x5.1 1⟩, fun k k0 k1 => ?_⟩
            rw [show k - 1 = 0 by omega, x5.2]
            omega
          have hr : RelC N r1 m2 := by
            refine rel_newflow hz (by rw [z16, hW]) (by omega) nf (by omega) (by omega) (by omega) gc hA (fun i c d e f k => by rw [uo i f k]; exact x1 i c d e) (fun i c => by rw [uo (-1) (by omega) (by omega)]; exact x2 i c) u1 u3 flz ?_ ?_ ?_ (fun hh => absurd nf.2.1.2.2.1 hh)
            · rw [uo _ (by omega) (by omega)]; exact x6
            · rw [uo _ (by omega) (by omega)]; exact x7
            · rw [uo _ (by omega) (by omega), uo _ (by omega) (by omega), uo _ (by omega) (by omega)]; exact x8
          have o := nf.o
          refine ⟨0, W, m2, W, r1, rfl, rfl, Or.inl rfl, ?_, fun _ => rfl, hr.mono (by omega), fun w n c d e f => ?_, fun i c d => ?_, ?_, ?_, ?_, ?_⟩
          · rw [o 0 (by omega), ur_e rfl rfl, h0]
          · by_cases i : w = W
            · rw [i, nf.2.2.2.2.2.1.2.2.1] at f; omega
            · rw [nf.1] at d
              rw [nf.2.2.2.2.2.2.2 22 w (by omega)] at f
              rw [o 23 (by omega), o 1 (by omega), o 26 (by omega), o 27 (by omega)]
              exact tz w n c (by omega) e f
          · rw [uo i (by omega) (by omega)]; exact x1 i (by omega) (by omega) (by omega)
          · rw [uo _ (by omega) (by omega)]; exact x1 _ (by omega) (by omega) (by omega)
          · rw [uo _ (by omega) (by omega)]; exact x1 _ (by omega) (by omega) (by omega)
          · rw [uo _ (by omega) (by omega), x3.1, nf.1]; omega
          · rw [uo _ (by omega) (by omega), x3.2, nf.1]; omega
      · rw [if_f cv, if_t rfl, if_t rfl]
        unfold G_start_58
        rw [g_fineE (by decide), cag_e, if_t rfl]
        exact CallR.thr h tt (e := 2) rfl (by rw [h2]) (by omega)
    · unfold G_start_21 G_start_58
      rw [if_f cb, if_t rfl, if_t rfl, if_t rfl, g_fineE (by decide), cag_e, if_t rfl]
      exact CallR.thr h tt (e := 1) rfl (by rw [h1]) (Or.inl rfl)
  · unfold G_start_21 G_start_58
    rw [if_f ca, if_t rfl, if_t rfl, if_t rfl, g_fineE (by decide), cag_e, if_t rfl]
    exact CallR.thr h tt (e := 1) rfl (by rw [h1]) (Or.inl rfl)
end NS
