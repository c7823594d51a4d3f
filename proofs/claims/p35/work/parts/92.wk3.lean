/-! one call on both sides: workers and queues (3) -/
section WS
variable {cd : Int → Int} {N N' : Int} {r r' : Rst} {m m' : Mem} {w n : Int}
theorem GI.gk (h : GI N r) : GK r := h.2.2.2.2.2.2.2.1
theorem GI.gn (h : GI N r) : GN N r := h.2.2.2.2.2.2.2.2
theorem GI.gc (h : GI N r) : GC r := h.2.2.2.2.2.2.1
theorem GI.hi (h : GI N r) (w0 : 0 ≤ w) (w1 : w < r 16 0) : HI r w := h.2.2.2.2.2.1 w w0 w1
theorem RelC.z0 (h : RelC N r m) : RelC N (ur r 0 0 0) m := h.fr h.1.2.1 (fun _ _ => rfl) fun j hj => ur_ne (by omega)
theorem c_run {k x : Int} (h : RelC N r m) (tt : GT r) (h0 : cd 0 = 0) (h1 : cd 1 = 1) (hx : x = 0 ∨ x = 1) : CallR cd N r m (X11_run 1 k x m) (G_run k x r) := by
  have g := h.2.2.rg
  have b := g.1
  unfold X11_run X11_run_0 G_run G_run_0 G_run_13
  rw [chk_t (by omega), x_handOf h.1, g_isWorker, cag_e]
  by_cases c : 0 ≤ k ∧ k ≤ 3
  · have wk := h.1.2.2.2.2.1 k c.1 (by omega)
    have hz := h.z0
    have gz := hz.2.2.rg
    have ez : ur r 0 0 0 39 k = r 39 k := ur_n (by omega)
    have key : ∀ s0 : Int, s0 = 0 ∨ s0 = 1 → CallR cd N r m (boolX (X11_run_18 x (5100 + k) s0 m)) (boolG (G_run_36 k x s0 (ur r 0 0 0))) := fun s0 hs0 => by
      unfold X11_run_18 G_run_36 G_run_56
      rw [chk_t (by omega), st_e]
      have fin : ∀ (v : Int) (m1 : Mem), (x = 0 → v = -1 ∧ m1 = upd9 (upd9 m (5100 + k) 0 x) (5100 + k) 1 0) → (x ≠ 0 → v = r 39 k ∧ m1 = upd9 m (5100 + k) 0 x) → CallR cd N r m (some (0, s0, m1)) (some (s0, ur (ur (ur r 0 0 0) 39 k v) 38 k x)) := fun v m1 e1 e2 => by
        have em : ∀ i, i ≠ 5100 + k → m1 i = m i := fun i hi => by
          by_cases d : x = 0
          · rw [(e1 d).2, upd9_row hi, upd9_row hi]
          · rw [(e2 d).2, upd9_row hi]
        have er : ∀ j : Nat, j ≠ 38 → j ≠ 39 → ur (ur (ur r 0 0 0) 39 k v) 38 k x j = ur r 0 0 0 j := fun j a b => by rw [ur_ne a, ur_ne b]
        have hr : RelM (ur (ur (ur r 0 0 0) 39 k v) 38 k x) m1 := by
          refine rel_wk hz.1 gz (fun i hi => em i (by omega)) er fun q a d => ?_
          have wq := hz.1.2.2.2.2.1 q a d
          unfold Wk at *
          rw [em 5 (by omega), er 16 (by omega) (by omega), er 22 (by omega) (by omega)]
          unfold Rl at *
          rw [er 12 (by omega) (by omega)]
          by_cases e : q = k
          · subst e
            rw [ur_e rfl rfl, ur_n (by omega), ur_e rfl rfl]
            by_cases f : x = 0
            · obtain ⟨f1, f2⟩ := e1 f
              rw [f1, f2]
              simp (disch := omega) only [upd9_n, upd9_e]
              exact ⟨wq.1, trivial, Or.inl ⟨trivial, trivial⟩⟩
            · obtain ⟨f1, f2⟩ := e2 f
              rw [f1, f2]
              simp (disch := omega) only [upd9_n, upd9_e]
              refine ⟨wq.1, trivial, ?_⟩
              have := wq.2.2
              rw [ez] at this
              exact this
          · have x38 : ur (ur (ur r 0 0 0) 39 k v) 38 k x 38 q = ur r 0 0 0 38 q := by rw [ur_n (by omega), ur_n (by omega)]
            have x39 : ur (ur (ur r 0 0 0) 39 k v) 38 k x 39 q = ur r 0 0 0 39 q := by rw [ur_n (by omega), ur_n (by omega)]
            rw [em _ (by omega), x38, x39]
            exact wq
        refine CallR.own h rfl rfl (h.mk hr (h.2.2.act (fun j a b c d e f l => by rw [er j f l, ur_ne a]) (fun w n a b c d e => by rw [er 23 (by omega) (by omega), ur_n (by omega)]; exact e) ?_) (fun w a b => em _ ?_) fun j hj => by rw [er j (by omega) (by omega), ur_ne (by omega)]) (tt.fr fun j hj => by rw [er j (by omega) (by omega), ur_ne (by omega)]) ?_ (fun i hi => em i (by omega)) (by rw [er 16 (by omega) (by omega), ur_n (by omega)])
        · obtain ⟨k1, k2⟩ := hz.2.2.gk
          refine ⟨fun q a d => ?_, ?_⟩
          · rw [er 23 (by omega) (by omega)]
            have kq := k1 q a d
            by_cases e : q = k
            · subst e
              rw [ur_e rfl rfl, ur_n (by omega), ur_e rfl rfl]
              refine ⟨hx, ?_⟩
              by_cases f : x = 0
              · exact Or.inl (e1 f).1
              · rw [(e2 f).1]
                rw [ez] at kq
                exact kq.2
            · have x38 : ur (ur (ur r 0 0 0) 39 k v) 38 k x 38 q = ur r 0 0 0 38 q := by rw [ur_n (by omega), ur_n (by omega)]
              have x39 : ur (ur (ur r 0 0 0) 39 k v) 38 k x 39 q = ur r 0 0 0 39 q := by rw [ur_n (by omega), ur_n (by omega)]
              rw [x38, x39]
              exact kq
          · rw [er 16 (by omega) (by omega), er 22 (by omega) (by omega), er 23 (by omega) (by omega), er 25 (by omega) (by omega), er 26 (by omega) (by omega), er 27 (by omega) (by omega), er 1 (by omega) (by omega)]
            exact k2
        · have := (g.2.2 w a b).1
          unfold Rl
          omega
        · rw [er 0 (by omega) (by omega), ur_e rfl rfl, h0]
      by_cases d : x = 0
      · rw [if_t d, if_t d, chk_t (by omega), stg_e, chk_t (by omega), stg_e, st_e, boolX_e (by omega), boolG_e (by omega)]
        exact fin _ _ (fun _ => ⟨rfl, rfl⟩) (fun h => absurd d h)
      · rw [if_f d, if_f d, chk_t (by omega), chk_t (by omega), stg_e, chk_t (by omega), stg_e, boolX_e (by omega), boolG_e (by omega)]
        exact fin _ _ (fun h => absurd h d) (fun _ => ⟨ez, rfl⟩)
    rw [if_t c, if_t c, calX_0, chk_t (by omega), if_f (show ¬ (1 : Int) = 0 by decide), g_fine0, cag_e, if_f (show ¬ (1 : Int) = 0 by decide), chk_t (by omega), ez]
    rcases wk.2.2 with ⟨d1, d2⟩ | ⟨w, n, d1, d2, d3, d4, d5, d6⟩
    · rw [if_t d2, if_t d1]
      exact key 0 (Or.inl rfl)
    · have s := g.2.2 w d1 d2
      have s1 := s.1
      have eR : Rl r w = 100000 * (w + 1) + 10000 * r 12 w := rfl
      rw [if_f (show ¬ m (5100 + k) 1 = 0 by omega), if_f (show ¬ r 39 k = -1 by omega)]
      exact key 1 (Or.inr rfl)
  · rw [if_f c, if_f c, calX_e (by decide), if_t rfl, g_fineE (by decide), cag_e, if_t rfl, boolX_e (by omega), boolG_e (by omega)]
    exact CallR.thr h tt (e := 1) rfl (by rw [h1]) (Or.inl rfl)
/-- what a worker has -/
theorem x_actOf {k : Int} (h : RelM r m) (g : Rg r) (c : 0 ≤ k ∧ k ≤ 3) : X11_activityOf (5100 + k) m = some (if r 39 k = -1 then (3, 0, thr9 m) else (0, m (5100 + k) 1, m)) := by
  have wk := h.2.2.2.2.1 k c.1 (by omega)
  unfold X11_activityOf X11_activityOf_0
  rw [chk_t (by omega)]
  rcases wk.2.2 with ⟨d1, d2⟩ | ⟨w, n, d1, d2, d3, d4, d5, d6⟩
  · rw [if_t d2, if_t d1]
  · have s := g.2.2 w d1 d2
    have s1 := s.1
    have eR : Rl r w = 100000 * (w + 1) + 10000 * r 12 w := rfl
    rw [if_f (show ¬ m (5100 + k) 1 = 0 by omega), if_f (show ¬ r 39 k = -1 by omega)]
theorem c_beat {k : Int} (h : RelC N r m) (tt : GT r) (hN : N ≤ 600) (h0 : cd 0 = 0) (h1 : cd 1 = 1) (h3 : cd 3 = 2) : CallR cd N r m (X11_beat 1 k m) (G_beat k r) := by
  have g := h.2.2.rg
  have b := g.1
  unfold X11_beat X11_beat_0 G_beat G_beat_0 G_beat_29
  rw [chk_t (by omega), x_handOf h.1, g_isWorker, cag_e]
  by_cases c : 0 ≤ k ∧ k ≤ 3
  · have wk := h.1.2.2.2.2.1 k c.1 (by omega)
    rw [if_t c, if_t c, calX_0, x_actOf h.1 g c, if_f (show ¬ (1 : Int) = 0 by decide), chk_t (by omega)]
    rcases wk.2.2 with ⟨d1, d2⟩ | ⟨w, n, d1, d2, d3, d4, d5, d6⟩
    · rw [if_t d1, if_t d1, calX_e (by decide), g_fineE (by decide), cag_e, if_t rfl]
      exact CallR.thr h tt (e := 3) rfl (by rw [h3]) (by omega)
    · have s := g.2.2 w d1 d2
      have s1 := s.1
      have s2 := s.2.1
      have lt := (h.2.2.lt d1 d2).1
      have eR : Rl r w = 100000 * (w + 1) + 10000 * r 12 w := rfl
      have ac := ((h.1.2.2.2.2.2.1 w d1 d2).2.2.2.1 n d3 d4).2
      have gk := h.2.2.gk
      have gn := h.2.2.gn
      have how : r 23 (80 * w + n) = 2 := by
        rcases (gk.1 k c.1 (by omega)).2 with e | e
        · omega
        · rw [d5] at e; exact e
      have cl : m 1 7 = r 1 0 := h.1.1.1.2.2.2.2.2.2.2
      have n39 : ¬ r 39 k = -1 := by omega
      have ez : ur r 0 0 0 39 k = 80 * w + n := by rw [ur_n (by omega)]; exact d5
      have e1 : ur r 0 0 0 1 0 = r 1 0 := ur_n (by omega)
      have ez2 : ur (ur r 0 0 0) 27 (80 * w + n) (r 1 0 + 10) 39 k = 80 * w + n := by rw [ur_n (by omega)]; exact ez
      have gn1 := gn.1
      rw [if_f n39, if_f n39, calX_0, d6, cl, chk_t (by omega), chk_t (by omega), st_e, g_fine0, cag_e, if_f (by decide), e1, ez, chk_t (by omega), chk_t (by omega), chk_t (by omega), stg_e, ez2, chk_t (by omega), chk_t (by omega), upd9_e rfl rfl, ur_e rfl rfl]
      have er : ∀ (j : Nat) i, j ≠ 0 → j ≠ 27 ∨ i ≠ 80 * w + n → ur (ur r 0 0 0) 27 (80 * w + n) (r 1 0 + 10) j i = r j i := fun j i a b => by rw [ur_n b, ur_n (Or.inl a)]
      have nf : ∀ j : Nat, j ≠ 0 → j ≠ 27 → ur (ur r 0 0 0) 27 (80 * w + n) (r 1 0 + 10) j = r j := fun j a b => by rw [ur_ne b, ur_ne a]
      have em : ∀ i, i ≠ Rl r w + 100 + n → upd9 m (Rl r w + 100 + n) 8 (r 1 0 + 10) i = m i := fun i hi => upd9_row hi
      have hr : RelM (ur (ur r 0 0 0) 27 (80 * w + n) (r 1 0 + 10)) (upd9 m (Rl r w + 100 + n) 8 (r 1 0 + 10)) := by
        have eRz : Rl (ur r 0 0 0) w = Rl r w := by unfold Rl; rw [ur_n (by omega)]
        have hz := h.z0
        rw [← eRz]
        refine rel_act hz.1 hz.2.2.rg d1 (by rw [ur_n (by omega)]; exact d2) d3 (by rw [ur_n (by omega)]; exact d4) (fun i hi => upd9_row hi) ?_ (fun j i hi => ur_n (by omega))
        rw [eRz]
        unfold ActC Rl at *
        simp (disch := omega) only [ur_n, ur_e, upd9_n, upd9_e]
        obtain ⟨a1, a2⟩ := ac
        refine ⟨a1, Or.inr (Or.inl ⟨how, ?_, trivial⟩)⟩
        rcases a2 with a2 | a2 | a2 | a2
        · omega
        · exact a2.2.1
        · omega
        · omega
      refine CallR.own h rfl rfl (h.mk hr (h.2.2.act (fun j a b c d e f l => nf j a e) (fun w n a b c d e => by rw [nf 23 (by omega) (by omega)]; exact e) ?_) (fun w2 a b => em _ ?_) fun j hj => nf j (by omega) (by omega)) ?_ ?_ (fun i hi => em i (by omega)) (by rw [nf 16 (by omega) (by omega)])
      · obtain ⟨k1, k2⟩ := gk
        unfold GK
        rw [nf 38 (by omega) (by omega), nf 39 (by omega) (by omega), nf 23 (by omega) (by omega), nf 16 (by omega) (by omega), nf 22 (by omega) (by omega), nf 25 (by omega) (by omega), nf 26 (by omega) (by omega), nf 1 (by omega) (by omega)]
        refine ⟨k1, fun w2 n2 a b c d => ?_⟩
        obtain ⟨e2, e3, e4⟩ := k2 w2 n2 a b c d
        refine ⟨e2, fun f => ⟨(e3 f).1, ?_⟩, e4⟩
        by_cases i : 80 * w2 + n2 = 80 * w + n
        · rw [ur_e rfl i]; omega
        · rw [er 27 _ (by omega) (Or.inr i)]; exact (e3 f).2
      · have t1 := (g.2.2 w2 a b).1
        have t2 := (g.2.2 w2 a b).2.1
        have eR2 : Rl r w2 = 100000 * (w2 + 1) + 10000 * r 12 w2 := rfl
        by_cases e : w2 = w
        · rw [e]; omega
        · omega
      · intro w2 n2 a b c d
        rw [nf 16 (by omega) (by omega)] at b
        rw [nf 22 (by omega) (by omega)] at d
        rw [nf 1 (by omega) (by omega), nf 23 (by omega) (by omega), nf 26 (by omega) (by omega)]
        obtain ⟨t1, t2⟩ := tt w2 n2 a b c d
        refine ⟨fun f => ?_, t2⟩
        by_cases i : 80 * w2 + n2 = 80 * w + n
        · rw [ur_e rfl i]; omega
        · rw [er 27 _ (by omega) (Or.inr i)]; exact t1 f
      · rw [ur_n (by omega), ur_e rfl rfl, h0]
  · rw [if_f c, if_f c, calX_e (by decide), if_t rfl, g_fineE (by decide), cag_e, if_t rfl]
    exact CallR.thr h tt (e := 1) rfl (by rw [h1]) (Or.inl rfl)
end WS
