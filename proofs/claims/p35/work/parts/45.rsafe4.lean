/-! the reference's play within its rows: being done with what was waited for -/
def Bh (r : Rst) : Prop := 0 ≤ r 64 0 ∧ r 64 0 ≤ r 5 (r 77 0)
theorem ok_finishes4 {D T U S d : Int} (hD : D < 5200) (hU : U ≤ 5200) (hT : T ≤ 1000000) : ∀ (n : Nat) (l1 l2 : Int) (r : Rst), 0 ≤ l2 → l2 ≤ 3 → 3 - l2 < n → Bz D T U S r → r 42 0 = 0 → Bh r → r 76 0 = d → Ok (G_finishes_4 G_finishes_63 n l1 l2 r) r fun _ r' => Bd (D + 1) (T + 1) U S r' ∧ r' 55 0 = 0 ∧ r' 76 0 ≤ d + 1 := by
  intro n
  induction n with
  | zero => intro l1 l2 r h1 h2 h3; omega
  | succ n ih =>
    intro l1 l2 r h1 h2 h3 hb hm hh hd
    rw [G_finishes_4]
    have hw := hb.2.2.2.2.2.2.2.2.2.1
    have step : ∀ s0, -100000 ≤ s0 → s0 ≤ 100000 → l2 < r 55 0 → Ok (G_finishes_35 (G_finishes_4 G_finishes_63 n) l1 l2 s0 r) r fun _ r' => Bd (D + 1) (T + 1) U S r' ∧ r' 55 0 = 0 ∧ r' 76 0 ≤ d + 1 := by
      intro s0 g1 g2 g3
      unfold G_finishes_35
      have hn : ∀ l, Ok (G_finishes_4 G_finishes_63 n l (l2 + 1) (ur r 41 0 s0)) (ur r 41 0 s0) fun _ r' => Bd (D + 1) (T + 1) U S r' ∧ r' 55 0 = 0 ∧ r' 76 0 ≤ d + 1 := fun l => by
        refine ih l (l2 + 1) (ur r 41 0 s0) (by omega) (by omega) (by omega) (hb.v41 g1 g2) ?_ ?_ ?_
        · simp (disch := omega) only [ur_n]; exact hm
        · unfold Bh; simp (disch := omega) only [ur_n]; exact hh
        · simp (disch := omega) only [ur_n]; exact hd
      exact Ok.st (by decide) (by decide) (by decide) (by decide) (by decide) (by decide) (Ok.ite (fun _ => Ok.chk (by omega) (Ok.ite (fun _ => Ok.chk (by omega) (hn 0)) fun _ => Ok.chk (by omega) (hn 1))) fun _ => Ok.chk (by omega) (hn 1))
    have b41 := hb.2.2.2.2.2.2.2.2.1
    have b62 := hb.2.2.2.2.2.2.2.2.2.2.1 l2
    refine Ok.ite (fun _ => ?_) fun c => Ok.chk (by omega) (Ok.ite (fun _ => step (r 41 0) b41.1 b41.2 (by omega)) fun _ => Ok.chk (by omega) (step (r 62 l2) b62.1 b62.2 (by omega)))
    unfold G_finishes_63
    have hb2 : Bz D T U S (ur (ur r 55 0 0) 40 0 ((ur r 55 0 0) 64 0)) := ((hb.v55 (v := 0) (by omega) (by omega)).oth (j := 40) rfl)
    refine Ok.st (by decide) (by decide) (by decide) (by decide) (by decide) (by decide) (Ok.st (by decide) (by decide) (by decide) (by decide) (by decide) (by decide) (Ok.ite (fun _ => Ok.ret ?_) fun _ => ?_))
    · refine ⟨⟨hb2.mono (by omega) (by omega) (by omega) (by omega), ?_⟩, ?_, ?_⟩
      · unfold Md
        unfold Bh at hh
        simp (disch := omega) only [ur_n, ur_e]
        omega
      · simp (disch := omega) only [ur_n, ur_e]
      · simp (disch := omega) only [ur_n]; omega
    · refine Ok.cag (ok_fails hb2 (by omega) hD hU hT) fun v r' _ _ hp => Ok.ret ⟨hp.1, hp.2.2.1, ?_⟩
      rw [hp.2.2.2]
      simp (disch := omega) only [ur_n]; omega
theorem ok_finishes {D T U S : Int} {r : Rst} (h : Bz D T U S r) (hm : r 42 0 = 0) (hh : Bh r) (hD : D < 5200) (hU : U ≤ 5200) (hT : T ≤ 1000000) : Ok (G_finishes r) r fun _ r' => Bd (D + 1) (T + 1) U S r' ∧ r' 55 0 = 0 ∧ r' 76 0 ≤ r 76 0 + 1 := by
  unfold G_finishes G_finishes_0
  exact ok_finishes4 hD hU hT fuel9 0 0 r (by omega) (by omega) (fuel_big (by omega)) h hm hh rfl
theorem ok_areDone {r : Rst} {D T U S : Int} (h : Bz D T U S r) : Ok (G_areDone r) r fun v r' => r' = r ∧ (v = 0 ∨ v = 1) ∧ (v = 1 ↔ ∀ k, 0 ≤ k → k < r 55 0 → r 60 k = 1) := by
  obtain ⟨v, e, h1, h2⟩ := f_areDone0 (fun k _ _ => h.2.2.2.2.2.2.2.2.2.2.2.2.1 k) h.2.2.2.2.2.2.2.2.2.1.2
  exact ⟨v, r, e, SameP.rf, Made.rf, rfl, h1, h2⟩
/-- behind what was begun: it is waited for, or all is done at once -/
theorem ok_waitsAt62 {D T U S s l2 d : Int} {r : Rst} (h : Bz D T U S r) (hm : r 42 0 = 0) (hw : 1 ≤ r 55 0) (hs : 0 ≤ s) (hl : 0 ≤ l2) (hs2 : s + l2 + 1 ≤ r 5 (r 77 0)) (hs3 : r 5 (r 77 0) ≤ 12) (hd : r 76 0 ≤ d + 3) (hd2 : (∀ k, 0 ≤ k → k < r 55 0 → r 60 k = 1) → r 76 0 = d) (hD : D < 5200) (hU : U ≤ 5200) (hT : T ≤ 1000000) : Ok (G_waitsAt_62 s l2 r) r fun _ r' => Bd (D + 1) (T + 1) U S r' ∧ (r' 55 0 = 0 ∧ r' 76 0 ≤ d + 1 ∨ r' 42 0 = 0 ∧ 0 < r' 55 0 ∧ r' 76 0 ≤ d + 3) := by
  unfold G_waitsAt_62
  refine Ok.chk (by omega) (Ok.chk (by omega) (Ok.st (by decide) (by decide) (by decide) (by decide) (by decide) (by decide) ?_))
  have hb := h.oth (j := 64) (i := 0) (v := s + l2 + 1) rfl
  refine Ok.cag (ok_areDone hb) fun v r' _ _ hp => ?_
  obtain ⟨e, hv0, hv⟩ := hp
  rw [e]
  refine Ok.ite (fun c => Ok.ret ?_) fun c => ?_
  · refine ⟨⟨hb.mono (by omega) (by omega) (by omega) (by omega), ?_⟩, Or.inr ?_⟩
    · unfold Md
      simp (disch := omega) only [ur_n, ur_e]
      omega
    · simp (disch := omega) only [ur_n]
      omega
  · have e1 : v = 1 := by omega
    have e2 := hv.mp e1
    simp (disch := omega) only [ur_n] at e2
    have e3 := hd2 e2
    refine Ok.cag (ok_finishes hb ?_ ?_ hD hU hT) fun v r' _ _ hp => Ok.ret ⟨hp.1, Or.inl ⟨hp.2.1, ?_⟩⟩
    · simp (disch := omega) only [ur_n]; exact hm
    · unfold Bh; simp (disch := omega) only [ur_n, ur_e]; omega
    · have := hp.2.2
      simp (disch := omega) only [ur_n] at this
      omega
theorem ok_waitsAt44 {T U S s d : Int} (hU : U ≤ 5200) (hT : T ≤ 90000) (hS : S ≤ 80) (hs : 0 ≤ s) : ∀ (n : Nat) (l2 l3 D : Int) (r : Rst), 0 ≤ l2 → l2 ≤ 3 → 0 ≤ l3 → l3 ≤ l2 + 1 → l2 + 1 - l3 < n → l2 - l3 < 3 - r 55 0 → (l2 < l3 → 1 ≤ r 55 0) → D + (l2 + 1 - l3) < 5200 → Bz D (T + (3 - (l2 + 1 - l3))) U S r → PgR r → r 42 0 = 0 → s + l2 + 1 ≤ r 5 (r 77 0) → (∀ k, l3 ≤ k → k ≤ l2 → r 2 (12 * r 77 0 + (s + k)) ≤ 3) → r 76 0 ≤ d + r 55 0 → ((∀ k, 0 ≤ k → k < r 55 0 → r 60 k = 1) → r 76 0 = d) → Ok (G_waitsAt_44 G_waitsAt_62 n s l2 l3 r) r fun _ r' => Bd (D + (l2 + 1 - l3) + 1) (T + 4) U S r' ∧ (r' 55 0 = 0 ∧ r' 76 0 ≤ d + 1 ∨ r' 42 0 = 0 ∧ 0 < r' 55 0 ∧ r' 76 0 ≤ d + 3) := by
  intro n
  induction n with
  | zero => intro l2 l3 D r h1 h2 h3 h4 h5; omega
  | succ n ih =>
    intro l2 l3 D r h1 h2 h3 h4 h5 h6 h7 h8 hb g hm hs2 hk hd hd2
    rw [G_waitsAt_44]
    have hw := hb.2.2.2.2.2.2.2.2.2.1
    have g12 := g.2.2.2.1
    refine Ok.ite (fun c => ?_) fun c => ?_
    · refine (ok_waitsAt62 (d := d) hb hm (h7 c) hs h1 hs2 g12 (by omega) hd2 (by omega) hU (by omega)).imp fun v r' _ _ hp => ⟨hp.1.mono (by omega) (by omega) (by omega) (by omega), hp.2⟩
    · refine Ok.chk (by omega) (Ok.cag (ok_waitsFor hb g (by omega) (by omega) (hk l3 (by omega) (by omega)) (by omega) (by omega) (by omega) hS) fun v r' hsp _ hp => Ok.chk (by omega) ?_)
      obtain ⟨p1, p2, p3, p4, p5, p6, p7, p8⟩ := hp
      refine (ih l2 (l3 + 1) (D + 1) r' h1 h2 (by omega) (by omega) (by omega) (by omega) (fun _ => by omega) (by omega) (p1.mono (by omega) (by omega) (by omega) (by omega)) (g.same hsp) (by omega) ?_ ?_ (by omega) ?_).imp fun v r' _ _ hp => ⟨hp.1.mono (by omega) (by omega) (by omega) (by omega), hp.2⟩
      · rw [hsp 5 (by omega), hsp 77 (by omega)]; exact hs2
      · rw [hsp 2 (by omega), hsp 77 (by omega)]; exact fun k hk1 hk2 => hk k (by omega) hk2
      · intro ha
        rw [p2] at ha
        rw [p5 (ha (r 55 0) (by omega) (by omega))]
        refine hd2 fun k hk1 hk2 => ?_
        rw [← (p7 k (by omega)).1]
        exact ha k hk1 (by omega)
theorem ok_waitsAt {D T U S s : Int} {r : Rst} (h : Bz D T U S r) (g : PgR r) (hs0 : 0 ≤ s) (hs1 : s < r 5 (r 77 0)) (hk : r 2 (12 * r 77 0 + s) ≤ 4) (hm : r 42 0 = 0) (hD : D + 4 ≤ 5200) (hU : U ≤ 5200) (hT : T ≤ 80000) (hS : S ≤ 80) : Ok (G_waitsAt s r) r fun _ r' => Bd (D + 4) (T + 4) U S r' ∧ (r' 55 0 = 0 ∧ r' 76 0 ≤ r 76 0 + 1 ∨ r' 42 0 = 0 ∧ 0 < r' 55 0 ∧ r' 76 0 ≤ r 76 0 + 3) := by
  unfold G_waitsAt G_waitsAt_0 G_stepAt G_stepAt_0
  have hg := g.k hs0 hs1
  have gs := g.2.2.2.2 s hs0 hs1
  rw [chk_t (by omega), chk_t (by omega), cag_e, chk_t (by omega)]
  have go : ∀ l2 l3, 0 ≤ l2 → l2 ≤ 3 → 0 ≤ l3 → l3 ≤ l2 → l2 - l3 < 3 → s + l2 + 1 ≤ r 5 (r 77 0) → (∀ k, l3 ≤ k → k ≤ l2 → r 2 (12 * r 77 0 + (s + k)) ≤ 3) → Ok (G_waitsAt_44 G_waitsAt_62 fuel9 s l2 l3 (ur r 55 0 0)) (ur r 55 0 0) fun _ r' => Bd (D + 4) (T + 4) U S r' ∧ (r' 55 0 = 0 ∧ r' 76 0 ≤ r 76 0 + 1 ∨ r' 42 0 = 0 ∧ 0 < r' 55 0 ∧ r' 76 0 ≤ r 76 0 + 3) := by
    intro l2 l3 h1 h2 h3 h4 h5 h6 h7
    refine (ok_waitsAt44 (T := T) (d := r 76 0) hU (by omega) hS hs0 fuel9 l2 l3 D (ur r 55 0 0) h1 h2 h3 (by omega) (fuel_big (by omega)) ?_ (fun _ => by omega) (by omega) ((h.v55 (v := 0) (by omega) (by omega)).mono (by omega) (by omega) (by omega) (by omega)) ?_ ?_ ?_ ?_ ?_ ?_).imp fun v r' _ _ hp => ⟨hp.1.mono (by omega) (by omega) (by omega) (by omega), hp.2⟩
    · simp (disch := omega) only [ur_e]; omega
    · exact g.same (SameP.rf.ur (by decide) (by decide))
    · simp (disch := omega) only [ur_n]; exact hm
    · simp (disch := omega) only [ur_n]; exact h6
    · simp (disch := omega) only [ur_n]; exact h7
    · simp (disch := omega) only [ur_n, ur_e]; omega
    · intro _; simp (disch := omega) only [ur_n]
  refine Ok.ite (fun c => ?_) fun c => ?_
  · rw [chk_t (by omega), chk_t (by omega), cag_e, chk_t (by omega)]
    have g4 := gs.2.2.2.2.2.2.2.2.2.2.1 c
    unfold G_waitsAt_28
    refine Ok.st (by decide) (by decide) (by decide) (by decide) (by decide) (by decide) (Ok.ite (fun _ => by omega) fun _ => ?_)
    exact go _ _ (by omega) (by omega) (by omega) (by omega) (by omega) (by omega) fun k h1 h2 => g4.2.2.2 k h1 h2
  · unfold G_waitsAt_28
    refine Ok.st (by decide) (by decide) (by decide) (by decide) (by decide) (by decide) (Ok.ite (fun _ => ?_) fun _ => by omega)
    exact go _ _ (by omega) (by omega) (by omega) (by omega) (by omega) (by omega) fun k h1 h2 => by
      have : k = 0 := by omega
      subst this
      rw [Int.add_zero]; omega
