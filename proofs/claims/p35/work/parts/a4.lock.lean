/-! the same play told again: where it was new, it is now held against what was told -/
/-- what was decided is what X tells -/
def Tl (X r : Rst) : Prop := r 76 0 ≤ X 79 0 - X 78 0 ∧ ∀ k, 0 ≤ k → k < r 76 0 → r 72 k = X 19 (X 78 0 + k) ∧ r 73 k = X 20 (X 78 0 + k) ∧ r 74 k = X 21 (X 78 0 + k)
theorem Tl.made {X r r' : Rst} (h : Tl X r') (m : Made r r') : Tl X r := by
  obtain ⟨h1, h2⟩ := h
  obtain ⟨m1, m2⟩ := m
  refine ⟨by omega, fun k k0 k1 => ?_⟩
  obtain ⟨a, b, c⟩ := m2 k k1
  obtain ⟨a', b', c'⟩ := h2 k k0 (by omega)
  exact ⟨a.symm.trans a', b.symm.trans b', c.symm.trans c'⟩
section LK
variable {X r r' : Rst} {v : Int}
theorem ck {o : Option G2} {K K' : Int → Rst → Option G2} {x y : G2} (e : cag o K = some x) (h : ∀ v1 r1, o = some (v1, r1) → K v1 r1 = some x → K' v1 (ov X r1) = some y) : cag (oM X o) K' = some y := by
  obtain ⟨v1, r1, e1, e2⟩ := cag_some e
  rw [e1]
  exact h v1 r1 e1 e2
theorem o_isMarked_65 {x s : Int} : G_isMarked_65 x s (ov X r) = oM X (G_isMarked_65 x s r) := by
  unfold G_isMarked_65
  simp (disch := omega) only [o_decides, ov_stg, ov_ri, cag_oM, oM_cag, oM_stg, oM_chk, oM_ite, oM_some]
/-- it is told again, and it was new; or nothing that the marks look at is another -/
def Nw (X r : Rst) : Prop := (r 80 0 = 1 ∧ X 80 0 = 0 ∧ 0 ≤ X 78 0 ∧ X 79 0 ≤ 7200) ∨ (X 78 0 = r 78 0 ∧ X 79 0 = r 79 0 ∧ X 80 0 = r 80 0 ∧ 0 ≤ r 76 0 ∧ ∀ i, r 78 0 ≤ i → i < r 79 0 → X 19 i = r 19 i ∧ X 20 i = r 20 i)
theorem Nw.mq (h : Nw X r) (k : Made r r' ∧ SameQ r r') : Nw X r' := by
  obtain ⟨⟨k0, -⟩, k⟩ := k
  unfold Nw at *
  rw [k 80 (by omega), k 78 (by omega), k 79 (by omega), k 19 (by omega), k 20 (by omega)]
  rcases h with h | ⟨h1, h2, h3, h4, h5⟩
  · exact Or.inl h
  · exact Or.inr ⟨h1, h2, h3, by omega, h5⟩
theorem Nw.u (h : Nw X r) {j : Nat} {i w : Int} (hj : 40 ≤ j ∧ j < 76) : Nw X (ur r j i w) := by
  unfold Nw at *
  rw [ur_ne (by omega), ur_ne (by omega), ur_ne (by omega), ur_ne (by omega), ur_ne (by omega), ur_ne (by omega)]
  exact h
theorem k_isMarked {x : Int} (nw : Nw X r) (e : G_isMarked x r = some (v, r')) (t : Tl X r') : G_isMarked x (ov X r) = some (v, ov X r') := by
  unfold G_isMarked G_isMarked_0 at e ⊢
  have e48 : ov X r 48 0 = r 48 0 := ov_ri (by omega)
  have e76 : ov X r 76 0 = r 76 0 := ov_ri (by omega)
  have e78 : ov X r 78 = X 78 := ov_x (by omega)
  have e79 : ov X r 79 = X 79 := ov_x (by omega)
  have e80 : ov X r 80 = X 80 := ov_x (by omega)
  have e19 : ov X r 19 = X 19 := ov_x (by omega)
  have e20 : ov X r 20 = X 20 := ov_x (by omega)
  rw [e48, e76, e78, e79, e80, e19, e20]
  obtain ⟨e, hv⟩ := bool_some e
  rcases ite_some e with ⟨c, e⟩ | ⟨c, e⟩
  · cases e
    rw [if_t c, boolG_e (by omega)]
  rcases nw with ⟨n1, n2, n3, n4⟩ | ⟨n1, n2, n3, n4, n5⟩
  · obtain ⟨-, e⟩ := chk_some e
    have e := (ite_some e).resolve_left (fun hh => by omega)
    have e := e.2
    have e9 := e
    unfold G_isMarked_65 at e
    have e := (ite_some e).resolve_left (fun hh => by omega)
    obtain ⟨v1, r1, e1, e2⟩ := cag_some (stg_some e.2)
    obtain ⟨hc, -, er⟩ := dec_inv e1
    cases e2
    rw [ur_n (by omega)] at hc
    have t1 := t.1
    have t2 := t.2 (r 76 0) hc.1
    rw [er] at t1 t2
    have ev := gdec_v (k := 13) (x := x) (y := 0) (a := r 76 0) (r := ur r 48 0 (Int32.ofInt (r 48 0) ||| Int32.ofInt ((Int32.ofInt 1 <<< (Int32.ofInt x &&& 31)).toInt)).toInt)
    rw [ur_n (j := 48) (a := 76) (by omega), if_t rfl, if_t rfl, if_t rfl] at ev
    rw [gdec_76, ur_n (by omega)] at t1 t2
    have t2 := t2 (by omega)
    rw [ev.1, ev.2.1, ev.2.2] at t2
    rw [if_f c, chk_t (by omega), if_t n2, if_f (by omega), chk_t (by omega), if_t t2.1.symm, chk_t (by omega), if_t t2.2.1.symm, o_isMarked_65, e9]
    show boolG (some (1, ov X r')) = _
    rw [boolG_e (by omega)]
  · obtain ⟨ci, e⟩ := chk_some e
    rw [if_f c, n1, n2, n3, chk_t ci]
    have fin : ∀ s0 : Int, G_isMarked_65 x s0 r = some (v, r') → boolG (G_isMarked_65 x s0 (ov X r)) = some (v, ov X r') := fun s0 e => by
      rw [o_isMarked_65, e]
      exact boolG_e hv
    rcases ite_some e with ⟨c1, e⟩ | ⟨c1, e⟩
    · rw [if_t c1]
      rcases ite_some e with ⟨c2, e⟩ | ⟨c2, e⟩
      · rw [if_t c2]; exact fin _ e
      · obtain ⟨c3, e⟩ := chk_some e
        obtain ⟨n6, n7⟩ := n5 (r 78 0 + r 76 0) (by omega) (by omega)
        rw [if_f c2, chk_t c3, n6, n7]
        rcases ite_some e with ⟨c4, e⟩ | ⟨c4, e⟩
        · obtain ⟨c5, e⟩ := chk_some e
          rw [if_t c4, chk_t c5]
          rcases ite_some e with ⟨c6, e⟩ | ⟨c6, e⟩
          · rw [if_t c6]; exact fin _ e
          · rw [if_f c6]; exact fin _ e
        · rw [if_f c4]; exact fin _ e
    · rw [if_f c1]; exact fin _ e
theorem k_passes {s : Int} (nw : Nw X r) (e : G_passes s r = some (v, r')) (t : Tl X r') : G_passes s (ov X r) = some (v, ov X r') := by
  unfold G_passes G_passes_0 at e ⊢
  rw [o_stepAt]
  refine ck e fun p r1 e1 e => ?_
  obtain ⟨rfl, rfl⟩ := stepAt_inv e1
  clear e1
  generalize 12 * r1 77 0 + s = p at *
  obtain ⟨ci, e⟩ := chk_some e
  have e := stg_some e
  rw [chk_t ci, ov_stg (by omega), stg_e]
  have nz : Nw X (ur r1 40 0 (s + 1)) := nw.u (by omega)
  generalize ur r1 40 0 (s + 1) = z at *
  obtain ⟨cp, e⟩ := chk_some e
  have e2 : ov X z 2 p = z 2 p := ov_ri (by omega)
  rw [chk_t cp, e2]
  rcases ite_some e with ⟨c, e⟩ | ⟨c5, e⟩
  · rw [if_t c]
    have q := congrArg (oM X) e
    simp (disch := omega) only [ov_stg, ov_ri, cag_oM, oM_cag, oM_stg, oM_chk, oM_ite, oM_some] at q ⊢
    exact q
  rw [if_f c5]
  rcases ite_some e with ⟨c, e⟩ | ⟨c6, e⟩
  · rw [if_t c]
    have q := congrArg (oM X) e
    simp (disch := omega) only [ov_stg, ov_ri, cag_oM, oM_cag, oM_stg, oM_chk, oM_ite, oM_some] at q ⊢
    exact q
  rw [if_f c6]
  rcases ite_some e with ⟨c, e⟩ | ⟨c7, e⟩
  · rw [if_t c]
    have q := congrArg (oM X) e
    simp (disch := omega) only [ov_stg, ov_ri, cag_oM, oM_cag, oM_stg, oM_chk, oM_ite, oM_some] at q ⊢
    exact q
  rw [if_f c7]
  rcases ite_some e with ⟨c, e⟩ | ⟨c8, e⟩
  · rw [if_t c]
    have q := congrArg (oM X) e
    simp (disch := omega) only [o_held, ov_stg, ov_ri, cag_oM, oM_cag, oM_stg, oM_chk, oM_ite, oM_some] at q ⊢
    exact q
  rw [if_f c8]
  rcases ite_some e with ⟨c, e⟩ | ⟨c9, e⟩
  · rw [if_t c]
    have q := congrArg (oM X) e
    simp (disch := omega) only [ov_stg, ov_ri, cag_oM, oM_cag, oM_stg, oM_chk, oM_ite, oM_some] at q ⊢
    exact q
  rw [if_f c9]
  rcases ite_some e with ⟨c, e⟩ | ⟨c10, e⟩
  · rw [if_t c]
    obtain ⟨ci2, e⟩ := chk_some e
    obtain ⟨w, r2, e3, e⟩ := cag_some e
    have e30 : ov X z 3 p = z 3 p := ov_ri (by omega)
    have e40 : ov X z 40 0 = z 40 0 := ov_ri (by omega)
    have md : Made r2 r' := by
      have : Mg r2 (if w = 0 then (chk9 (0 ≤ p ∧ p < 180) <| chk9 (iR (z 40 0 + r2 4 p)) <| stg (ur r2 40 0 (z 40 0 + r2 4 p)) fun r76 => some ((0 : Int), r76)) else chk9 (iR (z 40 0 + 0)) <| stg (ur r2 40 0 (z 40 0 + 0)) fun r80 => some ((0 : Int), r80)) := Mg.ite (Mg.chk (Mg.chk (Mg.st (by decide) (by decide) (by decide) (by decide) fun _ => Mg.ret))) (Mg.chk (Mg.st (by decide) (by decide) (by decide) (by decide) fun _ => Mg.ret))
      exact (this v r' e).1
    rw [chk_t ci2, e30, k_isMarked nz e3 (t.made md), cag_e, e40]
    have q := congrArg (oM X) e
    simp (disch := omega) only [ov_stg, ov_ri, cag_oM, oM_cag, oM_stg, oM_chk, oM_ite, oM_some] at q ⊢
    exact q
  rw [if_f c10]
  rcases ite_some e with ⟨c, e⟩ | ⟨c11, e⟩
  · rw [if_t c]
    have q := congrArg (oM X) e
    simp (disch := omega) only [ov_stg, ov_ri, cag_oM, oM_cag, oM_stg, oM_chk, oM_ite, oM_some] at q ⊢
    exact q
  rw [if_f c11]
  rcases ite_some e with ⟨c, e⟩ | ⟨c12, e⟩
  · rw [if_t c]
    have q := congrArg (oM X) e
    unfold G_passes_324 at q ⊢
    simp (disch := omega) only [o_decides, ov_stg, ov_ri, cag_oM, oM_cag, oM_stg, oM_chk, oM_ite, oM_some] at q ⊢
    exact q
  rw [if_f c12]
  rcases ite_some e with ⟨c, e⟩ | ⟨c13, e⟩
  · rw [if_t c]
    have q := congrArg (oM X) e
    simp (disch := omega) only [o_fails, ov_stg, ov_ri, cag_oM, oM_cag, oM_stg, oM_chk, oM_ite, oM_some] at q ⊢
    exact q
  rw [if_f c13]
  rcases ite_some e with ⟨c, e⟩ | ⟨c14, e⟩
  · rw [if_t c]
    have q := congrArg (oM X) e
    simp (disch := omega) only [o_againOrFails, ov_stg, ov_ri, cag_oM, oM_cag, oM_stg, oM_chk, oM_ite, oM_some] at q ⊢
    exact q
  rw [if_f c14]
  rcases ite_some e with ⟨c, e⟩ | ⟨c15, e⟩
  · rw [if_t c]
    have q := congrArg (oM X) e
    simp (disch := omega) only [o_ends, ov_stg, ov_ri, cag_oM, oM_cag, oM_stg, oM_chk, oM_ite, oM_some] at q ⊢
    exact q
  rw [if_f c15]
  have q := congrArg (oM X) e
  simp (disch := omega) only [o_waitsAt, ov_stg, ov_ri, cag_oM, oM_cag, oM_stg, oM_chk, oM_ite, oM_some] at q ⊢
  exact q
theorem k_goesOn : ∀ (n : Nat) (r : Rst), Nw X r → G_goesOn_0 n r = some (v, r') → Tl X r' → G_goesOn_0 n (ov X r) = some (v, ov X r') := by
  intro n
  induction n with
  | zero => intro r nw e t; cases e
  | succ n ih =>
    intro r nw e t
    rw [G_goesOn_0] at e ⊢
    have e42 : ov X r 42 0 = r 42 0 := ov_ri (by omega)
    have e55 : ov X r 55 0 = r 55 0 := ov_ri (by omega)
    have e47 : ov X r 47 0 = r 47 0 := ov_ri (by omega)
    have e45 : ov X r 45 0 = r 45 0 := ov_ri (by omega)
    rw [e42, e55, e47, e45]
    have c36 : ∀ r : Rst, Nw X r → G_goesOn_36 (G_goesOn_0 n) r = some (v, r') → G_goesOn_36 (G_goesOn_0 n) (ov X r) = some (v, ov X r') := fun r nw e => by
      unfold G_goesOn_36 at e ⊢
      have f77 : ov X r 77 0 = r 77 0 := ov_ri (by omega)
      have f40 : ov X r 40 0 = r 40 0 := ov_ri (by omega)
      have f5 : ov X r 5 (r 77 0) = r 5 (r 77 0) := ov_ri (by omega)
      have f41 : ov X r 41 0 = r 41 0 := ov_ri (by omega)
      have f44 : ov X r 44 0 = r 44 0 := ov_ri (by omega)
      rw [f77, f40, f5, f41, f44]
      obtain ⟨c, e⟩ := chk_some e
      rw [chk_t c]
      rcases ite_some e with ⟨c1, e⟩ | ⟨c1, e⟩
      · rw [if_t c1, o_ends]
        exact ck e fun v1 r1 e1 e2 => ih r1 (nw.mq (mg_ends v1 r1 e1)) e2 t
      rw [if_f c1]
      rcases ite_some e with ⟨c2, e⟩ | ⟨c2, e⟩
      · rw [if_t c2, o_fails]
        exact ck e fun v1 r1 e1 e2 => ih r1 (nw.mq (mg_fails v1 r1 e1)) e2 t
      obtain ⟨c3, e⟩ := chk_some e
      have e := stg_some e
      rw [if_f c2, chk_t c3, ov_stg (by omega), stg_e]
      have nz : Nw X (ur r 44 0 (r 44 0 + 1)) := nw.u (by omega)
      generalize ur r 44 0 (r 44 0 + 1) = z at *
      have g45 : ov X z 45 0 = z 45 0 := ov_ri (by omega)
      rw [g45]
      have c126 : ∀ (z : Rst) (s0 s1 : Int), Nw X z → G_goesOn_126 (G_goesOn_0 n) s0 s1 z = some (v, r') → G_goesOn_126 (G_goesOn_0 n) s0 s1 (ov X z) = some (v, ov X r') := fun z s0 s1 nz e => by
        unfold G_goesOn_126 at e ⊢
        obtain ⟨c4, e⟩ := chk_some e
        have e := stg_some e
        rw [chk_t c4, ov_stg (by omega), stg_e]
        have ny : Nw X (ur z 45 0 (s1 - s0)) := nz.u (by omega)
        generalize ur z 45 0 (s1 - s0) = y at *
        obtain ⟨v1, r1, e1, e2⟩ := cag_some e
        have h40 : ov X y 40 0 = y 40 0 := ov_ri (by omega)
        rw [h40, k_passes ny e1 (t.made (mg_goesOn n r1 v r' e2).1), cag_e]
        exact ih r1 (ny.mq (mg_passes v1 r1 e1)) e2 t
      have c106 : ∀ s0 : Int, G_goesOn_106 (G_goesOn_0 n) s0 z = some (v, r') → G_goesOn_106 (G_goesOn_0 n) s0 (ov X z) = some (v, ov X r') := fun s0 e => by
        unfold G_goesOn_106 at e ⊢
        obtain ⟨c4, e⟩ := chk_some e
        have e := stg_some e
        rw [chk_t c4, ov_stg (by omega), stg_e]
        have ny : Nw X (ur z 46 0 s0) := nz.u (by omega)
        generalize ur z 46 0 s0 = y at *
        have h46 : ov X y 46 0 = y 46 0 := ov_ri (by omega)
        have h45 : ov X y 45 0 = y 45 0 := ov_ri (by omega)
        rw [h46, h45]
        rcases ite_some e with ⟨c5, e⟩ | ⟨c5, e⟩
        · rw [if_t c5]; exact c126 _ _ _ ny e
        · rw [if_f c5]; exact c126 _ _ _ ny e
      rcases ite_some e with ⟨c4, e⟩ | ⟨c4, e⟩
      · rw [if_t c4]; exact c106 _ e
      · rw [if_f c4]; exact c106 _ e
    rcases ite_some e with ⟨c1, e⟩ | ⟨c1, e⟩
    · rw [if_t c1]
      rcases ite_some e with ⟨c2, e⟩ | ⟨c2, e⟩
      · rw [if_t c2]
        rcases ite_some e with ⟨c3, e⟩ | ⟨c3, e⟩
        · rw [if_t c3]; exact c36 r nw e
        · rw [if_f c3]
          rcases ite_some e with ⟨c4, e⟩ | ⟨c4, e⟩
          · rw [if_t c4, o_fails]
            exact ck e fun v1 r1 e1 e2 => ih r1 (nw.mq (mg_fails v1 r1 e1)) e2 t
          · rw [if_f c4]; exact c36 r nw e
      · cases e
        rw [if_f c2]
    · cases e
      rw [if_f c1]
theorem k_takes142 (nw : Nw X r) (e : G_takes_142 r = some (v, r')) (t : Tl X r') : G_takes_142 (ov X r) = some (v, ov X r') := by
  unfold G_takes_142 G_goesOn at e ⊢
  obtain ⟨v1, r1, e1, e2⟩ := cag_some e
  cases e2
  rw [k_goesOn _ _ nw e1 t, cag_e]
theorem mg_takes142 {z : Rst} : Mg z (G_takes_142 z) := by
  unfold G_takes_142 G_goesOn
  exact Mg.cag (mg_goesOn _ _) fun _ _ => Mg.ret
theorem k_takes117 (nw : Nw X r) (e : G_takes_117 r = some (v, r')) (t : Tl X r') : G_takes_117 (ov X r) = some (v, ov X r') := by
  unfold G_takes_117 at e ⊢
  have e42 : ov X r 42 0 = r 42 0 := ov_ri (by omega)
  have e55 : ov X r 55 0 = r 55 0 := ov_ri (by omega)
  rw [e42, e55]
  rcases ite_some e with ⟨c1, e⟩ | ⟨c1, e⟩
  · rw [if_t c1]
    rcases ite_some e with ⟨c2, e⟩ | ⟨c2, e⟩
    · rw [if_t c2]; exact k_takes142 nw e t
    · rw [if_f c2, o_areDone]
      refine ck e fun v1 r1 e1 e => ?_
      have n1 := nw.mq (mg_areDone v1 r1 e1)
      rcases ite_some e with ⟨c3, e⟩ | ⟨c3, e⟩
      · rw [if_t c3]; exact k_takes142 n1 e t
      · rw [if_f c3, o_finishes]
        exact ck e fun v2 r2 e2 e => k_takes142 (n1.mq (mg_finishes v2 r2 e2)) e t
  · rw [if_f c1]; exact k_takes142 nw e t
theorem k_takes {its x y : Int} (nw : Nw X r) (e : G_takes its x y r = some (v, r')) (t : Tl X r') : G_takes its x y (ov X r) = some (v, ov X r') := by
  unfold G_takes G_takes_0 at e ⊢
  have e := stg_some e
  rw [ov_stg (by omega), stg_e]
  have nz : Nw X (ur r 44 0 0) := nw.u (by omega)
  generalize ur r 44 0 0 = z at *
  have e42 : ov X z 42 0 = z 42 0 := ov_ri (by omega)
  rw [e42]
  rcases ite_some e with ⟨c0, e⟩ | ⟨c0, e⟩
  · have e := stg_some e
    rw [if_t c0, ov_stg (by omega), stg_e]
    exact k_takes117 (nz.u (by omega)) e t
  rw [if_f c0]
  rcases ite_some e with ⟨c4, e⟩ | ⟨c4, e⟩
  · rw [if_t c4, o_takesSignal]
    exact ck e fun v1 r1 e1 e => k_takes117 (nz.mq (mg_takesSignal v1 r1 e1)) e t
  rw [if_f c4]
  rcases ite_some e with ⟨c6, e⟩ | ⟨c6, e⟩
  · have e := stg_some e
    rw [if_t c6, ov_stg (by omega), stg_e]
    have ny : Nw X (ur z 47 0 1) := nz.u (by omega)
    generalize ur z 47 0 1 = y9 at *
    have f42 : ov X y9 42 0 = y9 42 0 := ov_ri (by omega)
    have f55 : ov X y9 55 0 = y9 55 0 := ov_ri (by omega)
    have f46 : ov X y9 46 0 = y9 46 0 := ov_ri (by omega)
    rw [f42, f55, f46]
    rcases ite_some e with ⟨d1, e⟩ | ⟨d1, e⟩
    · rw [if_t d1]
      rcases ite_some e with ⟨d2, e⟩ | ⟨d2, e⟩
      · rw [if_t d2]; exact k_takes117 ny e t
      rw [if_f d2]
      rcases ite_some e with ⟨d3, e⟩ | ⟨d3, e⟩
      · rw [if_t d3, o_cuts]
        exact ck e fun v1 r1 e1 e => k_takes117 (ny.mq (mg_cuts v1 r1 e1)) e t
      · rw [if_f d3]; exact k_takes117 ny e t
    · rw [if_f d1]; exact k_takes117 ny e t
  rw [if_f c6]
  have c103 : G_takes_103 its x y z = some (v, r') → G_takes_103 its x y (ov X z) = some (v, ov X r') := fun e => by
    unfold G_takes_103 at e ⊢
    rw [e42]
    rcases ite_some e with ⟨d, e⟩ | ⟨d, e⟩
    · rw [if_t d, o_takesOver]
      exact ck e fun v1 r1 e1 e => k_takes117 (nz.mq (mg_takesOver v1 r1 e1)) e t
    · rw [if_f d]; exact k_takes117 nz e t
  have c88 : G_takes_88 its x y z = some (v, r') → G_takes_88 its x y (ov X z) = some (v, ov X r') := fun e => by
    unfold G_takes_88 at e ⊢
    have f54 : ov X z 54 0 = z 54 0 := ov_ri (by omega)
    rw [f54]
    rcases ite_some e with ⟨d, e⟩ | ⟨d, e⟩
    · rw [if_t d, o_undoesNext]
      exact ck e fun v1 r1 e1 e => k_takes117 (nz.mq (mg_undoesNext v1 r1 e1)) e t
    · rw [if_f d]; exact c103 e
  rcases ite_some e with ⟨d, e⟩ | ⟨d, e⟩
  · rw [if_t d]
    rcases ite_some e with ⟨d1, e⟩ | ⟨d1, e⟩
    · rw [if_t d1]; exact c88 e
    rw [if_f d1]
    rcases ite_some e with ⟨d2, e⟩ | ⟨d2, e⟩
    · rw [if_t d2]; exact c88 e
    · rw [if_f d2]; exact c103 e
  · rw [if_f d]; exact c103 e
/-- X's history is r's, so far -/
def Hq9 (X r : Rst) (B hi : Int) : Prop := ∀ (j : Nat) i, 19 ≤ j → j ≤ 21 → 0 ≤ i → i < hi → X j (B + i) = r j (B + i)
theorem k_takesAll7 {B hi : Int} : ∀ (n : Nat) (i : Int) (r : Rst), 0 ≤ i → Nw X r → Hq9 X r B hi → G_takesAll_7 n (B + hi) (B + i) r = some (v, r') → Tl X r' → G_takesAll_7 n (B + hi) (B + i) (ov X r) = some (v, ov X r') := by
  intro n
  induction n with
  | zero => intro i r h0 nw hq e t; cases e
  | succ n ih =>
    intro i r h0 nw hq e t
    rw [G_takesAll_7] at e ⊢
    rcases ite_some e with ⟨c1, e⟩ | ⟨c1, e⟩
    · cases e
      rw [if_t c1]
    · have q := fun (j : Nat) (a : 19 ≤ j) (b : j ≤ 21) => hq j i a b h0 (by omega)
      have e19 : ov X r 19 (B + i) = r 19 (B + i) := by rw [ov_x (by omega)]; exact q 19 (by omega) (by omega)
      have e20 : ov X r 20 (B + i) = r 20 (B + i) := by rw [ov_x (by omega)]; exact q 20 (by omega) (by omega)
      have e21 : ov X r 21 (B + i) = r 21 (B + i) := by rw [ov_x (by omega)]; exact q 21 (by omega) (by omega)
      rw [if_f c1, e19, e20, e21]
      obtain ⟨c2, e⟩ := chk_some e
      rw [chk_t c2]
      rcases ite_some e with ⟨c3, e⟩ | ⟨c3, e⟩
      · obtain ⟨c4, e⟩ := chk_some e
        rw [if_t c3, chk_t c4]
        rw [Int.add_assoc] at e ⊢
        exact ih (i + 1) r (by omega) nw hq e t
      · obtain ⟨_, e⟩ := chk_some e
        obtain ⟨_, e⟩ := chk_some e
        obtain ⟨_, e⟩ := chk_some e
        obtain ⟨v1, r1, e1, e⟩ := cag_some e
        obtain ⟨c4, e⟩ := chk_some e
        have m1 := mg_takes v1 r1 e1
        rw [if_f c3, chk_t c2, chk_t c2, chk_t c2]
        rw [Int.add_assoc] at e ⊢
        rw [k_takes nw e1 (t.made (mg_takesAll7 n _ _ r1 v r' e).1), cag_e, chk_t (by omega)]
        exact ih (i + 1) r1 (by omega) (nw.mq m1) (fun j k a b c d => by rw [m1.2 j (by omega)]; exact hq j k a b c d) e t
end LK
