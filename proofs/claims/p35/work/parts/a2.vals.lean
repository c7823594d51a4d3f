/-! how far the values of the reference's play go, how it ends, where it waits -/
def B3 (v : Int) : Prop := -999 ≤ v ∧ v ≤ 999
def Sov (x : Int) : Prop := x = 14 ∨ x = 21 ∨ x = 22 ∨ x = 23
def VB0 (r : Rst) : Prop := B3 (r 41 0) ∧ (∀ k, B3 (r 62 k)) ∧ (∀ k, B3 (r 66 k)) ∧ (r 42 0 = 1 → B3 (r 43 0)) ∧ (r 42 0 = 2 → Sov (r 49 0) ∧ B3 (r 50 0)) ∧ (∀ k, 0 ≤ k → k < r 76 0 → B3 (r 75 k)) ∧ ∀ i, 0 ≤ i → i < 180 → B3 (r 3 i) ∧ (r 2 i = 4 → 1 ≤ r 3 i)
def VW (r : Rst) : Prop := r 42 0 = 0 → 0 < r 55 0 → r 40 0 < r 64 0
def VB (r : Rst) : Prop := VB0 r ∧ VW r
theorem VB0.fr {r r' : Rst} (h : VB0 r) (e : ∀ j : Nat, j = 2 ∨ j = 3 ∨ j = 41 ∨ j = 42 ∨ j = 43 ∨ j = 49 ∨ j = 50 ∨ j = 62 ∨ j = 66 ∨ j = 75 ∨ j = 76 → r' j = r j) : VB0 r' := by
  unfold VB0
  rw [e 2 (by omega), e 3 (by omega), e 41 (by omega), e 42 (by omega), e 43 (by omega), e 49 (by omega), e 50 (by omega), e 62 (by omega), e 66 (by omega), e 75 (by omega), e 76 (by omega)]
  exact h
theorem VW.fr {r r' : Rst} (h : VW r) (e : ∀ j : Nat, j = 40 ∨ j = 42 ∨ j = 55 ∨ j = 64 → r' j = r j) : VW r' := by
  unfold VW
  rw [e 40 (by omega), e 42 (by omega), e 55 (by omega), e 64 (by omega)]
  exact h
section VS
variable {r : Rst}
theorem VB0.set (h : VB0 r) {j : Nat} {i v : Int} (hj : j = 40 ∨ (44 ≤ j ∧ j ≤ 48) ∨ (51 ≤ j ∧ j ≤ 61) ∨ (63 ≤ j ∧ j ≤ 65) ∨ (67 ≤ j ∧ j ≤ 71) ∨ j = 72 ∨ j = 73 ∨ j = 74 ∨ 77 ≤ j) : VB0 (ur r j i v) := h.fr fun k hk => ur_ne (by omega)
theorem VB0.v41 (h : VB0 r) {v : Int} (hv : B3 v) : VB0 (ur r 41 0 v) := by
  obtain ⟨a1, a2, a3, a4, a5, a6, a7⟩ := h
  unfold VB0
  simp (disch := omega) only [ur_ne, ur_n, ur_e]
  exact ⟨hv, a2, a3, a4, a5, a6, a7⟩
theorem VB0.v62 (h : VB0 r) {k v : Int} (hv : B3 v) : VB0 (ur r 62 k v) := by
  obtain ⟨a1, a2, a3, a4, a5, a6, a7⟩ := h
  unfold VB0
  simp (disch := omega) only [ur_ne, ur_n]
  refine ⟨a1, fun i => ?_, a3, a4, a5, a6, a7⟩
  by_cases c : i = k
  · rw [ur_e rfl c]; exact hv
  · rw [ur_n (Or.inr c)]; exact a2 i
theorem VB0.v66 (h : VB0 r) {k v : Int} (hv : B3 v) : VB0 (ur r 66 k v) := by
  obtain ⟨a1, a2, a3, a4, a5, a6, a7⟩ := h
  unfold VB0
  simp (disch := omega) only [ur_ne, ur_n]
  refine ⟨a1, a2, fun i => ?_, a4, a5, a6, a7⟩
  by_cases c : i = k
  · rw [ur_e rfl c]; exact hv
  · rw [ur_n (Or.inr c)]; exact a3 i
theorem VB0.dec (h : VB0 r) {k x y : Int} : VB0 (gdec k x y r) := by
  obtain ⟨a1, a2, a3, a4, a5, a6, a7⟩ := h
  unfold VB0
  rw [gdec_76]
  simp (disch := omega) only [gdec_n]
  refine ⟨a1, a2, a3, a4, a5, fun i i0 i1 => ?_, a7⟩
  unfold gdec
  by_cases c : i = r 76 0
  · simp (disch := omega) only [ur_n, ur_e]; exact a1
  · simp (disch := omega) only [ur_n]; exact a6 i i0 (by omega)
theorem B3.neg1 : B3 (-1) := ⟨by decide, by decide⟩
theorem v_ends (h : VB0 r) {x y : Int} (hx : Sov x) (hy : B3 y) : Pv (fun r' => VB0 r' ∧ r' 42 0 ≠ 0) (G_ends x y r) := by
  unfold G_ends G_ends_0
  refine Pv.st (Pv.st (Pv.st (Pv.cag fun v r1 e => ?_)))
  obtain ⟨_, rfl, rfl⟩ := dec_inv e
  refine Pv.ret ⟨VB0.dec ?_, by rw [gdec_n (by omega)]; simp (disch := omega) only [ur_n, ur_e]; decide⟩
  obtain ⟨a1, a2, a3, a4, a5, a6, a7⟩ := h
  unfold VB0
  simp (disch := omega) only [ur_ne, ur_n, ur_e]
  exact ⟨a1, a2, a3, fun e => by omega, fun _ => ⟨hx, hy⟩, a6, a7⟩
theorem v_undoesNext (h : VB0 r) (h42 : r 42 0 = 1) : Pv (fun r' => VB0 r' ∧ r' 42 0 ≠ 0) (G_undoesNext r) := by
  unfold G_undoesNext G_undoesNext_0
  have en : ∀ x y, Sov x → B3 y → Pv (fun r' => VB0 r' ∧ r' 42 0 ≠ 0) (cag (G_ends x y r) fun _ r5 => some (0, r5)) := fun x y hx hy => Pv.cag fun v r1 e => Pv.ret (v_ends h hx hy v r1 e)
  refine Pv.ite (fun _ => Pv.ite (fun _ => en _ _ (by unfold Sov; omega) ⟨by decide, by decide⟩) fun _ => en _ _ (by unfold Sov; omega) (h.2.2.2.1 h42)) fun _ => Pv.chk fun _ => Pv.st (Pv.st (Pv.chk fun _ => Pv.st (Pv.chk fun _ => Pv.chk fun _ => Pv.cag fun v r1 e => ?_)))
  obtain ⟨_, rfl, rfl⟩ := dec_inv e
  exact Pv.ret ⟨(((h.set (by omega)).set (by omega)).set (by omega)).dec, by rw [gdec_n (by omega)]; simp (disch := omega) only [ur_n]; omega⟩
theorem v_fails (h : VB0 r) {x : Int} (hx : B3 x) : Pv (fun r' => VB0 r' ∧ r' 42 0 ≠ 0) (G_fails x r) := by
  unfold G_fails G_fails_0
  refine Pv.st (Pv.st (Pv.st (Pv.cag fun v r1 e => ?_)))
  have hz : VB0 (ur (ur (ur r 42 0 1) 43 0 x) 55 0 0) := by
    refine VB0.set ?_ (by omega)
    obtain ⟨a1, a2, a3, a4, a5, a6, a7⟩ := h
    unfold VB0
    simp (disch := omega) only [ur_ne, ur_n, ur_e]
    exact ⟨a1, a2, a3, fun _ => hx, fun e => by omega, a6, a7⟩
  exact Pv.ret (v_undoesNext hz (by simp (disch := omega) only [ur_n, ur_e]) v r1 e)
theorem v_cuts (h : VB0 r) : Pv (fun r' => VB0 r' ∧ r' 42 0 ≠ 0) (G_cuts r) := by
  have fin : ∀ r : Rst, VB0 r → Pv (fun r' => VB0 r' ∧ r' 42 0 ≠ 0) (G_cuts_127 r) := fun r h => by
    unfold G_cuts_127
    exact Pv.cag fun v r1 e => Pv.ret (v_fails h B3.neg1 v r1 e)
  have c80 : ∀ (k70 : Int → Rst → Option G2), (∀ l r, VB0 r → Pv (fun r' => VB0 r' ∧ r' 42 0 ≠ 0) (k70 l r)) → ∀ (n : Nat) (l1 l2 : Int) (r : Rst), VB0 r → Pv (fun r' => VB0 r' ∧ r' 42 0 ≠ 0) (G_cuts_80 k70 n l1 l2 r) := by
    intro k70 hk n
    induction n with
    | zero => intro l1 l2 r h; exact Pv.no
    | succ n ih =>
      intro l1 l2 r h
      rw [G_cuts_80]
      refine Pv.ite (fun _ => Pv.chk fun _ => hk _ _ h) fun _ => Pv.chk fun _ => Pv.ite (fun _ => Pv.chk fun _ => Pv.ite (fun _ => Pv.cag fun v r1 e => Pv.chk fun _ => ?_) fun _ => Pv.chk fun _ => ih _ _ _ h) fun _ => Pv.chk fun _ => ih _ _ _ h
      obtain ⟨_, rfl, rfl⟩ := dec_inv e
      exact ih _ _ _ h.dec
  have c70 : ∀ (n : Nat) (l1 : Int) (r : Rst), VB0 r → Pv (fun r' => VB0 r' ∧ r' 42 0 ≠ 0) (G_cuts_70 G_cuts_127 n l1 r) := by
    intro n
    induction n with
    | zero => intro l1 r h; exact Pv.no
    | succ n ih =>
      intro l1 r h
      rw [G_cuts_70]
      exact Pv.ite (fun _ => fin _ h) fun _ => c80 _ (fun l r h => ih l r h) _ _ _ _ h
  have c12 : ∀ (k2 : Int → Rst → Option G2), (∀ l r, VB0 r → Pv (fun r' => VB0 r' ∧ r' 42 0 ≠ 0) (k2 l r)) → ∀ (n : Nat) (l1 l2 : Int) (r : Rst), VB0 r → Pv (fun r' => VB0 r' ∧ r' 42 0 ≠ 0) (G_cuts_12 k2 n l1 l2 r) := by
    intro k2 hk n
    induction n with
    | zero => intro l1 l2 r h; exact Pv.no
    | succ n ih =>
      intro l1 l2 r h
      rw [G_cuts_12]
      refine Pv.ite (fun _ => Pv.chk fun _ => hk _ _ h) fun _ => Pv.chk fun _ => Pv.ite (fun _ => Pv.chk fun _ => Pv.ite (fun _ => Pv.chk fun _ => Pv.ite (fun _ => Pv.cag fun v r1 e => Pv.chk fun _ => ?_) fun _ => Pv.chk fun _ => ih _ _ _ h) fun _ => Pv.chk fun _ => ih _ _ _ h) fun _ => Pv.chk fun _ => ih _ _ _ h
      obtain ⟨_, rfl, rfl⟩ := dec_inv e
      exact ih _ _ _ h.dec
  have c2 : ∀ (n : Nat) (l1 : Int) (r : Rst), VB0 r → Pv (fun r' => VB0 r' ∧ r' 42 0 ≠ 0) (G_cuts_2 (G_cuts_70 G_cuts_127 fuel9) n l1 r) := by
    intro n
    induction n with
    | zero => intro l1 r h; exact Pv.no
    | succ n ih =>
      intro l1 r h
      rw [G_cuts_2]
      exact Pv.ite (fun _ => c70 _ _ _ h) fun _ => c12 _ (fun l r h => ih l r h) _ _ _ _ h
  exact c2 _ _ _ h
theorem v_gets (h : VB0 r) {k x : Int} (hx : B3 x) : Pv (fun r' => VB0 r' ∧ ∀ j : Nat, ¬ (60 ≤ j ∧ j ≤ 63) → r' j = r j) (G_gets k x r) := fun v r' e => by
  rw [gets_inv e]
  exact ⟨((h.set (by omega)).v62 hx).set (by omega), fun j hj => by rw [ur_ne (by omega), ur_ne (by omega), ur_ne (by omega)]⟩
theorem v_setsTimer (h : VB0 r) {k x : Int} : Pv (fun r' => VB0 r' ∧ ∀ j : Nat, ¬ (j = 52 ∨ j = 59 ∨ (72 ≤ j ∧ j ≤ 76)) → r' j = r j) (G_setsTimer k x r) := fun v r' e => by
  obtain ⟨-, -, rfl⟩ := sets_inv e
  exact ⟨((h.set (by omega)).set (by omega)).dec, fun j hj => by rw [gdec_n (by omega), ur_ne (by omega), ur_ne (by omega)]⟩
theorem stepAt_inv {s v : Int} {r' : Rst} (e : G_stepAt s r = some (v, r')) : r' = r ∧ v = 12 * r 77 0 + s := by
  unfold G_stepAt G_stepAt_0 at e
  have e := (chk_some (chk_some e).2).2
  cases e
  exact ⟨rfl, rfl⟩
/-- what is kept while a step that is waited for begins -/
def Kw (r r' : Rst) : Prop := ∀ j : Nat, j < 40 ∨ j = 40 ∨ j = 42 ∨ j = 64 ∨ j = 77 → r' j = r j
theorem Kw.tr {r1 r2 : Rst} (h : Kw r r1) (k : Kw r1 r2) : Kw r r2 := fun j hj => (k j hj).trans (h j hj)
theorem v_waitsFor (h : VB0 r) {s : Int} : Pv (fun r' => VB0 r' ∧ Kw r r') (G_waitsFor s r) := by
  unfold G_waitsFor G_waitsFor_0
  refine Pv.cag fun p r1 e => ?_
  obtain ⟨rfl, rfl⟩ := stepAt_inv e
  refine Pv.chk fun _ => Pv.ste fun z1 ez1 => Pv.chk fun _ => Pv.chk fun _ => Pv.ste fun z2 ez2 => Pv.chk fun _ => Pv.ste fun z3 ez3 => Pv.chk fun _ => Pv.ste fun z4 ez4 => Pv.chk fun _ => Pv.chk fun _ => Pv.ste fun z5 ez5 => Pv.chk fun _ => Pv.ste fun z6 ez6 => Pv.chk fun _ => Pv.ste fun z7 ez7 => Pv.chk fun _ => Pv.ste fun z ez => Pv.chk fun _ => ?_
  have h1 : VB0 z1 := by rw [ez1]; exact h.set (by omega)
  have h2 : VB0 z2 := by rw [ez2]; exact h1.set (by omega)
  have h3 : VB0 z3 := by rw [ez3]; exact h2.set (by omega)
  have h4 : VB0 z4 := by rw [ez4]; exact h3.set (by omega)
  have h5 : VB0 z5 := by rw [ez5]; exact h4.set (by omega)
  have h6 : VB0 z6 := by rw [ez6]; exact h5.set (by omega)
  have h7 : VB0 z7 := by rw [ez7]; exact h6.set (by omega)
  have hz : VB0 z := by rw [ez]; exact h7.set (by omega)
  have kz : Kw r1 z := fun j hj => by rw [ez, ur_ne (by omega), ez7, ur_ne (by omega), ez6, ur_ne (by omega), ez5, ur_ne (by omega), ez4, ur_ne (by omega), ez3, ur_ne (by omega), ez2, ur_ne (by omega), ez1, ur_ne (by omega)]
  clear ez ez7 ez6 ez5 ez4 ez3 ez2 ez1 h1 h2 h3 h4 h5 h6 h7
  have dec : ∀ (z' : Rst) (k x y : Int), VB0 z' → Kw r1 z' → Pv (fun r' => VB0 r' ∧ Kw r1 r') (cag (G_decides k x y z') fun _ r63 => some (0, r63)) := fun z' k x y a b => Pv.cag fun v r2 e2 => by
    obtain ⟨_, rfl, rfl⟩ := dec_inv e2
    exact Pv.ret ⟨a.dec, b.tr fun j hj => gdec_n (by omega)⟩
  have tim : ∀ (z' : Rst) (k x : Int), VB0 z' → Kw r1 z' → Pv (fun r' => VB0 r' ∧ Kw r1 r') (cag (G_setsTimer k x z') fun _ r63 => some (0, r63)) := fun z' k x a b => Pv.cag fun v r2 e2 => by
    obtain ⟨c, d⟩ := v_setsTimer a v r2 e2
    exact Pv.ret ⟨c, b.tr fun j hj => d j (by omega)⟩
  have wait : ∀ q : Int, Pv (fun r' => VB0 r' ∧ Kw r1 r') (chk9 (0 ≤ q ∧ q < 180) <| cag (G_untaken (z 3 q) z) fun v76 r75 => if v76 = (-1) then (chk9 (0 ≤ q ∧ q < 180) <| if r75 4 q ≤ 0 then (some (0, r75)) else chk9 (0 ≤ q ∧ q < 180) <| cag (G_setsTimer (r1 55 0) (r75 4 q) r75) fun _ r83 => some (0, r83)) else chk9 (0 ≤ v76 ∧ v76 < 80) <| stg (ur r75 67 v76 1) fun r89 => chk9 (0 ≤ v76 ∧ v76 < 80) <| cag (G_gets (r1 55 0) (r89 66 v76) r89) fun _ r94 => some (0, r94)) := fun q => by
    refine Pv.chk fun _ => Pv.cag fun v r2 e2 => ?_
    have er := untaken_inv e2
    subst er
    refine Pv.ite (fun _ => Pv.chk fun _ => Pv.ite (fun _ => Pv.ret ⟨hz, kz⟩) fun _ => Pv.chk fun _ => tim _ _ _ hz kz) fun _ => Pv.chk fun _ => Pv.st (Pv.chk fun _ => Pv.cag fun v2 r3 e3 => ?_)
    have h9 : VB0 (ur r2 67 v 1) := hz.set (by omega)
    obtain ⟨c, d⟩ := v_gets h9 (h9.2.2.1 v) v2 r3 e3
    exact Pv.ret ⟨c, kz.tr fun j hj => by rw [d j (by omega), ur_ne (by omega)]⟩
  refine Pv.ite (fun _ => Pv.chk fun _ => Pv.st (Pv.chk fun _ => Pv.st (Pv.chk fun _ => Pv.chk fun _ => dec _ _ _ _ ((hz.set (by omega)).set (by omega)) (kz.tr fun j hj => by rw [ur_ne (by omega), ur_ne (by omega)])))) fun _ => Pv.ite (fun _ => Pv.chk fun _ => tim _ _ _ hz kz) fun _ => Pv.ite (fun _ => wait _) fun _ => Pv.ite (fun _ => Pv.chk fun _ => Pv.st (Pv.chk fun _ => Pv.st (Pv.chk fun _ => Pv.chk fun _ => dec _ _ _ _ ((hz.set (by omega)).set (by omega)) (kz.tr fun j hj => by rw [ur_ne (by omega), ur_ne (by omega)])))) fun _ => wait _
theorem v_finishes (h : VB0 r) : Pv VB (G_finishes r) := by
  have f63 : ∀ (l1 : Int) (r : Rst), VB0 r → Pv VB (G_finishes_63 l1 r) := fun l1 r h => by
    unfold G_finishes_63
    have hz : VB0 (ur (ur r 55 0 0) 40 0 (ur r 55 0 0 64 0)) := (h.set (by omega)).set (by omega)
    refine Pv.st (Pv.st (Pv.ite (fun _ => Pv.ret ⟨hz, fun _ a => ?_⟩) fun _ => Pv.cag fun v r1 e => ?_))
    · simp (disch := omega) only [ur_n, ur_e] at a
      omega
    · obtain ⟨a, b⟩ := v_fails hz (⟨by decide, by decide⟩ : B3 1) v r1 e
      exact Pv.ret ⟨a, fun c => absurd c b⟩
  have f4 : ∀ (n : Nat) (l1 l2 : Int) (r : Rst), VB0 r → Pv VB (G_finishes_4 G_finishes_63 n l1 l2 r) := by
    intro n
    induction n with
    | zero => intro l1 l2 r h; exact Pv.no
    | succ n ih =>
      intro l1 l2 r h
      rw [G_finishes_4]
      have c35 : ∀ s0, B3 s0 → Pv VB (G_finishes_35 (G_finishes_4 G_finishes_63 n) l1 l2 s0 r) := fun s0 hs => by
        unfold G_finishes_35
        refine Pv.st (Pv.ite (fun _ => Pv.chk fun _ => Pv.ite (fun _ => Pv.chk fun _ => ih _ _ _ (h.v41 hs)) fun _ => Pv.chk fun _ => ih _ _ _ (h.v41 hs)) fun _ => Pv.chk fun _ => ih _ _ _ (h.v41 hs))
      exact Pv.ite (fun _ => f63 _ _ h) fun _ => Pv.chk fun _ => Pv.ite (fun _ => c35 _ h.1) fun _ => Pv.chk fun _ => c35 _ (h.2.1 l2)
  exact f4 _ _ _ _ h
theorem v_waitsAt (h : VB0 r) {s : Int} (hs : r 40 0 = s) : Pv VB (G_waitsAt s r) := by
  have w62 : ∀ (l2 : Int) (r1 : Rst), VB0 r1 → r1 40 0 = s → 0 ≤ l2 → Pv VB (G_waitsAt_62 s l2 r1) := fun l2 r1 h1 e40 h0 => by
    unfold G_waitsAt_62
    have hz : VB0 (ur r1 64 0 (s + l2 + 1)) := h1.set (by omega)
    refine Pv.chk fun _ => Pv.chk fun _ => Pv.st (Pv.cag fun v r2 e => ?_)
    have er := (areDone_inv e).1
    subst er
    refine Pv.ite (fun _ => Pv.ret ⟨hz, fun _ _ => ?_⟩) fun _ => Pv.cag fun v2 r3 e3 => Pv.ret (v_finishes hz v2 r3 e3)
    rw [ur_n (by omega), ur_e rfl rfl]
    omega
  have w44 : ∀ (n : Nat) (l2 l3 : Int) (r1 : Rst), VB0 r1 → r1 40 0 = s → 0 ≤ l2 → Pv VB (G_waitsAt_44 G_waitsAt_62 n s l2 l3 r1) := by
    intro n
    induction n with
    | zero => intro l2 l3 r1 h1 e h0; exact Pv.no
    | succ n ih =>
      intro l2 l3 r1 h1 e h0
      rw [G_waitsAt_44]
      refine Pv.ite (fun _ => w62 _ _ h1 e h0) fun _ => Pv.chk fun _ => Pv.cag fun v r2 e2 => Pv.chk fun _ => ?_
      obtain ⟨a, b⟩ := v_waitsFor h1 v r2 e2
      exact ih _ _ _ a (by rw [b 40 (by omega)]; exact e) h0
  have w28 : ∀ s0, 0 ≤ s0 → Pv VB (G_waitsAt_28 s s0 r) := fun s0 h0 => by
    unfold G_waitsAt_28
    have hz : VB0 (ur r 55 0 0) := h.set (by omega)
    have e : ur r 55 0 0 40 0 = s := by rw [ur_n (by omega)]; exact hs
    exact Pv.st (Pv.ite (fun _ => w44 _ _ _ _ hz e h0) fun _ => w44 _ _ _ _ hz e h0)
  unfold G_waitsAt G_waitsAt_0
  refine Pv.cag fun p r1 e => Pv.chk fun cp => ?_
  obtain ⟨rfl, rfl⟩ := stepAt_inv e
  refine Pv.ite (fun c4 => Pv.cag fun p2 r2 e2 => Pv.chk fun c2 => ?_) fun _ => w28 0 (Int.le_refl _)
  obtain ⟨rfl, rfl⟩ := stepAt_inv e2
  exact w28 _ (by have := (h.2.2.2.2.2.2 _ cp.1 cp.2).2 c4; omega)
theorem v_isMarked (h : VB0 r) {x : Int} : Pv (fun r' => VB0 r' ∧ ∀ j : Nat, ¬ (j = 48 ∨ (72 ≤ j ∧ j ≤ 76)) → r' j = r j) (G_isMarked x r) := by
  refine Pv.bool ?_
  unfold G_isMarked_0
  have c65 : ∀ s0, Pv (fun r' => VB0 r' ∧ ∀ j : Nat, ¬ (j = 48 ∨ (72 ≤ j ∧ j ≤ 76)) → r' j = r j) (G_isMarked_65 x s0 r) := fun s0 => by
    unfold G_isMarked_65
    refine Pv.ite (fun _ => Pv.ret ⟨h, fun _ _ => rfl⟩) fun _ => Pv.ste fun z ez => Pv.cag fun v r1 e => ?_
    obtain ⟨_, rfl, rfl⟩ := dec_inv e
    subst ez
    exact Pv.ret ⟨(h.set (by omega)).dec, fun j hj => by rw [gdec_n (by omega), ur_ne (by omega)]⟩
  refine Pv.ite (fun _ => Pv.ret ⟨h, fun _ _ => rfl⟩) fun _ => Pv.chk fun _ => Pv.ite (fun _ => Pv.ite (fun _ => c65 _) fun _ => Pv.chk fun _ => Pv.ite (fun _ => Pv.chk fun _ => Pv.ite (fun _ => c65 _) fun _ => c65 _) fun _ => c65 _) fun _ => c65 _
theorem v_passes (h : VB0 r) (h55 : r 55 0 = 0) {s : Int} : Pv VB (G_passes s r) := by
  unfold G_passes G_passes_0
  refine Pv.cag fun p r1 e => Pv.chk fun _ => Pv.ste fun z ez => Pv.chk fun cp => ?_
  obtain ⟨rfl, rfl⟩ := stepAt_inv e
  have hz : VB0 z := by rw [ez]; exact h.set (by omega)
  have z55 : z 55 0 = 0 := by rw [ez, ur_n (by omega)]; exact h55
  have pa := (hz.2.2.2.2.2.2 _ cp.1 cp.2).1
  have vw : ∀ z' : Rst, z' 55 = z 55 → VW z' := fun z' e _ a => by rw [e, z55] at a; omega
  have nw : ∀ r2 : Rst, r2 42 0 ≠ 0 → VW r2 := fun r2 b c => absurd c b
  have at40 : ∀ (z' : Rst) (v : Int), VB0 z' → z' 55 = z 55 → VB (ur z' 40 0 v) := fun z' v a b => ⟨a.set (by omega), vw _ (by rw [ur_ne (by omega)]; exact b)⟩
  have dec : ∀ k x y, Pv VB (G_passes_324 y x k z) := fun k x y => by
    unfold G_passes_324
    refine Pv.cag fun v r2 e2 => ?_
    obtain ⟨_, rfl, rfl⟩ := dec_inv e2
    exact Pv.ret ⟨hz.dec, vw _ (gdec_n (by omega))⟩
  refine Pv.ite (fun _ => Pv.chk fun _ => Pv.ite (fun _ => Pv.chk fun _ => Pv.st (Pv.ret (at40 _ _ hz rfl))) fun _ => Pv.chk fun _ => Pv.chk fun _ => Pv.st (Pv.ret (at40 _ _ hz rfl))) fun _ => ?_
  refine Pv.ite (fun _ => Pv.chk fun _ => Pv.ite (fun _ => Pv.st (Pv.ret (at40 _ _ hz rfl))) fun _ => Pv.chk fun _ => Pv.chk fun _ => Pv.st (Pv.ret (at40 _ _ hz rfl))) fun _ => ?_
  refine Pv.ite (fun _ => Pv.chk fun _ => Pv.st (Pv.ret ⟨hz.v41 pa, vw _ (ur_ne (by omega))⟩)) fun _ => ?_
  refine Pv.ite (fun _ => Pv.chk fun _ => Pv.chk fun _ => Pv.cag fun v r2 e2 => Pv.st (Pv.ret ?_)) fun _ => ?_
  · obtain ⟨er, ev⟩ := held_inv e2
    subst er
    refine ⟨hz.v41 ?_, vw _ (ur_ne (by omega))⟩
    unfold B3
    rw [ev]
    split
    · split at * <;> omega
    · omega
  refine Pv.ite (fun _ => Pv.chk fun _ => Pv.chk fun _ => Pv.st (Pv.chk fun _ => Pv.chk fun _ => Pv.st (Pv.chk fun _ => Pv.st (Pv.ret ⟨((hz.set (by omega)).set (by omega)).set (by omega), vw _ (by rw [ur_ne (by omega), ur_ne (by omega), ur_ne (by omega)])⟩)))) fun _ => ?_
  refine Pv.ite (fun _ => Pv.chk fun _ => Pv.cag fun v r2 e2 => ?_) fun _ => ?_
  · obtain ⟨a, b⟩ := v_isMarked hz v r2 e2
    exact Pv.ite (fun _ => Pv.chk fun _ => Pv.chk fun _ => Pv.st (Pv.ret (at40 _ _ a (b 55 (by omega))))) fun _ => Pv.chk fun _ => Pv.st (Pv.ret (at40 _ _ a (b 55 (by omega))))
  refine Pv.ite (fun _ => Pv.chk fun _ => Pv.ite (fun _ => Pv.st (Pv.ret ⟨hz.set (by omega), vw _ (ur_ne (by omega))⟩)) fun _ => Pv.chk fun _ => Pv.st (Pv.ret ⟨hz.set (by omega), vw _ (ur_ne (by omega))⟩)) fun _ => ?_
  refine Pv.ite (fun _ => Pv.chk fun _ => Pv.chk fun _ => Pv.ite (fun _ => dec _ _ _) fun _ => Pv.chk fun _ => dec _ _ _) fun _ => ?_
  refine Pv.ite (fun _ => Pv.chk fun _ => Pv.cag fun v r2 e2 => ?_) fun _ => ?_
  · obtain ⟨a, b⟩ := v_fails hz pa v r2 e2
    exact Pv.ret ⟨a, nw _ b⟩
  refine Pv.ite (fun _ => Pv.cag fun v r2 e2 => ?_) fun _ => ?_
  · have k : Pv (fun r' => VB0 r' ∧ r' 42 0 ≠ 0) (G_againOrFails z) := by
      unfold G_againOrFails G_againOrFails_0
      exact Pv.ite (fun _ => Pv.cag fun v r2 e2 => Pv.ret (v_fails hz (⟨by decide, by decide⟩ : B3 7) v r2 e2)) fun _ => Pv.cag fun v r2 e2 => Pv.ret (v_ends hz (by unfold Sov; omega) hz.1 v r2 e2)
    obtain ⟨a, b⟩ := k v r2 e2
    exact Pv.ret ⟨a, nw _ b⟩
  refine Pv.ite (fun _ => Pv.cag fun v r2 e2 => ?_) fun _ => ?_
  · obtain ⟨a, b⟩ := v_ends hz (by unfold Sov; omega) hz.1 v r2 e2
    exact Pv.ret ⟨a, nw _ b⟩
  exact Pv.st (Pv.cag fun v r2 e2 => Pv.ret (v_waitsAt (hz.set (by omega)) (ur_e rfl rfl) v r2 e2))
theorem v_goesOn : ∀ (n : Nat) (r : Rst), VB r → Pv VB (G_goesOn_0 n r) := by
  intro n
  induction n with
  | zero => intro r h; exact Pv.no
  | succ n ih =>
    intro r h
    rw [G_goesOn_0]
    have nw : ∀ r2 : Rst, r2 42 0 ≠ 0 → VW r2 := fun r2 b c => absurd c b
    refine Pv.ite (fun _ => Pv.ite (fun c55 => ?_) fun _ => Pv.ret h) fun _ => Pv.ret h
    have c36 : Pv VB (G_goesOn_36 (G_goesOn_0 n) r) := by
      unfold G_goesOn_36
      refine Pv.chk fun _ => Pv.ite (fun _ => Pv.cag fun v r2 e2 => ?_) fun _ => Pv.ite (fun _ => Pv.cag fun v r2 e2 => ?_) fun _ => Pv.chk fun _ => Pv.ste fun z ez => ?_
      · obtain ⟨a, b⟩ := v_ends h.1 (by unfold Sov; omega) h.1.1 v r2 e2
        exact ih _ ⟨a, nw _ b⟩
      · obtain ⟨a, b⟩ := v_fails h.1 (⟨by decide, by decide⟩ : B3 9) v r2 e2
        exact ih _ ⟨a, nw _ b⟩
      · have hz : VB0 z := by rw [ez]; exact h.1.set (by omega)
        have z55 : z 55 0 = 0 := by rw [ez, ur_n (by omega)]; exact c55
        have c126 : ∀ (z2 : Rst) (s0 s1 : Int), VB0 z2 → z2 55 0 = 0 → Pv VB (G_goesOn_126 (G_goesOn_0 n) s0 s1 z2) := fun z2 s0 s1 a b => by
          unfold G_goesOn_126
          refine Pv.chk fun _ => Pv.st (Pv.cag fun v r2 e2 => ?_)
          exact ih _ (v_passes (a.set (by omega)) (by rw [ur_n (by omega)]; exact b) v r2 e2)
        have c106 : ∀ s0 : Int, Pv VB (G_goesOn_106 (G_goesOn_0 n) s0 z) := fun s0 => by
          unfold G_goesOn_106
          refine Pv.chk fun _ => Pv.st (Pv.ite (fun _ => c126 _ _ _ (hz.set (by omega)) (by rw [ur_n (by omega)]; exact z55)) fun _ => c126 _ _ _ (hz.set (by omega)) (by rw [ur_n (by omega)]; exact z55))
        exact Pv.ite (fun _ => c106 _) fun _ => c106 _
    refine Pv.ite (fun _ => c36) fun _ => Pv.ite (fun _ => Pv.cag fun v r2 e2 => ?_) fun _ => c36
    obtain ⟨a, b⟩ := v_fails h.1 B3.neg1 v r2 e2
    exact ih _ ⟨a, nw _ b⟩
theorem v_takesSignal (h : VB r) {x y : Int} (hy : B3 y) : Pv VB (G_takesSignal x y r) := by
  unfold G_takesSignal G_takesSignal_0
  refine Pv.chk fun _ => Pv.ste fun z1 ez1 => Pv.chk fun _ => Pv.ste fun z2 ez2 => Pv.chk fun _ => Pv.ste fun z3 ez3 => Pv.chk fun _ => Pv.ste fun z ez => ?_
  have h1 : VB0 z1 := by rw [ez1]; exact h.1.set (by omega)
  have h2 : VB0 z2 := by rw [ez2]; exact h1.v66 hy
  have h3 : VB0 z3 := by rw [ez3]; exact h2.set (by omega)
  have hz : VB0 z := by rw [ez]; exact h3.set (by omega)
  have wz : VW z := h.2.fr fun j hj => by rw [ez, ur_ne (by omega), ez3, ur_ne (by omega), ez2, ur_ne (by omega), ez1, ur_ne (by omega)]
  have c56 : ∀ s0, Pv VB (G_takesSignal_56 y s0 z) := fun s0 => by
    unfold G_takesSignal_56 G_takesSignal_97
    refine Pv.ite (fun _ => Pv.ret ⟨hz, wz⟩) fun _ => Pv.chk fun _ => Pv.chk fun _ => Pv.ste fun z4 ez4 => Pv.chk fun _ => ?_
    have h4 : VB0 z4 := by rw [ez4]; exact hz.set (by omega)
    have w4 : VW z4 := wz.fr fun j hj => by rw [ez4, ur_ne (by omega)]
    have g : ∀ z' : Rst, VB0 z' → VW z' → Pv VB (cag (G_gets s0 y z') fun _ r1 => some (0, r1)) := fun z' a b => Pv.cag fun v r2 e2 => by
      obtain ⟨c, d⟩ := v_gets a hy v r2 e2
      exact Pv.ret ⟨c, b.fr fun j hj => d j (by omega)⟩
    refine Pv.ite (fun _ => g _ h4 w4) fun _ => Pv.chk fun _ => Pv.cag fun v r2 e2 => ?_
    obtain ⟨_, rfl, rfl⟩ := dec_inv e2
    exact g _ h4.dec (w4.fr fun j hj => gdec_n (by omega))
  refine Pv.ite (fun _ => Pv.cag fun v r2 e2 => ?_) fun _ => c56 _
  have er := (waitingS_inv e2).1
  subst er
  exact c56 _
theorem v_takesOver (h : VB r) {its x y : Int} (hy : its = 1 ∨ its = 5 → B3 y) (hk : its = 1 ∨ its = 2 ∨ its = 3 ∨ its = 5) : Pv VB (G_takesOver its x y r) := by
  have c28 : ∀ s0, Pv VB (G_takesOver_28 its y s0 r) := fun s0 => by
    unfold G_takesOver_28
    have g : ∀ w, B3 w → Pv VB (cag (G_gets s0 w r) fun _ r1 => some (0, r1)) := fun w hw => Pv.cag fun v r2 e2 => by
      obtain ⟨c, d⟩ := v_gets h.1 hw v r2 e2
      exact Pv.ret ⟨c, h.2.fr fun j hj => d j (by omega)⟩
    refine Pv.ite (fun _ => Pv.ret h) fun _ => Pv.ite (fun _ => Pv.chk fun _ => Pv.st (Pv.chk fun _ => Pv.st (Pv.ret ⟨(h.1.set (by omega)).set (by omega), h.2.fr fun j hj => by rw [ur_ne (by omega), ur_ne (by omega)]⟩))) fun c2 => Pv.ite (fun _ => Pv.chk fun _ => Pv.ite (fun _ => g _ B3.neg1) fun _ => Pv.chk fun _ => Pv.st (Pv.ret ⟨h.1.set (by omega), h.2.fr fun j hj => by rw [ur_ne (by omega)]⟩)) fun c3 => g _ (hy (by omega))
  unfold G_takesOver G_takesOver_0 G_takesOver_24
  have wt : ∀ k, Pv VB (cag (G_waiting k x r) fun v2 r1 => G_takesOver_28 its y v2 r1) := fun k => Pv.cag fun v r2 e2 => by
    have er := (waiting_inv e2).1
    subst er
    exact c28 _
  refine Pv.ite (fun _ => Pv.cag fun v r2 e2 => ?_) fun _ => Pv.ite (fun _ => wt _) fun _ => wt _
  have er := (waitingT_inv e2).1
  subst er
  exact c28 _
theorem v_takes (h : VB r) {its x y : Int} (hk : 0 ≤ its ∧ its < 7) (hx : its = 0 → B3 x) (hy : its = 1 ∨ its = 4 ∨ its = 5 → B3 y) : Pv VB (G_takes its x y r) := by
  have nw : ∀ r2 : Rst, r2 42 0 ≠ 0 → VW r2 := fun r2 b c => absurd c b
  have c142 : ∀ z : Rst, VB z → Pv VB (G_takes_142 z) := fun z a => by
    unfold G_takes_142 G_goesOn
    exact Pv.cag fun v r2 e2 => Pv.ret (v_goesOn _ _ a v r2 e2)
  have c117 : ∀ z : Rst, VB z → Pv VB (G_takes_117 z) := fun z a => by
    unfold G_takes_117
    refine Pv.ite (fun _ => Pv.ite (fun _ => c142 _ a) fun _ => Pv.cag fun v r2 e2 => ?_) fun _ => c142 _ a
    have er := (areDone_inv e2).1
    subst er
    exact Pv.ite (fun _ => c142 _ a) fun _ => Pv.cag fun v r3 e3 => c142 _ (v_finishes a.1 v r3 e3)
  unfold G_takes G_takes_0
  refine Pv.ste fun z ez => ?_
  have hz : VB z := by
    rw [ez]
    exact ⟨h.1.set (by omega), h.2.fr fun j hj => ur_ne (by omega)⟩
  refine Pv.ite (fun c => Pv.st (c117 _ ⟨hz.1.v41 (hx c), hz.2.fr fun j hj => ur_ne (by omega)⟩)) fun c0 => Pv.ite (fun c => Pv.cag fun v r2 e2 => c117 _ (v_takesSignal hz (hy (by omega)) v r2 e2)) fun c4 => Pv.ite (fun c => Pv.ste fun z2 ez2 => ?_) fun c6 => ?_
  · have h2 : VB z2 := by
      rw [ez2]
      exact ⟨hz.1.set (by omega), hz.2.fr fun j hj => ur_ne (by omega)⟩
    refine Pv.ite (fun _ => Pv.ite (fun _ => c117 _ h2) fun _ => Pv.ite (fun _ => Pv.cag fun v r2 e2 => ?_) fun _ => c117 _ h2) fun _ => c117 _ h2
    obtain ⟨a, b⟩ := v_cuts h2.1 v r2 e2
    exact c117 _ ⟨a, nw _ b⟩
  · have c103 : Pv VB (G_takes_103 its x y z) := by
      unfold G_takes_103
      exact Pv.ite (fun _ => Pv.cag fun v r2 e2 => c117 _ (v_takesOver hz (fun e => hy (by omega)) (by omega) v r2 e2)) fun _ => c117 _ hz
    have c88 : z 42 0 = 1 → Pv VB (G_takes_88 its x y z) := fun m => by
      unfold G_takes_88
      refine Pv.ite (fun _ => Pv.cag fun v r2 e2 => ?_) fun _ => c103
      obtain ⟨a, b⟩ := v_undoesNext hz.1 m v r2 e2
      exact c117 _ ⟨a, nw _ b⟩
    exact Pv.ite (fun m => Pv.ite (fun _ => c88 m) fun _ => Pv.ite (fun _ => c88 m) fun _ => c103) fun _ => c103
/-- a history whose values stay so -/
def HV (r : Rst) (B hi : Int) : Prop := ∀ i, 0 ≤ i → i < hi → 0 ≤ r 19 (B + i) ∧ (r 19 (B + i) = 0 → B3 (r 20 (B + i))) ∧ (r 19 (B + i) = 1 ∨ r 19 (B + i) = 4 ∨ r 19 (B + i) = 5 → B3 (r 21 (B + i)))
theorem v_takesAll7 {B hi : Int} : ∀ (n : Nat) (i : Int) (r r0 : Rst), VB r → 0 ≤ i → HV r0 B hi → (∀ j : Nat, 19 ≤ j → j ≤ 21 → r j = r0 j) → Pv VB (G_takesAll_7 n (B + hi) (B + i) r) := by
  intro n
  induction n with
  | zero => intro i r r0 h h0 hv er; exact Pv.no
  | succ n ih =>
    intro i r r0 h h0 hv er
    rw [G_takesAll_7]
    refine Pv.ite (fun _ => Pv.ret h) fun c => Pv.chk fun _ => Pv.ite (fun _ => Pv.chk fun _ => ?_) fun c7 => Pv.chk fun _ => Pv.chk fun _ => Pv.chk fun _ => Pv.cag fun v r2 e2 => Pv.chk fun _ => ?_
    · rw [Int.add_assoc]
      exact ih (i + 1) r r0 h (by omega) hv er
    · have k := hv i h0 (by omega)
      rw [← er 19 (by omega) (by omega), ← er 20 (by omega) (by omega), ← er 21 (by omega) (by omega)] at k
      rw [Int.add_assoc]
      refine ih (i + 1) r2 r0 (v_takes h ⟨k.1, by omega⟩ k.2.1 k.2.2 v r2 e2) (by omega) hv (fun j a b => ?_)
      rw [(mg_takes v r2 e2).2 j (by omega), er j a b]
end VS
