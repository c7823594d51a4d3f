/-! the reference's play: what is among that which it decides (4) -/
section JF
variable {A T M K : Int} {hx : Prop} {r : Rst}
theorem J.nc0 (h : J A T M K hx r) (h42 : r 42 0 = 0) (h55 : r 55 0 = 0) : hx → ¬ Ch r := h.nc h42 fun k a b => by omega
/-- a mark, or what is told, is decided -/
theorem J.tell {k x y : Int} (h : J A T M K hx r) (h42 : r 42 0 = 0) (h55 : r 55 0 = 0) (hk : k = 13 ∨ k = 14 ∧ 0 ≤ x ∧ x ≤ 1) : J A T M K hx (gdec k x y r) := by
  have z : (if pA k = true then (1 : Int) else 0) = 0 ∧ (if pT k = true then (1 : Int) else 0) = 0 ∧ (if pM k = true then (1 : Int) else 0) = 0 := by
    rcases hk with rfl | ⟨rfl, _⟩ <;> exact ⟨rfl, rfl, rfl⟩
  refine h.put (fun _ _ => rfl) (by rw [z.1]; omega) (by rw [z.2.1]; omega) (by rw [z.2.2]; omega) (by omega) (fun e => by omega) (fun e => by omega) (fun e => by omega) (fun e => by omega) (fun e => by omega) (by omega) (fun e => by omega) h.mono59 (fun u w => ?_) (fun _ _ => rfl)
  rcases w with w | w
  · exact absurd w (h.nc0 h42 h55 u)
  · omega
/-- any change that touches neither what is decided nor what is waited for, while there is no new child -/
theorem J.free {r1 : Rst} (h : J A T M K hx r) (h42 : r 42 0 = 0) (h55 : r 55 0 = 0) (e : ∀ j : Nat, j = 42 ∨ j = 51 ∨ j = 52 ∨ j = 53 ∨ j = 55 ∨ (72 ≤ j ∧ j ≤ 76) ∨ (2 ≤ j ∧ j ≤ 4) ∨ j = 47 ∨ j = 83 → r1 j = r j) : J A T M K hx r1 ∧ r1 42 0 = 0 ∧ r1 55 0 = 0 := by
  refine ⟨h.gen (e 51 (by omega)) (e 52 (by omega)) (e 53 (by omega)) (fun j a => e j (by omega)) (fun a => by omega) (fun i a b => ?_) fun x y => absurd y (h.nc0 h42 h55 x), by rw [e 42 (by omega)]; exact h42, by rw [e 55 (by omega)]; exact h55⟩
  rw [e 55 (by omega)] at b
  omega
theorem boolG_some {o : Option G2} {x : G2} (h : boolG o = some x) : o = some x := by
  unfold boolG at h
  split at h
  · rcases ite_some h with ⟨_, h⟩ | ⟨_, h⟩
    · exact h
    · cases h
  · cases h
theorem Pv.bool {I : Rst → Prop} {o : Option G2} (h : Pv I o) : Pv I (boolG o) := fun v r' e => h v r' (boolG_some e)
theorem J_isMarked {x : Int} (h : J A T M K hx r) (h42 : r 42 0 = 0) (h55 : r 55 0 = 0) : Pv (fun r' => J A T M K hx r' ∧ r' 42 0 = 0 ∧ r' 55 0 = 0 ∧ ∀ j : Nat, j = 3 ∨ j = 2 → r' j = r j) (G_isMarked x r) := by
  refine Pv.bool ?_
  unfold G_isMarked_0
  have c65 : ∀ s0, Pv (fun r' => J A T M K hx r' ∧ r' 42 0 = 0 ∧ r' 55 0 = 0 ∧ ∀ j : Nat, j = 3 ∨ j = 2 → r' j = r j) (G_isMarked_65 x s0 r) := fun s0 => by
    unfold G_isMarked_65
    refine Pv.ite (fun _ => Pv.ret ⟨h, h42, h55, fun _ _ => rfl⟩) fun _ => Pv.ste fun z ez => Pv.cag fun v r1 e => ?_
    obtain ⟨_, rfl, rfl⟩ := dec_inv e
    obtain ⟨k1, k2, k3⟩ := h.free h42 h55 (r1 := z) fun j hj => by rw [ez, ur_ne (by omega)]
    refine Pv.ret ⟨k1.tell k2 k3 (Or.inl rfl), by rw [gdec_n (by omega)]; exact k2, by rw [gdec_n (by omega)]; exact k3, fun j hj => by rw [gdec_n (by omega), ez, ur_ne (by omega)]⟩
  refine Pv.ite (fun _ => Pv.ret ⟨h, h42, h55, fun _ _ => rfl⟩) fun _ => Pv.chk fun _ => Pv.ite (fun _ => Pv.ite (fun _ => c65 _) fun _ => Pv.chk fun _ => Pv.ite (fun _ => Pv.chk fun _ => Pv.ite (fun _ => c65 _) fun _ => c65 _) fun _ => c65 _) fun _ => c65 _
theorem J_passes {s : Int} (h : J A T M K hx r) (h42 : r 42 0 = 0) (h55 : r 55 0 = 0) : Pv (J A T M K hx) (G_passes s r) := by
  unfold G_passes G_passes_0
  refine Pv.cag fun p r1 e => ?_
  have er : r1 = r := by
    unfold G_stepAt G_stepAt_0 at e
    obtain ⟨_, e⟩ := chk_some e
    obtain ⟨_, e⟩ := chk_some e
    cases e; rfl
  subst er
  refine Pv.chk fun _ => Pv.ste fun z ez => Pv.chk fun hp => ?_
  obtain ⟨k1, k2, k3⟩ := h.free h42 h55 (r1 := z) fun j hj => by rw [ez, ur_ne (by omega)]
  clear ez
  have fr : ∀ {z1 : Rst} {j : Nat} {i v w : Int}, J A T M K hx z1 → z1 42 0 = 0 → z1 55 0 = 0 → (j = 40 ∨ j = 41 ∨ j = 45 ∨ (69 ≤ j ∧ j ≤ 71)) → Pv (J A T M K hx) (stg (ur z1 j i v) fun r14 => some (w, r14)) := fun h1 h2 h3 hj => Pv.st (Pv.ret (h1.free h2 h3 fun k hk => ur_ne (by omega)).1)
  have c324 : ∀ a b, 0 ≤ b → b ≤ 1 → Pv (J A T M K hx) (G_passes_324 a b 14 z) := fun a b b0 b1 => by
    unfold G_passes_324
    refine Pv.cag fun v r2 e => ?_
    obtain ⟨_, rfl, rfl⟩ := dec_inv e
    exact Pv.ret (k1.tell k2 k3 (Or.inr ⟨rfl, b0, b1⟩))
  refine Pv.ite (fun _ => ?_) fun _ => Pv.ite (fun _ => ?_) fun _ => Pv.ite (fun _ => ?_) fun _ => Pv.ite (fun _ => ?_) fun _ => Pv.ite (fun _ => ?_) fun _ => Pv.ite (fun _ => ?_) fun _ => Pv.ite (fun _ => ?_) fun _ => Pv.ite (fun c12 => ?_) fun _ => Pv.ite (fun _ => ?_) fun _ => Pv.ite (fun _ => ?_) fun _ => Pv.ite (fun _ => ?_) fun _ => ?_
  · exact Pv.chk fun _ => Pv.ite (fun _ => Pv.chk fun _ => fr k1 k2 k3 (by omega)) fun _ => Pv.chk fun _ => Pv.chk fun _ => fr k1 k2 k3 (by omega)
  · exact Pv.chk fun _ => Pv.ite (fun _ => fr k1 k2 k3 (by omega)) fun _ => Pv.chk fun _ => Pv.chk fun _ => fr k1 k2 k3 (by omega)
  · exact Pv.chk fun _ => fr k1 k2 k3 (by omega)
  · refine Pv.chk fun _ => Pv.chk fun _ => Pv.cag fun v r2 e => ?_
    have := (held_inv e).1
    subst this
    exact fr k1 k2 k3 (by omega)
  · refine Pv.chk fun _ => Pv.chk fun _ => Pv.ste fun y ey => Pv.chk fun _ => Pv.chk fun _ => Pv.ste fun x ex => Pv.chk fun _ => ?_
    obtain ⟨a1, a2, a3⟩ := k1.free k2 k3 (r1 := x) fun j hj => by rw [ex, ur_ne (by omega), ey, ur_ne (by omega)]
    exact fr a1 a2 a3 (by omega)
  · refine Pv.chk fun _ => Pv.cag fun v r2 e => ?_
    obtain ⟨a1, a2, a3, _⟩ := J_isMarked k1 k2 k3 v r2 e
    exact Pv.ite (fun _ => Pv.chk fun _ => Pv.chk fun _ => fr a1 a2 a3 (by omega)) fun _ => Pv.chk fun _ => fr a1 a2 a3 (by omega)
  · exact Pv.chk fun _ => Pv.ite (fun _ => fr k1 k2 k3 (by omega)) fun _ => Pv.chk fun _ => fr k1 k2 k3 (by omega)
  · have pg := (k1.1.2.2.1 p hp.1 hp.2).2.1 c12
    exact Pv.chk fun _ => Pv.chk fun _ => Pv.ite (fun _ => c324 _ _ pg.1 pg.2) fun _ => Pv.chk fun _ => c324 _ _ pg.1 pg.2
  · exact Pv.chk fun _ => Pv.cag fun v r2 e => Pv.ret (J_fails k1 (by omega) v r2 e).1
  · refine Pv.cag fun v r2 e => Pv.ret ?_
    unfold G_againOrFails G_againOrFails_0 at e
    rcases ite_some e with ⟨_, e⟩ | ⟨c83, e⟩
    · obtain ⟨v3, r3, e3, e4⟩ := cag_some e
      cases e4
      exact (J_fails k1 (by omega) _ _ e3).1
    · obtain ⟨v3, r3, e3, e4⟩ := cag_some e
      cases e4
      exact (J_ends k1 (by omega) (fun _ => c83) (by decide) _ _ e3).1
  · exact Pv.cag fun v r2 e => Pv.ret (J_ends k1 (by omega) (fun e9 => by omega) (by decide) v r2 e).1
  · refine Pv.ste fun y ey => Pv.cag fun v r2 e => Pv.ret ?_
    obtain ⟨a1, a2, a3⟩ := k1.free k2 k3 (r1 := y) fun j hj => by rw [ey, ur_ne (by omega)]
    exact J_waitsAt a1 a2 a3 v r2 e
theorem J_goesOn : ∀ (n : Nat) (r : Rst), J A T M K hx r → Pv (J A T M K hx) (G_goesOn_0 n r) := by
  intro n
  induction n with
  | zero => intro r _; rw [G_goesOn_0]; exact Pv.no
  | succ n ih =>
    intro r h
    rw [G_goesOn_0]
    refine Pv.ite (fun h42 => Pv.ite (fun h55 => ?_) fun _ => Pv.ret h) fun _ => Pv.ret h
    have c36 : Pv (J A T M K hx) (G_goesOn_36 (G_goesOn_0 n) r) := by
      unfold G_goesOn_36
      refine Pv.chk fun _ => Pv.ite (fun _ => Pv.cag fun v r1 e => ih _ (J_ends h (by omega) (fun e9 => by omega) (by decide) v r1 e).1) fun _ => Pv.ite (fun _ => Pv.cag fun v r1 e => ih _ (J_fails h (by omega) v r1 e).1) fun _ => Pv.chk fun _ => Pv.ste fun z ez => ?_
      obtain ⟨k1, k2, k3⟩ := h.free h42 h55 (r1 := z) fun j hj => by rw [ez, ur_ne (by omega)]
      clear ez
      have c106 : ∀ s0, Pv (J A T M K hx) (G_goesOn_106 (G_goesOn_0 n) s0 z) := fun s0 => by
        unfold G_goesOn_106
        refine Pv.chk fun _ => Pv.ste fun y ey => ?_
        obtain ⟨a1, a2, a3⟩ := k1.free k2 k3 (r1 := y) fun j hj => by rw [ey, ur_ne (by omega)]
        clear ey
        have c126 : ∀ a b, Pv (J A T M K hx) (G_goesOn_126 (G_goesOn_0 n) a b y) := fun a b => by
          unfold G_goesOn_126
          refine Pv.chk fun _ => Pv.ste fun x ex => Pv.cag fun v r1 e => ?_
          obtain ⟨b1, b2, b3⟩ := a1.free a2 a3 (r1 := x) fun j hj => by rw [ex, ur_ne (by omega)]
          exact ih _ (J_passes b1 b2 b3 v r1 e)
        exact Pv.ite (fun _ => c126 _ _) fun _ => c126 _ _
      exact Pv.ite (fun _ => c106 _) fun _ => c106 _
    exact Pv.ite (fun _ => c36) fun _ => Pv.ite (fun _ => Pv.cag fun v r1 e => ih _ (J_fails h (by omega) v r1 e).1) fun _ => c36
theorem J_142 (h : J A T M K hx r) : Pv (J A T M K hx) (G_takes_142 r) := by
  unfold G_takes_142 G_goesOn
  exact Pv.cag fun v r1 e => Pv.ret (J_goesOn _ _ h v r1 e)
theorem J_117 (h : J A T M K hx r) : Pv (J A T M K hx) (G_takes_117 r) := by
  unfold G_takes_117
  refine Pv.ite (fun h42 => Pv.ite (fun _ => J_142 h) fun _ => Pv.cag fun v r1 e => ?_) fun _ => J_142 h
  obtain ⟨rfl, hd⟩ := areDone_inv e
  refine Pv.ite (fun _ => J_142 h) fun c => Pv.cag fun v2 r2 e2 => ?_
  exact J_142 (J_finishes h h42 (h.nc h42 (hd c)) v2 r2 e2)
/-- which place waits for it -/
theorem waiting_inv {l1 l2 v : Int} {r1 : Rst} (e : G_waiting l1 l2 r = some (v, r1)) : r1 = r ∧ (v ≠ -1 → r 56 v = l1 ∧ r 58 v = l2) := by
  have go : ∀ (n : Nat) (l3 l4 : Int) (v : Int) (r1 : Rst), G_waiting_5 n l1 l2 l3 l4 r = some (v, r1) → r1 = r ∧ (v ≠ l3 → r 56 v = l1 ∧ r 58 v = l2) := by
    intro n
    induction n with
    | zero => intro l3 l4 v r1 e; rw [G_waiting_5] at e; cases e
    | succ n ih =>
      intro l3 l4 v r1 e
      rw [G_waiting_5] at e
      rcases ite_some e with ⟨_, e⟩ | ⟨_, e⟩
      · cases e; exact ⟨rfl, fun h => absurd rfl h⟩
      · obtain ⟨_, e⟩ := chk_some e
        rcases ite_some e with ⟨c1, e⟩ | ⟨_, e⟩
        · obtain ⟨_, e⟩ := chk_some e
          rcases ite_some e with ⟨c2, e⟩ | ⟨_, e⟩
          · obtain ⟨_, e⟩ := chk_some e
            rcases ite_some e with ⟨_, e⟩ | ⟨_, e⟩
            · obtain ⟨_, e⟩ := chk_some e
              obtain ⟨k1, k2⟩ := ih _ _ _ _ e
              refine ⟨k1, fun h => ?_⟩
              by_cases ev : v = l4
              · rw [ev]; exact ⟨c1, c2⟩
              · exact k2 ev
            · obtain ⟨_, e⟩ := chk_some e; exact ih _ _ _ _ e
          · obtain ⟨_, e⟩ := chk_some e; exact ih _ _ _ _ e
        · obtain ⟨_, e⟩ := chk_some e; exact ih _ _ _ _ e
  unfold G_waiting G_waiting_0 at e
  exact go _ _ _ _ _ e
theorem waitingT_inv {l1 v : Int} {r1 : Rst} (e : G_waitingTimer l1 r = some (v, r1)) : r1 = r ∧ (v ≠ -1 → r 59 v = l1) := by
  have go : ∀ (n : Nat) (l3 l4 : Int) (v : Int) (r1 : Rst), G_waitingTimer_4 n l1 l3 l4 r = some (v, r1) → r1 = r ∧ (v ≠ l3 → r 59 v = l1) := by
    intro n
    induction n with
    | zero => intro l3 l4 v r1 e; rw [G_waitingTimer_4] at e; cases e
    | succ n ih =>
      intro l3 l4 v r1 e
      rw [G_waitingTimer_4] at e
      rcases ite_some e with ⟨_, e⟩ | ⟨_, e⟩
      · cases e; exact ⟨rfl, fun h => absurd rfl h⟩
      · obtain ⟨_, e⟩ := chk_some e
        rcases ite_some e with ⟨c1, e⟩ | ⟨_, e⟩
        · obtain ⟨_, e⟩ := chk_some e
          rcases ite_some e with ⟨_, e⟩ | ⟨_, e⟩
          · obtain ⟨_, e⟩ := chk_some e
            obtain ⟨k1, k2⟩ := ih _ _ _ _ e
            refine ⟨k1, fun h => ?_⟩
            by_cases ev : v = l4
            · rw [ev]; exact c1
            · exact k2 ev
          · obtain ⟨_, e⟩ := chk_some e; exact ih _ _ _ _ e
        · obtain ⟨_, e⟩ := chk_some e; exact ih _ _ _ _ e
  unfold G_waitingTimer G_waitingTimer_0 at e
  exact go _ _ _ _ _ e
theorem waitingS_inv {l1 v : Int} {r1 : Rst} (e : G_waitingSignal l1 r = some (v, r1)) : r1 = r ∧ (v ≠ -1 → r 56 v = 2 ∧ v < r 55 0) := by
  have go : ∀ (n : Nat) (l3 l4 : Int) (v : Int) (r1 : Rst), l4 < r 55 0 → G_waitingSignal_9 n l1 l3 l4 r = some (v, r1) → r1 = r ∧ (v ≠ l3 → r 56 v = 2 ∧ v < r 55 0) := by
    intro n
    induction n with
    | zero => intro l3 l4 v r1 _ e; rw [G_waitingSignal_9] at e; cases e
    | succ n ih =>
      intro l3 l4 v r1 hl e
      rw [G_waitingSignal_9] at e
      rcases ite_some e with ⟨_, e⟩ | ⟨_, e⟩
      · cases e; exact ⟨rfl, fun h => absurd rfl h⟩
      · obtain ⟨_, e⟩ := chk_some e
        rcases ite_some e with ⟨c1, e⟩ | ⟨_, e⟩
        · obtain ⟨_, e⟩ := chk_some e
          rcases ite_some e with ⟨c2, e⟩ | ⟨_, e⟩
          · obtain ⟨_, e⟩ := chk_some e
            rcases ite_some e with ⟨_, e⟩ | ⟨_, e⟩
            · obtain ⟨_, e⟩ := chk_some e
              obtain ⟨k1, k2⟩ := ih _ _ _ _ (by omega) e
              refine ⟨k1, fun h => ?_⟩
              by_cases ev : v = l4
              · rw [ev]; exact ⟨c1, hl⟩
              · exact k2 ev
            · obtain ⟨_, e⟩ := chk_some e; exact ih _ _ _ _ (by omega) e
          · obtain ⟨_, e⟩ := chk_some e; exact ih _ _ _ _ (by omega) e
        · obtain ⟨_, e⟩ := chk_some e; exact ih _ _ _ _ (by omega) e
  unfold G_waitingSignal G_waitingSignal_0 at e
  obtain ⟨_, e⟩ := chk_some e
  exact go _ _ _ _ _ (by omega) e
theorem J_takesSignal {x y : Int} (h : J A T M K hx r) : Pv (J A T M K hx) (G_takesSignal x y r) := by
  unfold G_takesSignal G_takesSignal_0
  refine Pv.chk fun _ => Pv.ste fun z1 e1 => Pv.chk fun _ => Pv.ste fun z2 e2 => Pv.chk fun _ => Pv.ste fun z3 e3 => Pv.chk fun _ => Pv.ste fun z e4 => ?_
  have hz : J A T M K hx z := h.fr fun j hj => by rw [e4, ur_ne (by omega), e3, ur_ne (by omega), e2, ur_ne (by omega), e1, ur_ne (by omega)]
  clear e1 e2 e3 e4
  have c56 : ∀ s0, (s0 ≠ -1 → z 42 0 = 0 ∧ z 56 s0 = 2 ∧ s0 < z 55 0) → Pv (J A T M K hx) (G_takesSignal_56 y s0 z) := fun s0 hs => by
    unfold G_takesSignal_56
    refine Pv.ite (fun _ => Pv.ret hz) fun c => Pv.chk fun _ => Pv.chk fun _ => Pv.ste fun w ew => Pv.chk fun hs3 => ?_
    obtain ⟨g1, g2, g3⟩ := hs c
    have hw : J A T M K hx w := hz.fr fun j hj => by rw [ew, ur_ne (by omega)]
    have w42 : w 42 0 = 0 := by rw [ew, ur_n (by omega)]; exact g1
    have w56 : w 56 s0 = 2 := by rw [ew, ur_n (by omega)]; exact g2
    have w55 : s0 < w 55 0 := by rw [ew, ur_n (by omega)]; exact g3
    clear ew
    have c97 : ∀ u : Rst, J A T M K hx u → u 42 0 = 0 → u 56 s0 = 2 → Pv (J A T M K hx) (G_takesSignal_97 y s0 u) := fun u hu u42 u56 => by
      unfold G_takesSignal_97
      refine Pv.cag fun v r1 e => ?_
      have := gets_inv e
      subst this
      refine Pv.ret (hu.over (s := s0) (fun j hj => by rw [ur_ne (by omega), ur_ne (by omega), ur_ne (by omega)]) (fun i hi => by simp (disch := omega) only [ur_n]) fun a b c => ?_)
      rcases (hu.2.2.2.2 a b).1 with d | ⟨i, i1⟩
      · exact absurd c d
      · exact ⟨i, fun e => by have := i1.2.2.1; rw [e, u56] at this; omega, i1⟩
    refine Pv.ite (fun _ => c97 w hw w42 w56) fun c1 => Pv.chk fun _ => Pv.cag fun v r1 e => ?_
    obtain ⟨_, rfl, rfl⟩ := dec_inv e
    have := hw.mono59 s0 hs3.1 w55
    exact c97 _ (hw.off w42 (Or.inr ⟨rfl, by omega, by omega⟩)) (by rw [gdec_n (by omega)]; exact w42) (by rw [gdec_n (by omega)]; exact w56)
  refine Pv.ite (fun c => Pv.cag fun v r1 e => ?_) fun _ => c56 _ fun h => absurd rfl h
  obtain ⟨rfl, hv⟩ := waitingS_inv e
  exact c56 _ fun h => ⟨c, hv h⟩
theorem J_takesOver {its x y : Int} (h : J A T M K hx r) (h5 : hx → its = 5 → x < M) (h3 : its = 3 → 0 ≤ x) : Pv (J A T M K hx) (G_takesOver its x y r) := by
  have c28 : ∀ s0, (s0 ≠ -1 → hx → ∀ i, Sc M r i → i ≠ s0) → Pv (J A T M K hx) (G_takesOver_28 its y s0 r) := fun s0 hs => by
    unfold G_takesOver_28
    have ov : ∀ r1 : Rst, s0 ≠ -1 → (∀ j : Nat, j = 41 ∨ j = 42 ∨ j = 51 ∨ j = 52 ∨ j = 53 ∨ j = 55 ∨ j = 56 ∨ j = 58 ∨ j = 59 ∨ (72 ≤ j ∧ j ≤ 76) ∨ (2 ≤ j ∧ j ≤ 4) ∨ j = 47 ∨ j = 83 → r1 j = r j) → (∀ i, i ≠ s0 → r1 60 i = r 60 i) → J A T M K hx r1 := fun r1 hs0 e1 e2 => h.over e1 e2 fun a b c => by
      rcases (h.2.2.2.2 a b).1 with d | ⟨i, i1⟩
      · exact absurd c d
      · exact ⟨i, hs hs0 a i i1, i1⟩
    have gt : ∀ v, s0 ≠ -1 → Pv (J A T M K hx) (cag (G_gets s0 v r) fun _ r8 => some (0, r8)) := fun v hs0 => Pv.cag fun w r1 e => by
      have := gets_inv e
      subst this
      exact Pv.ret (ov _ hs0 (fun j hj => by rw [ur_ne (by omega), ur_ne (by omega), ur_ne (by omega)]) fun i hi => by simp (disch := omega) only [ur_n])
    refine Pv.ite (fun _ => Pv.ret h) fun c => Pv.ite (fun _ => Pv.chk fun _ => Pv.st (Pv.chk fun _ => Pv.st (Pv.ret ?_))) fun _ => Pv.ite (fun _ => Pv.chk fun _ => Pv.ite (fun _ => gt _ c) fun _ => Pv.chk fun _ => Pv.st (Pv.ret ?_)) fun _ => gt _ c
    · exact ov _ c (fun j hj => by rw [ur_ne (by omega), ur_ne (by omega)]) fun i hi => by simp (disch := omega) only [ur_n]
    · exact ov _ c (fun j hj => ur_ne (by omega)) fun i hi => ur_n (Or.inr hi)
  have c24 : ∀ s0, (s0 = 3 → hx → x < M) → Pv (J A T M K hx) (G_takesOver_24 its x y s0 r) := fun s0 hs => by
    unfold G_takesOver_24
    refine Pv.cag fun v r1 e => ?_
    obtain ⟨rfl, hv⟩ := waiting_inv e
    refine c28 v fun hn a i hi he => ?_
    have k := hv hn
    rw [← he] at k
    have h1 := hi.2.2.1
    have h2 := hi.2.2.2.2.2
    have := hs (by omega) a
    omega
  unfold G_takesOver G_takesOver_0
  refine Pv.ite (fun c => Pv.cag fun v r1 e => ?_) fun _ => Pv.ite (fun c => c24 3 fun _ a => h5 a c) fun _ => c24 0 fun e => by omega
  obtain ⟨rfl, hv⟩ := waitingT_inv e
  refine c28 v fun hn a i hi he => ?_
  have k := hv hn
  rw [← he] at k
  have h1 := hi.2.2.2.2.1
  have := h3 c
  omega
theorem J_takes {its x y : Int} (h : J A T M K hx r) (h5 : hx → its = 5 → x < M) (h3 : its = 3 → 0 ≤ x) (h0 : its = 0 → r 76 0 = 0) : Pv (J A T M (if its = 6 then 1 else K) hx) (G_takes its x y r) := by
  unfold G_takes G_takes_0
  refine Pv.ste fun z ez => ?_
  have hz : J A T M K hx z := h.fr fun j hj => by rw [ez, ur_ne (by omega)]
  have z76 : z 76 0 = r 76 0 := by rw [ez, ur_n (by omega)]
  clear ez
  have k6 : its ≠ 6 → (if its = 6 then 1 else K) = K := fun c => if_f c
  have over : Pv (J A T M K hx) (G_takes_103 its x y z) := by
    unfold G_takes_103
    exact Pv.ite (fun _ => Pv.cag fun v r1 e => J_117 (J_takesOver hz h5 h3 v r1 e)) fun _ => J_117 hz
  have und : z 42 0 = 1 → Pv (J A T M K hx) (G_takes_88 its x y z) := fun m => by
    unfold G_takes_88
    exact Pv.ite (fun _ => Pv.cag fun v r1 e => J_117 (J_undoesNext hz m v r1 e).1) fun _ => over
  by_cases c6 : its = 6
  · rw [if_f (show ¬ its = 0 by omega), if_f (show ¬ its = 4 by omega), if_t c6, if_t c6]
    refine Pv.ste fun w ew => ?_
    have hw : J A T M 1 hx w := by
      have h2 := hz
      obtain ⟨⟨a1, a2, a3, a4⟩, a5⟩ := h2
      have ew' : ∀ j : Nat, j ≠ 47 → w j = z j := fun j hj => by rw [ew, ur_ne hj]
      unfold J Kd Ch Sc PgC at *
      rw [ew' 76 (by omega), ew' 2 (by omega), ew' 3 (by omega), ew' 4 (by omega), ew' 51 (by omega), ew' 52 (by omega), ew' 53 (by omega), ew' 72 (by omega), ew' 73 (by omega), ew' 42 (by omega), ew' 55 (by omega), ew' 59 (by omega), ew' 56 (by omega), ew' 60 (by omega), ew' 58 (by omega), ew' 75 (by omega), ew' 41 (by omega), ew' 83 (by omega)]
      exact ⟨⟨a1, a2, a3, by rw [ew, ur_e rfl rfl]⟩, a5⟩
    exact Pv.ite (fun h42 => Pv.ite (fun _ => J_117 hw) fun _ => Pv.ite (fun _ => Pv.cag fun v r1 e => J_117 (J_cuts hw h42 v r1 e).1) fun _ => J_117 hw) fun _ => J_117 hw
  rw [k6 c6, if_f c6]
  refine Pv.ite (fun c => Pv.ste fun w ew => ?_) fun _ => Pv.ite (fun _ => Pv.cag fun v r1 e => J_117 (J_takesSignal hz v r1 e)) fun _ => Pv.ite (fun m => Pv.ite (fun _ => und m) fun _ => Pv.ite (fun _ => und m) fun _ => over) fun _ => over
  · have := h0 c
    refine J_117 (hz.gen (by rw [ew, ur_ne (by omega)]) (by rw [ew, ur_ne (by omega)]) (by rw [ew, ur_ne (by omega)]) (fun j a => by rw [ew, ur_ne (by omega)]) (fun a => by rw [ew, ur_n (by omega)]; exact a) (by rw [ew, ur_ne (a := 55) (by omega), ur_ne (a := 59) (by omega), ur_ne (a := 52) (by omega)]; exact hz.mono59) fun x y => ?_)
    obtain ⟨k, k0, k1, _⟩ := y
    omega
/-- a part of the history -/
theorem J_takesAll7 {hs : Rst} {B E hi : Int} (hE : hi ≤ E) (hf : Hf hs E) (hM : hx → ∀ e, 0 ≤ e → e < hi → hs 0 e = 5 → hs 1 e < M) : ∀ (n : Nat) (i : Int) (r : Rst), 0 ≤ i → i ≤ hi → (i = 0 → r 76 0 = 0) → HsR hs B E r → Btw i r → Hs B E r → PgR r → Pt r → J A T M (can (hs 0) i.toNat) hx r → Pv (J A T M (can (hs 0) hi.toNat) hx) (G_takesAll_7 n (B + hi) (B + i) r) := by
  intro n
  induction n with
  | zero => intro i r _ _ _ _ _ _ _ _ _; rw [G_takesAll_7]; exact Pv.no
  | succ n ih =>
    intro i r h0 h1 hi0 hh hb hs' g pt h
    rw [G_takesAll_7]
    have b1 := hs'.1
    refine Pv.ite (fun c => Pv.ret (by rw [show hi = i by omega]; exact h)) fun c => Pv.chk fun _ => ?_
    have x := hh.2 i h0 (by omega)
    have cn : can (hs 0) (i + 1).toNat = if hs 0 i = 6 then 1 else can (hs 0) i.toNat := by
      rw [show (i + 1).toNat = i.toNat + 1 by omega, can, show ((i.toNat : Nat) : Int) = i by omega]
    refine Pv.ite (fun k => Pv.chk fun _ => ?_) fun k => Pv.chk fun _ => Pv.chk fun _ => Pv.chk fun _ => Pv.cag fun v r1 e => Pv.chk fun _ => ?_
    · rw [Int.add_assoc]
      exact ih (i + 1) r (by omega) (by omega) (fun e => by omega) hh (hb.le (by omega)) hs' g pt (by rw [cn, if_f (by omega)]; exact h)
    · rw [Int.add_assoc]
      obtain ⟨v2, r2, o1, o2, o3, o4⟩ := ok_takes1 hb hs' g pt h0 (by omega) (by omega)
      have j := J_takes h (its := r 19 (B + i)) (x := r 20 (B + i)) (y := r 21 (B + i)) (fun a b => by rw [← x.2.1]; exact hM a i h0 (by omega) (by rw [x.1]; exact b)) (fun b => by rw [← x.2.1]; exact hf.2.1 i h0 (by omega) (by rw [x.1]; omega) (by rw [x.1]; omega)) (fun b => hi0 (by
        by_cases c0 : i = 0
        · exact c0
        · exact absurd (x.1.trans b) (hf.1 i (by omega) (by omega)))) v r1 e
      rw [o1] at e
      cases e
      rw [← x.1, ← cn] at j
      exact ih (i + 1) r1 (by omega) (by omega) (fun e => by omega) (hh.sameQ o2) o4.1 (hs'.sameQ o2) (g.sameQ o2) (pt.sameQ o2) j
end JF
