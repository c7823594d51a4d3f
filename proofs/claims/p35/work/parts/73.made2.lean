/-! the reference's play: what is among that which it decides (2) -/
section JD
variable {A T M K : Int} {hx : Prop} {r : Rst}
theorem J.mono59 (h : J A T M K hx r) : ∀ i, 0 ≤ i → i < r 55 0 → -1 ≤ r 59 i ∧ r 59 i < r 52 0 := h.2.2.2.1
theorem J_ends {x y : Int} (h : J A T M K hx r) (h42 : r 42 0 ≠ 2) (h14 : x = 14 → r 83 0 ≠ 9) (h20 : x ≠ 20) : Pv (fun r' => J A T M K hx r' ∧ r' 42 0 = 2 ∧ r' 55 = r 55) (G_ends x y r) := by
  unfold G_ends G_ends_0
  refine Pv.st (Pv.st (Pv.st (Pv.cag fun v r1 e => ?_)))
  obtain ⟨_, rfl, rfl⟩ := dec_inv e
  refine Pv.ret ⟨h.put (fun j a => by rw [ur_ne (by omega), ur_ne (by omega), ur_ne (by omega)]) ?_ ?_ ?_ (by omega) (fun e => by omega) (fun e => by omega) (fun e => by omega) (fun e => by omega) (fun e => by omega) h42 (fun _ => ⟨?_, fun e => ?_, h20⟩) ?_ (fun _ _ => Or.inl ?_) (fun _ _ => ?_), ?_, ?_⟩
  · simp (disch := omega) only [ur_n]; exact (Int.add_zero _).symm
  · simp (disch := omega) only [ur_n]; exact (Int.add_zero _).symm
  · simp (disch := omega) only [ur_n]; exact (Int.add_zero _).symm
  · simp (disch := omega) only [ur_n, ur_e]
  · simp (disch := omega) only [ur_n]; exact h14 e
  · simp (disch := omega) only [ur_n]; exact h.mono59
  · simp (disch := omega) only [ur_n, ur_e]; decide
  · simp (disch := omega) only [ur_n]
  · rw [gdec_n (by omega)]; simp (disch := omega) only [ur_n, ur_e]
  · rw [gdec_n (by omega), ur_ne (by omega), ur_ne (by omega), ur_ne (by omega)]
theorem J_undoesNext (h : J A T M K hx r) (h42 : r 42 0 = 1) : Pv (fun r' => J A T M K hx r' ∧ r' 42 0 ≠ 0 ∧ r' 55 = r 55) (G_undoesNext r) := by
  unfold G_undoesNext G_undoesNext_0
  have en : ∀ x y, x ≠ 14 → x ≠ 20 → Pv (fun r' => J A T M K hx r' ∧ r' 42 0 ≠ 0 ∧ r' 55 = r 55) (cag (G_ends x y r) fun _ r5 => some (0, r5)) := fun x y hx9 hx20 => Pv.cag fun v r1 e => by
    obtain ⟨k1, k2, k3⟩ := J_ends h (by omega) (fun e9 => absurd e9 hx9) hx20 v r1 e
    exact Pv.ret ⟨k1, by omega, k3⟩
  refine Pv.ite (fun _ => Pv.ite (fun _ => en _ _ (by decide) (by decide)) fun _ => en _ _ (by decide) (by decide)) fun _ => Pv.chk fun _ => Pv.st (Pv.st (Pv.chk fun _ => Pv.st (Pv.chk fun _ => Pv.chk fun _ => Pv.cag fun v r1 e => ?_)))
  obtain ⟨_, rfl, rfl⟩ := dec_inv e
  refine Pv.ret ⟨h.put (fun j a => by rw [ur_ne (by omega), ur_ne (by omega), ur_ne (by omega)]) ?_ ?_ ?_ (by omega) (fun e => by omega) (fun e => by omega) (fun e => by omega) (fun e => by omega) (fun e => by omega) (by omega) (fun e => by omega) ?_ (fun _ _ => Or.inl ?_) (fun _ _ => ?_), ?_, ?_⟩
  · simp (disch := omega) only [ur_n, ur_e]; rfl
  · simp (disch := omega) only [ur_n]; exact (Int.add_zero _).symm
  · simp (disch := omega) only [ur_n]; exact (Int.add_zero _).symm
  · simp (disch := omega) only [ur_n]; exact h.mono59
  · simp (disch := omega) only [ur_n]; omega
  · simp (disch := omega) only [ur_n]
  · rw [gdec_n (by omega)]; simp (disch := omega) only [ur_n]; omega
  · rw [gdec_n (by omega), ur_ne (by omega), ur_ne (by omega), ur_ne (by omega)]
theorem J_fails {x : Int} (h : J A T M K hx r) (h42 : r 42 0 ≠ 2) : Pv (fun r' => J A T M K hx r' ∧ r' 42 0 ≠ 0 ∧ r' 55 0 = 0) (G_fails x r) := by
  unfold G_fails G_fails_0
  refine Pv.st (Pv.st (Pv.st (Pv.cag fun v r1 e => ?_)))
  have hz : J A T M K hx (ur (ur (ur r 42 0 1) 43 0 x) 55 0 0) := by
    refine h.gen (by rw [ur_ne (by omega), ur_ne (by omega), ur_ne (by omega)]) (by rw [ur_ne (by omega), ur_ne (by omega), ur_ne (by omega)]) (by rw [ur_ne (by omega), ur_ne (by omega), ur_ne (by omega)]) (fun j a => by rw [ur_ne (by omega), ur_ne (by omega), ur_ne (by omega)]) (fun e => absurd e h42) (fun i a b => ?_) fun _ _ => ⟨Or.inl ?_, ?_⟩
    · rw [ur_e rfl rfl] at b; omega
    · simp (disch := omega) only [ur_n, ur_e]; decide
    · simp (disch := omega) only [ur_n]
  obtain ⟨k1, k2, k3⟩ := J_undoesNext hz (by simp (disch := omega) only [ur_n, ur_e]) v r1 e
  exact Pv.ret ⟨k1, k2, by rw [k3]; exact ur_e rfl rfl⟩
/-- an activity or a timer that is waited for is called off -/
theorem J.off {k x : Int} (h : J A T M K hx r) (h42 : r 42 0 = 0) (hk : k = 9 ∧ 0 ≤ x ∧ x < r 51 0 ∨ k = 11 ∧ 0 ≤ x ∧ x < r 52 0) : J A T M K hx (gdec k x 0 r) := by
  have z : (if pA k = true then (1 : Int) else 0) = 0 ∧ (if pT k = true then (1 : Int) else 0) = 0 ∧ (if pM k = true then (1 : Int) else 0) = 0 := by
    rcases hk with ⟨rfl, _⟩ | ⟨rfl, _⟩ <;> exact ⟨rfl, rfl, rfl⟩
  refine h.put (fun _ _ => rfl) (by rw [z.1]; omega) (by rw [z.2.1]; omega) (by rw [z.2.2]; omega) (by omega) (fun e => by omega) (fun e => by omega) (fun e => by omega) (fun e => by omega) (fun e => by omega) (by omega) (fun e => by omega) h.mono59 (fun u w => ?_) (fun _ _ => rfl)
  rcases w with w | w
  · exact (h.2.2.2.2 u w).1
  · omega
theorem J_cuts (h : J A T M K hx r) (h42 : r 42 0 = 0) : Pv (fun r' => J A T M K hx r' ∧ r' 42 0 ≠ 0 ∧ r' 55 0 = 0) (G_cuts r) := by
  have fin : ∀ r : Rst, J A T M K hx r → r 42 0 = 0 → Pv (fun r' => J A T M K hx r' ∧ r' 42 0 ≠ 0 ∧ r' 55 0 = 0) (G_cuts_127 r) := fun r h h42 => by
    unfold G_cuts_127
    exact Pv.cag fun v r1 e => Pv.ret (J_fails h (by omega) v r1 e)
  have c80 : ∀ (k70 : Int → Rst → Option G2), (∀ l r, 0 ≤ l → J A T M K hx r → r 42 0 = 0 → Pv (fun r' => J A T M K hx r' ∧ r' 42 0 ≠ 0 ∧ r' 55 0 = 0) (k70 l r)) → ∀ (n : Nat) (l1 l2 : Int) (r : Rst), 0 ≤ l1 → l1 < r 52 0 → J A T M K hx r → r 42 0 = 0 → Pv (fun r' => J A T M K hx r' ∧ r' 42 0 ≠ 0 ∧ r' 55 0 = 0) (G_cuts_80 k70 n l1 l2 r) := by
    intro k70 hk n
    induction n with
    | zero => intro l1 l2 r _ _ _ _; rw [G_cuts_80]; exact Pv.no
    | succ n ih =>
      intro l1 l2 r h0 h1 hj h42
      rw [G_cuts_80]
      refine Pv.ite (fun _ => Pv.chk fun _ => hk _ _ (by omega) hj h42) fun _ => Pv.chk fun _ => Pv.ite (fun _ => Pv.chk fun _ => Pv.ite (fun _ => Pv.cag fun v r1 e => ?_) fun _ => Pv.chk fun _ => ih _ _ _ h0 h1 hj h42) fun _ => Pv.chk fun _ => ih _ _ _ h0 h1 hj h42
      obtain ⟨_, rfl, rfl⟩ := dec_inv e
      exact Pv.chk fun _ => ih _ _ _ h0 (by rw [gdec_n (by omega)]; exact h1) (hj.off h42 (Or.inr ⟨rfl, h0, h1⟩)) (by rw [gdec_n (by omega)]; exact h42)
  have c70 : ∀ (n : Nat) (l1 : Int) (r : Rst), 0 ≤ l1 → J A T M K hx r → r 42 0 = 0 → Pv (fun r' => J A T M K hx r' ∧ r' 42 0 ≠ 0 ∧ r' 55 0 = 0) (G_cuts_70 G_cuts_127 n l1 r) := by
    intro n
    induction n with
    | zero => intro l1 r _ _ _; rw [G_cuts_70]; exact Pv.no
    | succ n ih =>
      intro l1 r h0 hj h42
      rw [G_cuts_70]
      exact Pv.ite (fun _ => fin r hj h42) fun _ => c80 _ (fun l r a b c => ih l r a b c) _ _ _ _ h0 (by omega) hj h42
  have c12 : ∀ (k2 : Int → Rst → Option G2), (∀ l r, 0 ≤ l → J A T M K hx r → r 42 0 = 0 → Pv (fun r' => J A T M K hx r' ∧ r' 42 0 ≠ 0 ∧ r' 55 0 = 0) (k2 l r)) → ∀ (n : Nat) (l1 l2 : Int) (r : Rst), 0 ≤ l1 → l1 < r 51 0 → J A T M K hx r → r 42 0 = 0 → Pv (fun r' => J A T M K hx r' ∧ r' 42 0 ≠ 0 ∧ r' 55 0 = 0) (G_cuts_12 k2 n l1 l2 r) := by
    intro k2 hk n
    induction n with
    | zero => intro l1 l2 r _ _ _ _; rw [G_cuts_12]; exact Pv.no
    | succ n ih =>
      intro l1 l2 r h0 h1 hj h42
      rw [G_cuts_12]
      have nx := ih l1 (l2 + 1) r h0 h1 hj h42
      refine Pv.ite (fun _ => Pv.chk fun _ => hk _ _ (by omega) hj h42) fun _ => Pv.chk fun _ => Pv.ite (fun _ => Pv.chk fun _ => Pv.ite (fun _ => Pv.chk fun _ => Pv.ite (fun _ => Pv.cag fun v r1 e => ?_) fun _ => Pv.chk fun _ => nx) fun _ => Pv.chk fun _ => nx) fun _ => Pv.chk fun _ => nx
      obtain ⟨_, rfl, rfl⟩ := dec_inv e
      exact Pv.chk fun _ => ih _ _ _ h0 (by rw [gdec_n (by omega)]; exact h1) (hj.off h42 (Or.inl ⟨rfl, h0, h1⟩)) (by rw [gdec_n (by omega)]; exact h42)
  have c2 : ∀ (n : Nat) (l1 : Int) (r : Rst), 0 ≤ l1 → J A T M K hx r → r 42 0 = 0 → Pv (fun r' => J A T M K hx r' ∧ r' 42 0 ≠ 0 ∧ r' 55 0 = 0) (G_cuts_2 (G_cuts_70 G_cuts_127 fuel9) n l1 r) := by
    intro n
    induction n with
    | zero => intro l1 r _ _ _; rw [G_cuts_2]; exact Pv.no
    | succ n ih =>
      intro l1 r h0 hj h42
      rw [G_cuts_2]
      exact Pv.ite (fun _ => c70 _ _ _ (by omega) hj h42) fun _ => c12 _ (fun l r a b c => ih l r a b c) _ _ _ _ h0 (by omega) hj h42
  unfold G_cuts G_cuts_0
  exact c2 _ _ _ (by omega) h h42
/-- a place that is not one of a new child becomes over -/
theorem J.over {s : Int} {r1 : Rst} (h : J A T M K hx r) (e : ∀ j : Nat, j = 41 ∨ j = 42 ∨ j = 51 ∨ j = 52 ∨ j = 53 ∨ j = 55 ∨ j = 56 ∨ j = 58 ∨ j = 59 ∨ (72 ≤ j ∧ j ≤ 76) ∨ (2 ≤ j ∧ j ≤ 4) ∨ j = 47 ∨ j = 83 → r1 j = r j) (e60 : ∀ i, i ≠ s → r1 60 i = r 60 i) (hs : hx → Ch r → r 42 0 = 0 → ∃ i, i ≠ s ∧ Sc M r i) : J A T M K hx r1 := by
  refine h.gen (e 51 (by omega)) (e 52 (by omega)) (e 53 (by omega)) (fun j a => e j (by omega)) (fun a => by rw [e 42 (by omega)]; exact a) ?_ fun x y => ?_
  · rw [e 55 (by omega), e 59 (by omega), e 52 (by omega)]; exact h.mono59
  · rw [e 42 (by omega), e 41 (by omega)]
    refine ⟨?_, rfl⟩
    by_cases c : r 42 0 = 0
    · obtain ⟨i, i0, i1⟩ := hs x y c
      refine Or.inr ⟨i, ?_⟩
      unfold Sc at *
      rw [e 55 (by omega), e 56 (by omega), e60 i i0, e 59 (by omega), e 58 (by omega)]
      exact i1
    · exact Or.inl c
theorem untaken_inv {l1 v : Int} {r1 : Rst} (e : G_untaken l1 r = some (v, r1)) : r1 = r := by
  have go : ∀ (n : Nat) (l2 l3 : Int) (r r1 : Rst) (v : Int), G_untaken_9 n l1 l2 l3 r = some (v, r1) → r1 = r := by
    intro n
    induction n with
    | zero => intro l2 l3 r r1 v e; rw [G_untaken_9] at e; cases e
    | succ n ih =>
      intro l2 l3 r r1 v e
      rw [G_untaken_9] at e
      rcases ite_some e with ⟨_, e⟩ | ⟨_, e⟩
      · cases e; rfl
      · obtain ⟨_, e⟩ := chk_some e
        rcases ite_some e with ⟨_, e⟩ | ⟨_, e⟩
        · obtain ⟨_, e⟩ := chk_some e
          rcases ite_some e with ⟨_, e⟩ | ⟨_, e⟩
          · obtain ⟨_, e⟩ := chk_some e; exact ih _ _ _ _ _ e
          · obtain ⟨_, e⟩ := chk_some e; exact ih _ _ _ _ _ e
        · obtain ⟨_, e⟩ := chk_some e; exact ih _ _ _ _ _ e
  unfold G_untaken G_untaken_0 at e
  obtain ⟨_, e⟩ := chk_some e
  exact go _ _ _ _ _ _ e
/-- a timer is set for the last place -/
theorem J_setsTimer {w x : Int} (h : J A T M K hx r) (hxx : -100 ≤ x ∧ x ≤ 100) (h42 : r 42 0 = 0) (hw : r 55 0 = w + 1) (hs : hx → Ch r → ∃ i, i ≠ w ∧ Sc M r i) : Pv (fun r' => J A T M K hx r' ∧ r' 42 0 = 0 ∧ r' 55 0 = w + 1) (G_setsTimer w x r) := by
  unfold G_setsTimer G_setsTimer_0
  refine Pv.chk fun hw3 => Pv.st (Pv.chk fun _ => Pv.st (Pv.cag fun v r1 e => ?_))
  obtain ⟨_, rfl, rfl⟩ := dec_inv e
  have t0 := h.t0
  refine Pv.ret ⟨h.put (fun j a => by rw [ur_ne (by omega), ur_ne (by omega)]) ?_ ?_ ?_ (by omega) (fun e => by omega) (fun e => by omega) (fun e => by omega) (fun e => by omega) (fun _ => hxx) (by omega) (fun e => by omega) (fun i a b => ?_) (fun u c => Or.inr ?_) (fun _ _ => ?_), ?_, ?_⟩
  · simp (disch := omega) only [ur_n]; exact (Int.add_zero _).symm
  · simp (disch := omega) only [ur_n, ur_e]; rfl
  · simp (disch := omega) only [ur_n]; exact (Int.add_zero _).symm
  · rw [ur_n (by omega), ur_n (by omega)] at b
    rw [ur_n (by omega), ur_e (a := 52) rfl rfl, ur_n (a := 52) (by omega)]
    by_cases c : i = w
    · rw [ur_e rfl c]; omega
    · rw [ur_n (by omega)]
      have := h.mono59 i a b
      omega
  · have c2 : Ch r := by
      rcases c with c | c
      · exact c
      · omega
    obtain ⟨i, i0, i1⟩ := hs u c2
    refine ⟨i, ?_⟩
    unfold Sc at *
    simp (disch := omega) only [ur_n]
    exact i1
  · simp (disch := omega) only [ur_n]
  · rw [gdec_n (by omega)]; simp (disch := omega) only [ur_n]; exact h42
  · rw [gdec_n (by omega)]; simp (disch := omega) only [ur_n]; exact hw
end JD
