/-! the deeds of p35's law, on the reference's fields: take, tick, start -/
section DEE
variable {r r' z : Rst} {w c n k x y v N q a b W g9 : Int} {m : Mem}
theorem cR_take {w0 n0 : Int} (e22 : ∀ w, r' 22 w = r 22 w) (e24 : ∀ i, r' 24 i = r 24 i) (e23 : ∀ i, r' 23 i = if i = 80 * w0 + n0 then 2 else r 23 i) (k0 : 0 ≤ n0 ∧ n0 < 80) (k1 : n0 < r 22 w0) (k2 : r 23 (80 * w0 + n0) = 1) (k3 : r 24 (80 * w0 + n0) = q) : ∀ n : Nat, n ≤ 80 → cR r' q w n = cR r q w n - if w = w0 ∧ n0 < n then 1 else 0
  | 0, _ => by
    rw [if_f (by omega)]
    rfl
  | n + 1, h => by
    have ih := cR_take e22 e24 e23 k0 k1 k2 k3 n (by omega)
    rw [cR, cR, ih, e22, e24, e23]
    by_cases d : w = w0 ∧ n0 = n
    · have ei : 80 * w + (n : Int) = 80 * w0 + n0 := by omega
      rw [if_t (show 80 * w + (n : Int) = 80 * w0 + n0 from ei), if_f (show ¬ ((n : Int) < r 22 w ∧ (2 : Int) = 1 ∧ r 24 (80 * w + n) = q) by omega), if_f (show ¬ (w = w0 ∧ n0 < (n : Int)) by omega), if_t (show w = w0 ∧ n0 < ((n + 1 : Nat) : Int) by omega), if_t (show (n : Int) < r 22 w ∧ r 23 (80 * w + n) = 1 ∧ r 24 (80 * w + n) = q by rw [ei, d.1]; omega)]
      omega
    · have ei : ¬ 80 * w + (n : Int) = 80 * w0 + n0 := by omega
      rw [if_f ei]
      by_cases f : w = w0 ∧ n0 < (n : Int)
      · rw [if_t f, if_t (show w = w0 ∧ n0 < ((n + 1 : Nat) : Int) by omega)]
        omega
      · rw [if_f f, if_f (show ¬ (w = w0 ∧ n0 < ((n + 1 : Nat) : Int)) by omega)]
        omega
theorem rdS_take {w0 n0 : Int} (e22 : ∀ w, r' 22 w = r 22 w) (e24 : ∀ i, r' 24 i = r 24 i) (e23 : ∀ i, r' 23 i = if i = 80 * w0 + n0 then 2 else r 23 i) (k0 : 0 ≤ n0 ∧ n0 < 80) (k1 : n0 < r 22 w0) (k2 : r 23 (80 * w0 + n0) = 1) (k3 : r 24 (80 * w0 + n0) = q) (k4 : 0 ≤ w0) : ∀ n : Nat, rdS r' q n = rdS r q n - if w0 < n then 1 else 0
  | 0 => by
    rw [if_f (by omega)]
    rfl
  | n + 1 => by
    have ih := rdS_take e22 e24 e23 k0 k1 k2 k3 k4 n
    have cr := cR_take (w := (n : Int)) e22 e24 e23 k0 k1 k2 k3 80 (by omega)
    rw [rdS, rdS, ih, cr]
    by_cases d : (n : Int) = w0
    · rw [if_f (show ¬ w0 < (n : Int) by omega), if_t (show (n : Int) = w0 ∧ n0 < ((80 : Nat) : Int) by omega), if_t (show w0 < ((n + 1 : Nat) : Int) by omega)]
      omega
    · rw [if_f (show ¬ ((n : Int) = w0 ∧ n0 < ((80 : Nat) : Int)) by omega)]
      by_cases f : w0 < (n : Int)
      · rw [if_t f, if_t (show w0 < ((n + 1 : Nat) : Int) by omega)]
        omega
      · rw [if_f f, if_f (show ¬ w0 < ((n + 1 : Nat) : Int) by omega)]
        omega
theorem cR_fr {n : Nat} (e : ∀ j : Nat, 22 ≤ j → j ≤ 24 → r' j = r j) : cR r' q w n = cR r q w n := by
  induction n with
  | zero => rfl
  | succ n ih => rw [cR, cR, ih, e 22 (by omega) (by omega), e 23 (by omega) (by omega), e 24 (by omega) (by omega)]
theorem rdS_fr {n : Nat} (e : ∀ j : Nat, 22 ≤ j → j ≤ 24 → r' j = r j) : rdS r' q n = rdS r q n := by
  induction n with
  | zero => rfl
  | succ n ih => rw [rdS, rdS, ih, cR_fr e]
theorem o_take (h : RelC N r m) (hp : Px nob nob nob r) (k0 : 0 ≤ k) (k1 : k < 4) (q0 : 0 ≤ q) (q1 : q < 2) : (∃ v, G_take k q r = some (v, ur r 0 0 2)) ∨ (r 39 k = -1 ∧ ∀ v r', G_take k q r = some (v, r') → r' 0 0 = 0 ∧ Px nob nob nob r' ∧ r' 16 0 = r 16 0 ∧ (v = -1 ∧ r' 39 = r 39 ∨ 0 ≤ v ∧ hasV r' k = v ∧ rdS r' q (r 16 0).toNat = rdS r q (r 16 0).toNat - 1)) := by
  have f9 := fuel9_ge
  have g := h.2.2.rg
  have b10 := g.1
  unfold G_take G_take_0 G_take_19 G_take_53
  rw [g_isWorker, cag_e, if_t (show 0 ≤ k ∧ k ≤ 3 by omega), if_f (by decide), g_isQueue, cag_e, if_t (show 0 ≤ q ∧ q ≤ 1 by omega), if_f (show ¬ (1 : Int) = 0 by decide), if_f (show ¬ (1 : Int) = 0 by decide), chk_t (by omega), chk_t (by omega)]
  by_cases e38 : r 38 k = 0
  · rw [if_t e38, g_fineE (by decide), cag_e, if_t rfl]
    exact Or.inl ⟨_, rfl⟩
  · rw [if_f e38]
    by_cases e39 : r 39 k = -1
    · refine Or.inr ⟨e39, fun v r' e => ?_⟩
      rw [if_t e39, g_fine0, cag_e, if_f (show ¬ (1 : Int) = 0 by decide)] at e
      have e := (chk_some (chk_some e).2).2
      have nothing : ∀ v r', G_take_85 k q (-1) (ur r 0 0 0) = some (v, r') → r' 0 0 = 0 ∧ Px nob nob nob r' ∧ r' 16 0 = r 16 0 ∧ (v = -1 ∧ r' 39 = r 39 ∨ 0 ≤ v ∧ hasV r' k = v ∧ rdS r' q (r 16 0).toNat = rdS r q (r 16 0).toNat - 1) := fun v r' e => by
        unfold G_take_85 at e
        rw [if_t rfl] at e
        cases e
        exact ⟨ur_e rfl rfl, hp.f0, by rw [ur_n (by omega)], Or.inl ⟨rfl, ur_ne (by omega)⟩⟩
      rcases ite_some e with ⟨_, e⟩ | ⟨_, e⟩
      · exact nothing v r' e
      · have hz := h.z0
        have e16 : ur r 0 0 0 16 0 = r 16 0 := ur_n (by omega)
        obtain ⟨b', p', y1, y2, y3⟩ := next_all (q := q) hz.1 hz.2.2.rg hz.2.2.2.2.2.1 (by omega) (fun w a b => (hz.2.2.lt a b).1.2) (r 16 0).toNat fuel9 fuel9 0 (-1) 0 (by rw [e16]; omega) (by omega) (by omega) (by omega) (Or.inl ⟨rfl, rfl⟩)
        rw [show 80 * (0 : Int) = 0 from rfl] at y3
        unfold G_next G_next_0 at e
        rw [y3, cag_e] at e
        rcases y1 with ⟨rfl, rfl⟩ | ⟨w, n, d1, d2, d3, d4, d5, rfl, rfl, d6, d7⟩
        · exact nothing v r' e
        · rw [e16] at d2
          rw [ur_ne (show (22 : Nat) ≠ 0 by decide)] at d4
          rw [ur_ne (show (23 : Nat) ≠ 0 by decide)] at d6
          rw [ur_ne (show (24 : Nat) ≠ 0 by decide)] at d7
          have s1 := (g.2.2 w d1 d2).1
          have s2 := (g.2.2 w d1 d2).2.1
          have bs := hp.busy d1 d2 d3 d5 d4 (by omega)
          unfold G_take_85 at e
          rw [if_f (show ¬ 80 * w + n = -1 by omega)] at e
          have e := stg_some (chk_some (chk_some (chk_some e).2).2).2
          rw [show (80 * w + n) / 80 = w by omega] at e
          have e := stg_some (chk_some (chk_some (chk_some (chk_some (chk_some (chk_some (chk_some e).2).2).2).2).2).2).2
          have e := stg_some (chk_some e).2
          have e := stg_some (chk_some (chk_some (chk_some e).2).2).2
          have e := stg_some (chk_some (chk_some e).2).2
          have e := stg_some (chk_some e).2
          obtain ⟨v1, r1, e1, e2⟩ := cag_some e
          cases e2
          clear e
          have f : ∀ (j : Nat), j ≠ 0 → j ≠ 23 → j ≠ 25 → j ≠ 27 → j ≠ 36 → j ≠ 37 → j ≠ 39 → ∀ (a1 a2 a3 a4 a5 a6 a7 a8 : Int), ur (ur (ur (ur (ur (ur (ur r 0 0 0) 36 q a1) 37 a2 a3) 23 (80 * w + n) 2) 25 (80 * w + n) a4) 27 (80 * w + n) a5) 39 k (80 * w + n) j = r j := fun j b0 b1 b2 b3 b4 b5 b6 a1 a2 a3 a4 a5 a6 a7 a8 => by
            rw [ur_ne b6, ur_ne b3, ur_ne b2, ur_ne b1, ur_ne b5, ur_ne b4, ur_ne b0]
          have f23 : ∀ (a1 a2 a3 a4 a5 i : Int), ur (ur (ur (ur (ur (ur (ur r 0 0 0) 36 q a1) 37 a2 a3) 23 (80 * w + n) 2) 25 (80 * w + n) a4) 27 (80 * w + n) a5) 39 k (80 * w + n) 23 i = if i = 80 * w + n then 2 else r 23 i := fun a1 a2 a3 a4 a5 i => by
            rw [ur_n (by omega), ur_n (by omega), ur_n (by omega)]
            by_cases ei : i = 80 * w + n
            · rw [if_t ei, ur_e rfl ei]
            · rw [if_f ei, ur_n (by omega), ur_n (by omega), ur_n (by omega), ur_n (by omega)]
          have f39 : ∀ (a1 a2 a3 a4 a5 i : Int), ur (ur (ur (ur (ur (ur (ur r 0 0 0) 36 q a1) 37 a2 a3) 23 (80 * w + n) 2) 25 (80 * w + n) a4) 27 (80 * w + n) a5) 39 k (80 * w + n) 39 i = if i = k then 80 * w + n else r 39 i := fun a1 a2 a3 a4 a5 i => by
            by_cases ei : i = k
            · rw [if_t ei, ur_e rfl ei]
            · rw [if_f ei, ur_n (by omega), ur_n (by omega), ur_n (by omega), ur_n (by omega), ur_n (by omega), ur_n (by omega), ur_n (by omega)]
          have f0 : ∀ (a1 a2 a3 a4 a5 : Int), ur (ur (ur (ur (ur (ur (ur r 0 0 0) 36 q a1) 37 a2 a3) 23 (80 * w + n) 2) 25 (80 * w + n) a4) 27 (80 * w + n) a5) 39 k (80 * w + n) 0 0 = 0 := fun a1 a2 a3 a4 a5 => by
            rw [ur_n (by omega), ur_n (by omega), ur_n (by omega), ur_n (by omega), ur_n (by omega), ur_n (by omega)]
            exact ur_e rfl rfl
          unfold G_told G_told_0 at e1
          rw [show (80 * w + n) / 80 = w by omega, show (80 * w + n) % 80 = n by omega] at e1
          have e1 := (chk_some (chk_some (chk_some (chk_some (chk_some (chk_some (chk_some e1).2).2).2).2).2).2).2
          have key : ∀ z : Rst, (∀ j : Nat, j ≠ 0 → j ≠ 23 → j ≠ 25 → j ≠ 27 → j ≠ 36 → j ≠ 37 → j ≠ 39 → z j = r j) → (∀ i, z 23 i = if i = 80 * w + n then 2 else r 23 i) → (∀ i, z 39 i = if i = k then 80 * w + n else r 39 i) → z 0 0 = 0 → ((1000 * w + 100 * z 12 w + n, z) : G2) = (v, r') → r' 0 0 = 0 ∧ Px nob nob nob r' ∧ r' 16 0 = r 16 0 ∧ (v = -1 ∧ r' 39 = r 39 ∨ 0 ≤ v ∧ hasV r' k = v ∧ rdS r' q (r 16 0).toNat = rdS r q (r 16 0).toNat - 1) := fun z z1 z2 z3 z4 ez => by
            cases ez
            have z12 : r' 12 w = r 12 w := by rw [z1 12 (by omega) (by omega) (by omega) (by omega) (by omega) (by omega) (by omega)]
            refine ⟨z4, hp.act (fun j hj => z1 j (by omega) (by omega) (by omega) (by omega) (by omega) (by omega) (by omega)) (fun w' n' a1 a2 a3 a4 a5 a6 a7 => ?_) (fun p t p0 pt t1 et => ?_), by rw [z1 16 (by omega) (by omega) (by omega) (by omega) (by omega) (by omega) (by omega)], Or.inr ⟨by omega, ?_, ?_⟩⟩
            · rw [z2]
              by_cases ei : 80 * w' + n' = 80 * w + n
              · have ew : w' = w := by omega
                rw [ew] at a6
                exact absurd bs a6
              · rw [if_f ei]; exact a7
            · have free : ∀ s, 0 ≤ s → s < 4 → r 39 s ≠ 80 * w + n := fun s s0 s1 es => by
                rcases h.hand s0 s1 with e | ⟨w', n', c1, c2, c3, c4, c5, c6, c7⟩
                · omega
                · rw [← c6, es] at c7
                  omega
              rw [z3, z3] at et
              rw [z3]
              by_cases ep : p = k
              · rw [if_t ep, if_f (show ¬ t = k by omega)] at et
                exact absurd et.symm (free t (by omega) t1)
              · rw [if_f ep] at et ⊢
                by_cases eq : t = k
                · rw [if_t eq] at et
                  exact absurd et (free p p0 (by omega))
                · rw [if_f eq] at et
                  exact hp.2.2.2.2 p t p0 pt t1 et
            · unfold hasV
              rw [z3, if_t rfl, if_f (by omega), show (80 * w + n) / 80 = w by omega, show (80 * w + n) % 80 = n by omega]
            · rw [rdS_take (w0 := w) (n0 := n) (fun i => by rw [z1 22 (by omega) (by omega) (by omega) (by omega) (by omega) (by omega) (by omega)]) (fun i => by rw [z1 24 (by omega) (by omega) (by omega) (by omega) (by omega) (by omega) (by omega)]) z2 ⟨d3, d5⟩ d4 d6 d7 d1, if_t (by omega)]
          injection e1 with e1
          refine key _ (fun j b0 b1 b2 b3 b4 b5 b6 => ?_) (fun i => ?_) (fun i => ?_) ?_ e1
          · exact f j b0 b1 b2 b3 b4 b5 b6 _ _ _ _ _ 0 0 0
          · exact f23 _ _ _ _ _ i
          · exact f39 _ _ _ _ _ i
          · exact f0 _ _ _ _ _
    · rw [if_f e39, g_fineE (by decide), cag_e, if_t rfl]
      exact Or.inl ⟨_, rfl⟩
/-- between two things that a tick does -/
def Tk (c g : Int) (r : Rst) : Prop := Px nob nob nob r ∧ r 1 0 = c ∧ r 0 0 = 0 ∧ r 16 0 = g
theorem tk_165 : ∀ (t : Nat) (l : Int) (r : Rst), Tk c g9 r → Pv (Tk c g9) (G_ticksOnce_165 t l r) := by
  intro t
  induction t with
  | zero => intro l r _; exact Pv.no
  | succ t ih =>
    intro l r h
    have nx : ∀ r, Tk c g9 r → Pv (Tk c g9) (G_ticksOnce_165 t (l + 1) r) := fun r h => ih _ r h
    have same : Pv (Tk c g9) (G_ticksOnce_220 (G_ticksOnce_165 t) l 0 r) := by
      unfold G_ticksOnce_220
      rw [if_t rfl]
      refine Pv.chk fun _ => Pv.chk fun _ => Pv.st (Pv.chk fun _ => nx _ ⟨h.1.act (fun j hj => ur_ne (by omega)) (fun w n _ _ _ _ _ _ e => ?_) (h.1.2.2.2.2.fr (ur_ne (by omega))), by rw [ur_n (by omega)]; exact h.2.1, by rw [ur_n (by omega)]; exact h.2.2.1, by rw [ur_n (by omega)]; exact h.2.2.2⟩)
      by_cases ei : 80 * w + n = l
      · rw [ur_e rfl ei, ← ei]; exact e
      · rw [ur_n (Or.inr ei)]; exact e
    rw [G_ticksOnce_165]
    refine Pv.chk fun _ => Pv.ite (fun _ => Pv.ret h) fun c1 => Pv.chk fun l0 => Pv.chk fun _ => Pv.chk fun b10 => Pv.ite (fun _ => same) fun c2 => Pv.chk fun _ => Pv.ite (fun c3 => Pv.chk fun _ => Pv.ite (fun _ => ?_) fun _ => same) fun _ => same
    unfold G_ticksOnce_220
    rw [if_f (by decide)]
    refine Pv.chk fun _ => Pv.st (Pv.chk fun _ => nx _ ⟨h.1.act (fun j hj => ur_ne (by omega)) (fun w n a0 a1 a2 a3 a4 a5 e => ?_) (h.1.2.2.2.2.fr (ur_ne (by omega))), by rw [ur_n (by omega)]; exact h.2.1, by rw [ur_n (by omega)]; exact h.2.2.1, by rw [ur_n (by omega)]; exact h.2.2.2⟩)
    by_cases ei : 80 * w + n = l
    · rw [ei, c3] at e; omega
    · rw [ur_n (Or.inr ei)]; exact e
theorem tk_102 {k165 : Int → Rst → Option G2} (hk : ∀ r, Tk c g9 r → Pv (Tk c g9) (k165 0 r)) : ∀ (t : Nat) (l : Int) (r : Rst), Tk c g9 r → Pv (Tk c g9) (G_ticksOnce_102 k165 t l r) := by
  intro t
  induction t with
  | zero => intro l r _; exact Pv.no
  | succ t ih =>
    intro l r h
    rw [G_ticksOnce_102]
    refine Pv.chk fun _ => Pv.ite (fun _ => hk r h) fun c1 => Pv.chk fun l0 => Pv.chk fun _ => Pv.chk fun b10 => Pv.ite (fun _ => Pv.chk fun _ => ih _ _ h) fun c2 => Pv.chk fun _ => Pv.ite (fun c3 => Pv.chk fun _ => Pv.ite (fun _ => Pv.cag fun v r1 e1 => Pv.chk fun _ => ih _ _ ?_) fun _ => Pv.chk fun _ => ih _ _ h) fun _ => Pv.chk fun _ => ih _ _ h
    have el : 80 * (l / 80) + l % 80 = l := by omega
    have w1 : l / 80 < r 16 0 := by omega
    have bs := h.1.busy (w := l / 80) (n := l % 80) (by omega) w1 (by omega) (by omega) (by omega) (by rw [el]; omega)
    have pf := p_failsTry (w := l / 80) (n := l % 80) h.1 (by omega) w1 (by omega) (by omega) (by omega) bs v r1
    rw [el] at pf
    obtain ⟨p1, p2, -⟩ := pf e1
    exact ⟨p1, by rw [p2 1 (by omega)]; exact h.2.1, by rw [p2 0 (by omega)]; exact h.2.2.1, by rw [p2 16 (by omega)]; exact h.2.2.2⟩
theorem tk_32 {k102 : Int → Rst → Option G2} (hk : ∀ r, Tk c g9 r → Pv (Tk c g9) (k102 0 r)) : ∀ (t : Nat) (l : Int) (r : Rst), Tk c g9 r → Pv (Tk c g9) (G_ticksOnce_32 k102 t l r) := by
  intro t
  induction t with
  | zero => intro l r _; exact Pv.no
  | succ t ih =>
    intro l r h
    rw [G_ticksOnce_32]
    refine Pv.chk fun _ => Pv.ite (fun _ => hk r h) fun c1 => Pv.chk fun l0 => Pv.chk fun _ => Pv.chk fun b10 => Pv.ite (fun _ => Pv.chk fun _ => ih _ _ h) fun c2 => Pv.chk fun _ => Pv.ite (fun c3 => Pv.chk fun _ => Pv.ste fun y ey => Pv.chk fun _ => Pv.chk fun _ => ?_) fun _ => Pv.chk fun _ => ih _ _ h
    have w1 : l / 80 < y 16 0 := by rw [ey, ur_n (by omega)]; omega
    have py : Px nob nob nob y := h.1.fr fun j hj => by rw [ey, ur_ne (by omega)]
    have ct := ((py.pw (w := l / 80) (by omega) w1).2.2.2.1 (fun a => a)).2.2.1
    obtain ⟨v, r2, s1, s2, s3⟩ := py.happens (c := l / 80) (k := 3) (x := l % 80) (y := 0) (by omega) w1 (fun _ _ => ⟨by omega, fun h => by omega, fun h => by omega, fun _ => Int.lt_of_lt_of_le (show l % 80 < y 30 (l / 80) by rw [ey, ur_n (by omega)]; omega) ct, fun h => by omega, fun h => by omega, fun h => by omega⟩) (by decide)
    rw [s1, cag_e]
    refine Pv.chk fun _ => ih _ _ ⟨s3, ?_, ?_, ?_⟩
    · rcases s2 with ⟨rfl, -⟩ | ⟨rfl, -⟩
      · rw [ey, ur_n (by omega)]; exact h.2.1
      · rw [wr_n (by omega), ey, ur_n (by omega)]; exact h.2.1
    · rcases s2 with ⟨rfl, -⟩ | ⟨rfl, -⟩
      · rw [ey, ur_n (by omega)]; exact h.2.2.1
      · rw [wr_n (by omega), ey, ur_n (by omega)]; exact h.2.2.1
    · rcases s2 with ⟨rfl, -⟩ | ⟨rfl, -⟩
      · rw [ey, ur_n (by omega)]; exact h.2.2.2
      · rw [wr_n (by omega), ey, ur_n (by omega)]; exact h.2.2.2
theorem tk_12 {k32 : Int → Rst → Option G2} (hk : ∀ r, Tk c g9 r → Pv (Tk c g9) (k32 0 r)) : ∀ (t : Nat) (l : Int) (r : Rst), Tk c g9 r → Pv (Tk c g9) (G_ticksOnce_12 k32 t l r) := by
  intro t
  induction t with
  | zero => intro l r _; exact Pv.no
  | succ t ih =>
    intro l r h
    rw [G_ticksOnce_12]
    exact Pv.ite (fun _ => hk r h) fun c1 => Pv.chk fun _ => Pv.st (Pv.chk fun _ => ih _ _ ⟨h.1.fr fun j hj => ur_ne (by omega), by rw [ur_n (by omega)]; exact h.2.1, by rw [ur_n (by omega)]; exact h.2.2.1, by rw [ur_n (by omega)]; exact h.2.2.2⟩)
theorem tk_once (h : Tk c g9 r) : Pv (Tk (c + 1) g9) (G_ticksOnce r) := by
  unfold G_ticksOnce G_ticksOnce_0
  refine Pv.chk fun _ => Pv.st (tk_12 (fun r hr => tk_32 (fun r hr => tk_102 (fun r hr => tk_165 _ _ _ hr) _ _ _ hr) _ _ _ hr) _ _ _ ⟨h.1.fr fun j hj => ur_ne (by omega), ?_, by rw [ur_n (by omega)]; exact h.2.2.1, by rw [ur_n (by omega)]; exact h.2.2.2⟩)
  rw [ur_e rfl rfl, h.2.1]
theorem tk_all {l : Int} : ∀ (t : Nat) (n c : Int) (r : Rst), 0 ≤ n → n ≤ l → Tk (c + n) g9 r → ∀ v r', G_tick_26 t l n r = some (v, r') → v = c + l ∧ Tk (c + l) g9 r' := by
  intro t
  induction t with
  | zero => intro n c r _ _ _ v r' e; cases e
  | succ t ih =>
    intro n c r n0 n1 h v r' e
    rw [G_tick_26] at e
    rcases ite_some e with ⟨c1, e⟩ | ⟨c1, e⟩
    · cases e
      obtain rfl : n = l := by omega
      exact ⟨h.2.1, h⟩
    · obtain ⟨v1, r1, e1, e2⟩ := cag_some e
      have k := tk_once h v1 r1 e1
      rw [Int.add_assoc] at k
      exact ih (n + 1) c r1 (by omega) (by omega) k v r' (chk_some e2).2
theorem o_tick {l : Int} (hp : Px nob nob nob r) (hl : 1 ≤ l ∧ l ≤ 50) (e : G_tick l r = some (v, r')) : r' 0 0 = 0 ∧ Px nob nob nob r' ∧ v = r 1 0 + l ∧ r' 1 0 = r 1 0 + l ∧ r' 16 0 = r 16 0 := by
  unfold G_tick G_tick_0 G_tick_16 at e
  rw [g_isIn, cag_e, if_t hl, if_f (by decide), g_fine0, cag_e, if_f (by decide)] at e
  obtain ⟨a, b, d, f⟩ := tk_all (g9 := r 16 0) fuel9 0 (r 1 0) (ur r 0 0 0) (Int.le_refl _) (by omega) ⟨hp.f0, by rw [ur_n (by omega)]; omega, ur_e rfl rfl, ur_n (by omega)⟩ v r' e
  exact ⟨f.1, b, a, d, f.2⟩
theorem o_start (h : RelC N r m) (hp : Px nob nob nob r) (ha : 0 ≤ a ∧ a ≤ 2) (hb : 0 ≤ b ∧ b ≤ 2) (hv : -99 ≤ v ∧ v ≤ 99) (h10 : r 16 0 < 10) : ∃ r', G_start a b v r = some (r 16 0, r') ∧ r' 0 0 = 0 ∧ Px nob nob nob r' ∧ r' 16 0 = r 16 0 + 1 ∧ r' 12 (r 16 0) = 1 ∧ r' 17 (9 * r 16 0) = 20 ∧ r' 18 (9 * r 16 0) = 1 ∧ r' 19 (720 * r 16 0) = 0 ∧ r' 9 (r 16 0) = -1 := by
  have b10 := hp.1
  have e12 := hp.2.2.1 (r 16 0) (Int.le_refl _) h10
  have e18 := hp.2.2.2.1 (r 16 0) 1 (by omega) h10 (by omega) (by omega)
  rw [show 9 * r 16 0 + 1 - 1 = 9 * r 16 0 by omega] at e18
  have z : ∀ (j : Nat) i, j ≠ 0 → ur r 0 0 0 j i = r j i := fun j i hj => ur_n (Or.inl hj)
  obtain ⟨r', k1, k2⟩ := g_makesFlow (r := ur r 0 0 0) (a := a) (b := b) (v := v) (pa := -1) (nu := 0) (W := r 16 0) (z 16 0 (by omega)).symm b10.1 h10 (by rw [z 12 _ (by omega)]; exact e12) (by rw [z 18 _ (by omega)]; exact e18) (Or.inl rfl)
  unfold G_start G_start_0 G_start_21 G_start_58
  rw [g_isType, cag_e, if_t ha, if_f (by decide), g_isIn, cag_e, if_t hb, if_f (show ¬ (1 : Int) = 0 by decide), if_f (show ¬ (1 : Int) = 0 by decide), g_isValue, cag_e, if_t hv, if_f (show ¬ (1 : Int) = 0 by decide), if_f (show ¬ r 16 0 = 10 by omega), g_fine0, cag_e, if_f (show ¬ (1 : Int) = 0 by decide), k1, cag_e]
  have ps := (hp.f0 (v := 0)).start (W := r 16 0) (z 16 0 (by omega)).symm h10 k2 ⟨by omega, by omega⟩
  obtain ⟨n1, n2, n3, n4, n5, n6, n7, n8⟩ := k2
  exact ⟨r', rfl, by rw [n8 0 0 (by omega)]; exact ur_e rfl rfl, ps, n1, n3, n4, n5, n7.1, n2.2.2.1⟩
end DEE
