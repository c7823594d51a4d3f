/-! what a play comes back with, for p35 -/
section VPL
variable {r r' z A : Rst} {B E w ver v N : Int} {m : Mem}
/-- after an event it waits for something, or it doesn't run on -/
def W55 (r : Rst) : Prop := r 42 0 = 0 → r 55 0 ≠ 0
theorem p_goes : ∀ (n : Nat) (r : Rst), Pv W55 (G_goesOn_0 n r) := by
  intro n
  induction n with
  | zero => intro r; exact Pv.no
  | succ n ih =>
    intro r
    rw [G_goesOn_0]
    have c36 : ∀ r, Pv W55 (G_goesOn_36 (G_goesOn_0 n) r) := fun r => by
      unfold G_goesOn_36 G_goesOn_106 G_goesOn_126
      refine Pv.chk fun _ => Pv.ite (fun _ => Pv.cag fun v r1 _ => ih r1) fun _ => Pv.ite (fun _ => Pv.cag fun v r1 _ => ih r1) fun _ => Pv.chk fun _ => Pv.st (Pv.ite (fun _ => Pv.chk fun _ => Pv.st ?_) fun _ => Pv.chk fun _ => Pv.st ?_)
      · exact Pv.ite (fun _ => Pv.chk fun _ => Pv.st (Pv.cag fun v r1 _ => ih r1)) fun _ => Pv.chk fun _ => Pv.st (Pv.cag fun v r1 _ => ih r1)
      · exact Pv.ite (fun _ => Pv.chk fun _ => Pv.st (Pv.cag fun v r1 _ => ih r1)) fun _ => Pv.chk fun _ => Pv.st (Pv.cag fun v r1 _ => ih r1)
    refine Pv.ite (fun c42 => Pv.ite (fun c55 => Pv.ite (fun _ => c36 r) fun _ => Pv.ite (fun _ => Pv.cag fun v r1 _ => ih r1) fun _ => c36 r) fun c55 => Pv.ret fun _ => c55) fun c42 => Pv.ret fun h => absurd h c42
theorem p_takes117 : Pv W55 (G_takes_117 r) := by
  have c142 : ∀ r, Pv W55 (G_takes_142 r) := fun r => by
    unfold G_takes_142 G_goesOn
    exact Pv.cag fun v r1 e => Pv.ret (p_goes _ _ v r1 e)
  unfold G_takes_117
  exact Pv.ite (fun _ => Pv.ite (fun _ => c142 r) fun _ => Pv.cag fun v r1 _ => Pv.ite (fun _ => c142 r1) fun _ => Pv.cag fun v r2 _ => c142 r2) fun _ => c142 r
theorem p_takes {a b c : Int} : Pv W55 (G_takes a b c r) := by
  unfold G_takes G_takes_0
  refine Pv.st ?_
  generalize ur r 44 0 0 = y
  have c103 : Pv W55 (G_takes_103 a b c y) := by
    unfold G_takes_103
    exact Pv.ite (fun _ => Pv.cag fun v r1 _ => p_takes117) fun _ => p_takes117
  have c88 : Pv W55 (G_takes_88 a b c y) := by
    unfold G_takes_88
    exact Pv.ite (fun _ => Pv.cag fun v r1 _ => p_takes117) fun _ => c103
  refine Pv.ite (fun _ => Pv.st p_takes117) fun _ => Pv.ite (fun _ => Pv.cag fun v r1 _ => p_takes117) fun _ => Pv.ite (fun _ => Pv.st (Pv.ite (fun _ => Pv.ite (fun _ => p_takes117) fun _ => Pv.ite (fun _ => Pv.cag fun v r1 _ => p_takes117) fun _ => p_takes117) fun _ => p_takes117)) fun _ => Pv.ite (fun _ => Pv.ite (fun _ => c88) fun _ => Pv.ite (fun _ => c88) fun _ => c103) fun _ => c103
theorem p_takesAll7 {hi : Int} : ∀ (n : Nat) (i : Int) (r : Rst), W55 r ∨ (i < hi ∧ r 19 (B + hi - 1) < 7) → Pv W55 (G_takesAll_7 n (B + hi) (B + i) r) := by
  intro n
  induction n with
  | zero => intro i r _; exact Pv.no
  | succ n ih =>
    intro i r h
    rw [G_takesAll_7]
    refine Pv.ite (fun c => Pv.ret (h.resolve_right fun hh => by omega)) fun c => Pv.chk fun _ => Pv.ite (fun c7 => Pv.chk fun _ => ?_) fun c7 => Pv.chk fun _ => Pv.chk fun _ => Pv.chk fun _ => Pv.cag fun v r2 e2 => Pv.chk fun _ => ?_
    · rw [Int.add_assoc]
      refine ih (i + 1) r (h.imp_right fun hh => ⟨?_, hh.2⟩)
      by_cases d : i + 1 < hi
      · exact d
      · have e : B + hi - 1 = B + i := by omega
        rw [e] at hh
        omega
    · rw [Int.add_assoc]
      exact ih (i + 1) r2 (Or.inl (p_takes v r2 e2))
theorem end4_inv {H : Int} : ∀ (n : Nat) (i : Int), G_endOf_4 n H i r = some (v, r') → r' = r ∧ i ≤ v ∧ ∀ j, i ≤ j → j < v → 7 < r 19 j := by
  intro n
  induction n with
  | zero => intro i e; cases e
  | succ n ih =>
    intro i e
    rw [G_endOf_4] at e
    rcases ite_some e with ⟨_, e⟩ | ⟨_, e⟩
    · cases e; exact ⟨rfl, Int.le_refl _, fun j a b => by omega⟩
    rcases ite_some (chk_some e).2 with ⟨_, e⟩ | ⟨c, e⟩
    · cases e; exact ⟨rfl, Int.le_refl _, fun j a b => by omega⟩
    · obtain ⟨a, b, d⟩ := ih (i + 1) (chk_some e).2
      refine ⟨a, by omega, fun j j0 j1 => ?_⟩
      by_cases k : j = i
      · rw [k]; omega
      · exact d j (by omega) j1
theorem end_inv {H i : Int} (e : G_endOf i H r = some (v, r')) : r' = r ∧ i + 1 ≤ v ∧ ∀ j, i + 1 ≤ j → j < v → 7 < r 19 j := by
  unfold G_endOf G_endOf_0 at e
  exact end4_inv _ _ (chk_some e).2
/-- what was told last ends with a decision -/
theorem p58_last {H : Int} : ∀ (n : Nat) (l5 l6 : Int) (r : Rst), G_plays_58 n H l5 l6 r = some (v, r') → v ≠ -1 → v = l5 ∨ 7 ≤ r 19 (v - 1) := by
  intro n
  induction n with
  | zero => intro l5 l6 r e; cases e
  | succ n ih =>
    intro l5 l6 r e hv
    rw [G_plays_58] at e
    rcases ite_some e with ⟨_, e⟩ | ⟨_, e⟩
    · cases e; exact Or.inl rfl
    rcases ite_some (chk_some e).2 with ⟨c7, e⟩ | ⟨_, e⟩
    · have e := stg_some (chk_some e).2
      obtain ⟨v1, r1, e1, e⟩ := cag_some e
      obtain ⟨rfl, g1, g2⟩ := end_inv e1
      have e := stg_some e
      obtain ⟨v2, r2, e2, e⟩ := cag_some e
      obtain ⟨v3, r3, e3, e4⟩ := cag_some e
      clear e
      obtain ⟨rfl, -⟩ := told_inv e3
      unfold G_takesAll G_takesAll_0 at e2
      have e2 := stg_some e2
      have m2 := (mg_takesAll7 _ _ _ _ v2 _ e2).2
      have f : ∀ j : Nat, j = 19 → r3 j = r j := fun j hj => by rw [m2 j (by omega), ur_ne (by omega), ur_ne (by omega), ur_ne (by omega)]
      have f79 : r3 79 0 = v1 := by rw [m2 79 (by omega), ur_n (by omega), ur_e rfl rfl]
      rcases ite_some e4 with ⟨_, e⟩ | ⟨_, e⟩
      · cases e; exact absurd rfl hv
      rcases ih _ _ _ (chk_some e).2 hv with h | h
      · rw [f79] at h
        refine Or.inr ?_
        rw [h]
        by_cases k : v1 - 1 = l6
        · rw [k, c7]; decide
        · have := g2 (v1 - 1) (by omega) (by omega)
          rw [ur_ne (by omega)] at this
          omega
      · rw [f 19 rfl] at h
        exact Or.inr h
    · exact ih _ _ _ (chk_some e).2 hv
theorem VB.z76 (h : VB r) : VB (ur r 76 0 0) := by
  obtain ⟨⟨a1, a2, a3, a4, a5, a6, a7⟩, hw⟩ := h
  refine ⟨?_, hw.fr fun j hj => ur_ne (by omega)⟩
  unfold VB0
  simp (disch := omega) only [ur_ne, ur_n]
  refine ⟨a1, a2, a3, a4, a5, fun k k0 k1 => ?_, a7⟩
  rw [ur_e rfl rfl] at k1
  omega
theorem VB.set (h : VB r) {j : Nat} {i x : Int} (hj : 77 ≤ j) : VB (ur r j i x) := ⟨h.1.set (by omega), h.2.fr fun k hk => ur_ne (by omega)⟩
theorem v_plays58 : ∀ (n : Nat) (l5 l6 : Int) (r : Rst), VB r → B ≤ l5 → B ≤ l6 → HV z B E → (∀ j : Nat, 19 ≤ j → j ≤ 21 → r j = z j) → Pv (fun r' => VB r' ∧ ∀ j : Nat, 19 ≤ j → j ≤ 21 → r' j = z j) (G_plays_58 n (B + E) l5 l6 r) := by
  intro n
  induction n with
  | zero => intro l5 l6 r _ _ _ _ _; exact Pv.no
  | succ n ih =>
    intro l5 l6 r h h5 h6 hv er
    rw [G_plays_58]
    refine Pv.ite (fun _ => Pv.ret ⟨h, er⟩) fun c => Pv.chk fun _ => Pv.ite (fun _ => Pv.chk fun _ => Pv.ste fun y ey => Pv.cag fun v1 r1 e1 => Pv.ste fun y2 ey2 => Pv.cag fun v2 r2 e2 => Pv.cag fun v3 r3 e3 => ?_) fun _ => Pv.chk fun _ => ih _ _ _ h h5 (by omega) hv er
    obtain ⟨rfl, g1, -⟩ := end_inv e1
    obtain ⟨rfl, -⟩ := told_inv e3
    unfold G_takesAll G_takesAll_0 at e2
    have e2 := stg_some e2
    have hy : VB (ur y2 76 0 0) := by
      rw [ey2, ey]
      exact ((h.set (by omega)).set (by omega)).z76
    have hr : ∀ j : Nat, 19 ≤ j → j ≤ 21 → ur y2 76 0 0 j = z j := fun j a b => by rw [ur_ne (by omega), ey2, ur_ne (by omega), ey, ur_ne (by omega)]; exact er j a b
    have k := v_takesAll7 (B := B) (hi := l6 - B) fuel9 (l5 - B) (ur y2 76 0 0) z hy (by omega) (fun i i0 i1 => hv i i0 (by omega)) hr
    rw [show B + (l6 - B) = l6 by omega, show B + (l5 - B) = l5 by omega] at k
    have m2 := (mg_takesAll7 _ _ _ _ v2 r3 e2).2
    refine Pv.ite (fun _ => Pv.ret ⟨k v2 r3 e2, fun j a b => by rw [m2 j (by omega)]; exact hr j a b⟩) fun _ => Pv.chk fun _ => ih _ _ _ (k v2 r3 e2) ?_ (by omega) hv fun j a b => by rw [m2 j (by omega)]; exact hr j a b
    rw [m2 79 (by omega), ur_n (by omega), ey2, ur_e rfl rfl]
    omega
/-- the ghost's fields of a play are fresh -/
def Fz0 (r : Rst) : Prop := ∀ j : Nat, 40 ≤ j → r j = fun _ => 0
/-- what a decision comes to -/
def Dp (w : Int) (A r2 : Rst) : Prop := (∀ j : Nat, j < 40 → r2 j = A j) ∧ (0 ≤ r2 76 0 ∧ r2 76 0 ≤ 5200) ∧ VB0 r2 ∧ (r2 42 0 = 0 → r2 40 0 < 12) ∧ (∀ k, 0 ≤ k → k < r2 76 0 → Kd (A 22 w) (A 30 w) (r2 72) (r2 73) (r2 76 0) (r2 42 0) (A 12 w) k) ∧ (r2 42 0 = 2 → OV r2)
theorem dec_play (h : RelC N A m) (hp : Px nob nob nob A) (hz : Fz0 A) (w0 : 0 ≤ w) (w1 : w < A 16 0) (v0 : 1 ≤ ver) (v1 : ver ≤ A 6 (A 7 w)) (hr : A 17 (rw9 A w) = 20) (hdue : hk A w (A 18 (rw9 A w) - 1) < 7) : ∃ v r1, G_plays w ver A = some (v, r1) ∧ (∀ j : Nat, j < 40 → r1 j = A j) ∧ (v = -1 ∨ v ≠ -1 ∧ ∃ u r2, G_takesAll v (80 * rw9 A w + A 18 (rw9 A w)) (ur r1 80 0 1) = some (u, r2) ∧ Dp w A r2) := by
  have f9 := fuel9_ge
  have g := h.2.2.rg
  have b10 := g.1
  have s := g.2.2 w w0 w1
  have er : rw9 A w = 9 * w + A 12 w - 1 := rfl
  have gp := h.2.2.gp
  obtain ⟨cx, oP, oH⟩ := h.cx (ver := ver) w0 w1 v0 v1
  have hi := h.2.2.hi w0 w1
  have hb := hi.1
  have hs0 : ∀ i, 0 ≤ i → i < A 18 (rw9 A w) → obj9 m (Rl A w + 1) 0 i = A 19 (80 * rw9 A w + i) ∧ obj9 m (Rl A w + 1) 1 i = A 20 (80 * rw9 A w + i) ∧ obj9 m (Rl A w + 1) 2 i = A 21 (80 * rw9 A w + i) := fun i i0 i1 => cx.2.2.2.1.2 i i0 i1
  have hno : ∀ j, 0 ≤ j → j < A 18 (rw9 A w) → obj9 m (Rl A w + 1) 0 j ≠ 16 := fun j j0 j1 hh => by
    rw [(hs0 j j0 j1).1] at hh
    exact (hi.2.2.2.2.2.2.2.2.2.2.1 j j0 j1 hh).2 hr
  have hcnt := hi.2.2.2.2.2.2.2.2.2.2.2.2
  have ecn : ∀ p : Int → Bool, cntP p (obj9 m (Rl A w + 1) 0) (A 18 (rw9 A w)).toNat = cntP p (hk A w) (A 18 (rw9 A w)).toNat := fun p => cntP_congr fun j j0 j1 => (hs0 j j0 (by omega)).1
  have hM : ∀ i, 0 ≤ i → i < A 18 (rw9 A w) → obj9 m (Rl A w + 1) 0 i = 5 → obj9 m (Rl A w + 1) 1 i < cntP pM (obj9 m (Rl A w + 1) 0) (A 18 (rw9 A w)).toNat := fun i i0 i1 hh => by
    rw [ecn, ← hcnt.2.2, (hs0 i i0 i1).2.1]
    rw [(hs0 i i0 i1).1] at hh
    exact (hi.2.2.2.2.2.2.2.2.1 i i0 i1 hh).1
  obtain ⟨v, r1, x1, x2, x3, x4⟩ := x_play cx h.1.2.1 oP oH hno hM
  refine ⟨v, r1, x1, fun j hj => x2 j (Or.inl hj), ?_⟩
  rcases x4 with ⟨rfl, -⟩ | ⟨vn, u, r2, q, m1, y1, y2, y3, y83, y4, y5, y6, y7⟩
  · exact Or.inl rfl
  refine Or.inr ⟨vn, u, r2, y1, ?_⟩
  obtain ⟨zz, q3, m3, v3, r3, k1, k2, k3, k4, k5, k6, k7⟩ := x_told (l4 := 1) cx h.1.2.1 oP oH (Or.inr rfl)
  rw [x1] at k5
  cases k5
  rcases k7 with ⟨hh, -⟩ | ⟨L, q4, m4, rfl, n1, n2, n3, n4, n5, n6, n7, n8, n9, na, nb⟩
  · exact absurd hh vn
  have tL := n2.2.2.1
  have g1 := k1
  -- the beginning
  have z40 : ∀ j : Nat, (40 ≤ j ∧ (j = 49 ∨ j = 50 ∨ j = 54 ∨ (56 ≤ j ∧ j ≤ 67) ∨ j = 69 ∨ j = 70 ∨ (72 ≤ j ∧ j ≤ 76))) → zz j = fun _ => 0 := fun j hj => by rw [k1.1 j (by omega)]; exact hz j hj.1
  have b0 : B3 0 := ⟨by decide, by decide⟩
  have z2 : ∀ j : Nat, j < 40 → zz j = A j := fun j hj => k1.1 j (Or.inl hj)
  have vz : VB zz := by
    obtain ⟨e1, e2, e3, e4, a40, a41, a42, a45, a47, a48, a51, a52, a53, a55, a68, a71⟩ := k1
    refine ⟨⟨by rw [a41]; exact b0, fun k => by rw [z40 62 (by omega)]; exact b0, fun k => by rw [z40 66 (by omega)]; exact b0, fun e => by omega, fun e => by omega, fun k k0 k1 => by rw [z40 76 (by omega)] at k1; dsimp only at k1; omega, fun i i0 i1 => ?_⟩, fun _ e => by omega⟩
    rw [z2 3 (by omega), z2 2 (by omega)]
    obtain ⟨q1, q2, q3, q4, q5, q6, q7, q8⟩ := gp.1 i i0 i1
    exact ⟨⟨by omega, by omega⟩, fun e => (q7 e).1⟩
  have hv : HV zz (80 * rw9 A w) (A 18 (rw9 A w)) := fun i i0 i1 => by
    rw [z2 19 (by omega), z2 20 (by omega), z2 21 (by omega)]
    have hrow := (hp.pw w0 w1).2.2.1
    by_cases c : i = 0
    · rw [c]
      have a := hrow.2.1
      unfold rwf at a
      exact ⟨by omega, fun _ => a.2, fun h => by omega⟩
    · have a := hrow.2.2.1 i (by omega) i1
      unfold He rwf at a
      exact ⟨by omega, fun h => by omega, a.2.2.2.2.2⟩
  have gpl := g_plays (ver := ver) w0 (by omega) s.1 s.2.1 (cx.1.2.2.2.2.1) (cx.1.2.2.2.2.2.1) v0 cx.1.2.2.2.2.2.2.2 (r := A) (by rw [← er]; omega) (by rw [← er]; omega)
  have x1p : G_plays w ver A = G_plays_58 fuel9 (80 * rw9 A w + A 18 (rw9 A w)) (80 * rw9 A w) (80 * rw9 A w) (bgn (5 * A 7 w + ver - 1) (A 12 w) A) := g_plays9 w0 (by omega) s.1 s.2.1 cx.1.2.2.2.2.1 cx.1.2.2.2.2.2.1 v0 cx.1.2.2.2.2.2.2.2 (by omega) (by omega)
  have vb : VB (bgn (5 * A 7 w + ver - 1) (A 12 w) A) := by
    have bz : ∀ j : Nat, (56 ≤ j ∧ j ≤ 67) ∨ j = 76 → bgn (5 * A 7 w + ver - 1) (A 12 w) A j = fun _ => 0 := fun j hj => by
      unfold bgn
      rw [ur_ne (by omega), ur_ne (by omega), ur_ne (by omega), ur_ne (by omega), ur_ne (by omega), ur_ne (by omega), ur_ne (by omega), ur_ne (by omega), ur_ne (by omega), ur_ne (by omega), ur_ne (by omega), ur_ne (by omega), ur_ne (by omega), ur_ne (by omega), ur_ne (by omega), ur_ne (by omega), ur_ne (by omega), ur_ne (by omega)]
      exact hz j (by omega)
    have b41 : bgn (5 * A 7 w + ver - 1) (A 12 w) A 41 0 = 0 := by unfold bgn; simp (disch := omega) only [ur_n, ur_e]
    have b42 : bgn (5 * A 7 w + ver - 1) (A 12 w) A 42 0 = 0 := by unfold bgn; simp (disch := omega) only [ur_n, ur_e]
    have b55 : bgn (5 * A 7 w + ver - 1) (A 12 w) A 55 0 = 0 := by unfold bgn; simp (disch := omega) only [ur_n, ur_e]
    refine ⟨⟨by rw [b41]; exact b0, fun k => by rw [bz 62 (by omega)]; exact b0, fun k => by rw [bz 66 (by omega)]; exact b0, fun e => by omega, fun e => by omega, fun k k0 k1 => by rw [bz 76 (by omega)] at k1; dsimp only at k1; omega, fun i i0 i1 => ?_⟩, fun _ e => by omega⟩
    rw [bgn_lo (by omega), bgn_lo (by omega)]
    obtain ⟨q1, q2, q3, q4, q5, q6, q7, q8⟩ := gp.1 i i0 i1
    exact ⟨⟨by omega, by omega⟩, fun e => (q7 e).1⟩
  have hvA : HV A (80 * rw9 A w) (A 18 (rw9 A w)) := fun i i0 i1 => by
    have := hv i i0 i1
    rw [z2 19 (by omega), z2 20 (by omega), z2 21 (by omega)] at this
    exact this
  rw [x1p] at x1
  have hlast := p58_last _ _ _ _ x1 vn
  obtain ⟨w1', w2'⟩ := v_plays58 _ _ _ _ vb (Int.le_refl _) (Int.le_refl _) hvA (fun j _ _ => bgn_lo (by omega)) _ _ x1
  unfold G_takesAll G_takesAll_0 at y1
  have y1 := stg_some y1
  have ay : AgR r1 (ur (ur r1 80 0 1) 76 0 0) := fun j hj => by rw [ur_ne (by omega), ur_ne (by omega)]
  have vy : VB (ur (ur r1 80 0 1) 76 0 0) := (w1'.set (by omega)).z76
  have ylo : ∀ j : Nat, j < 40 → ur (ur r1 80 0 1) 76 0 0 j = A j := fun j hj => by rw [ur_ne (by omega), ur_ne (by omega)]; exact x2 j (Or.inl hj)
  have y77 : ur (ur r1 80 0 1) 76 0 0 77 = zz 77 := by rw [ur_ne (by omega), ur_ne (by omega)]; exact k6 77 (by omega)
  have by' : Btw L (ur (ur r1 80 0 1) 76 0 0) := n5.z76 ay (ur_e rfl rfl)
  have pty : Pt (ur (ur r1 80 0 1) 76 0 0) := by
    unfold Pt at *
    simp (disch := omega) only [ur_n]
    exact n8
  generalize ur (ur r1 80 0 1) 76 0 0 = y at *
  obtain ⟨bz, pz, pmz⟩ := gb_btw cx g1
  have hsy : Hs (80 * rw9 A w) (A 18 (rw9 A w)) y := by
    have := cx.2.2.1
    unfold Hs at *
    rw [ylo 19 (by omega), ylo 20 (by omega), ylo 21 (by omega)]
    exact this
  have gy : PgR y := by
    unfold PgR at *
    rw [y77, ylo 5 (by omega), ylo 2 (by omega), ylo 3 (by omega), ylo 4 (by omega)]
    rw [z2 5 (by omega), z2 2 (by omega), z2 3 (by omega), z2 4 (by omega)] at pz
    exact pz
  obtain ⟨v5, r5, o1, o2, o3, o4⟩ := ok_takesAll7 (Int.le_refl (A 18 (rw9 A w))) fuel9 L y tL (by omega) (by omega) by' hsy gy pty
  rw [o1] at y1
  cases y1
  have vr := v_takesAll7 (B := 80 * rw9 A w) (hi := A 18 (rw9 A w)) fuel9 L y A vy tL hvA (fun j _ _ => ylo j (by omega)) _ _ o1
  have w55 := p_takesAll7 (B := 80 * rw9 A w) (hi := A 18 (rw9 A w)) fuel9 L y (Or.inr ⟨?_, ?_⟩) _ _ o1
  · obtain ⟨cc, c1, c2, c3, c4⟩ := o4
    have md := c4.2
    have bzz := c4.1
    obtain ⟨⟨d33, d76, d76', d37, d2, d41⟩, d42, dph, dsg, dct, dj⟩ := y7
    obtain ⟨j1, j2, jk, j59, jch⟩ := dj
    refine ⟨fun j hj => y2 j (Or.inl hj), ⟨d76, d76'⟩, vr.1, fun e => ?_, fun k k0 k1 => ?_, fun e => ?_⟩
    · have a := w55 e
      have b := bzz.2.2.2.2.2.2.2.2.2.1
      have c := vr.2 e (by omega)
      have d := md.2.2.1 e (by omega)
      have pg5 : r2 5 (r2 77 0) ≤ 12 := by
        rw [o2 5 (by omega), o2 77 (by omega)]
        exact gy.2.2.2.1
      omega
    · have := jk k k0 k1
      rw [ecn, ecn, ← hcnt.1, ← hcnt.2.1, y83] at this
      exact this
    · rcases dph with ⟨e1, _⟩ | ⟨e1, _⟩ | ⟨_, _, e3, _⟩
      · omega
      · omega
      · exact e3
  · by_cases d : L < A 18 (rw9 A w)
    · exact d
    · exfalso
      have lE : L = A 18 (rw9 A w) := by omega
      rcases hlast with hl | hl
      · omega
      · rw [bgn_lo (by omega), lE, show 80 * rw9 A w + A 18 (rw9 A w) - 1 = 80 * rw9 A w + (A 18 (rw9 A w) - 1) by omega] at hl
        unfold hk at hdue
        omega
  · rw [ylo 19 (by omega)]
    have := hdue
    unfold hk at this
    rw [show 80 * rw9 A w + A 18 (rw9 A w) - 1 = 80 * rw9 A w + (A 18 (rw9 A w) - 1) by omega]
    exact this
end VPL
