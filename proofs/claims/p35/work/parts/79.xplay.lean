/-! a play as a whole: the class answers alike -/
/-- the reference's fields of a play, as any play leaves them -/
def Fb (r : Rst) : Prop := (∀ k, -100000 ≤ r 62 k ∧ r 62 k ≤ 100000) ∧ (∀ k, -100000 ≤ r 66 k ∧ r 66 k ≤ 100000) ∧ (∀ k, r 60 k = 0 ∨ r 60 k = 1) ∧ ∀ k, r 61 k = 0 ∨ r 61 k = 1
theorem Btw.fb {i : Int} {r : Rst} (h : Btw i r) : Fb r := by
  obtain ⟨c, _, _, _, ⟨_, _, _, _, _, _, _, _, _, _, a, b, d, e⟩, _⟩ := h
  exact ⟨a, b, d, e⟩
/-- what is known of a run that is played with a version -/
def Cx (pg hs : Rst) (B E : Int) (w ver : Int) (r : Rst) : Prop := (0 ≤ w ∧ w < 10 ∧ 1 ≤ r 12 w ∧ r 12 w ≤ 9 ∧ 0 ≤ r 7 w ∧ r 7 w < 3 ∧ 1 ≤ ver ∧ ver ≤ 4) ∧ (B = 80 * (9 * w + r 12 w - 1) ∧ E = r 18 (9 * w + r 12 w - 1) ∧ 1 ≤ E ∧ E ≤ 80) ∧ Hs B E r ∧ HsR hs B E r ∧ Hf hs E ∧ (∀ j, 0 ≤ j → j < E → hs 0 j = 16 → j = E - 1) ∧ hs 0 0 = 0 ∧ (∀ j, 0 < j → j < E → 7 < hs 0 j → 7 ≤ hs 0 (j - 1)) ∧ PgR (ur r 77 0 (5 * r 7 w + ver - 1)) ∧ PgM pg (ur r 77 0 (5 * r 7 w + ver - 1)) ∧ PgC r ∧ Fb r ∧ Pt r
def c4 (hs : Rst) (i : Int) : Int := cntP (fun k => decide (k = 4)) (hs 0) i.toNat
theorem c4_cs (hs : Rst) : Cs (c4 hs) hs := by
  refine ⟨rfl, fun i h => ?_⟩
  unfold c4
  rw [show (i + 1).toNat = i.toNat + 1 by omega, cntP, show ((i.toNat : Nat) : Int) = i by omega]
  congr 1
  by_cases c : hs 0 i = 4
  · rw [if_t c, if_t (decide_eq_true c)]
  · rw [if_f c, if_f (by rw [decide_eq_false c]; decide)]
section XP
variable {pg hs : Rst} {P H B E w ver : Int} {r : Rst}
theorem gb_btw {z : Rst} (cx : Cx pg hs B E w ver r) (g : Gb w ver r z) : Btw 0 (ur z 76 0 0) ∧ PgR z ∧ PgM pg z := by
  obtain ⟨-, -, -, -, -, -, -, -, g1, g2, -, ⟨f1, f2, f3, f4⟩, -⟩ := cx
  obtain ⟨e1, e2, e3, e4, a40, a41, a42, a45, a47, a48, a51, a52, a53, a55, a68, a71⟩ := g
  have gz : PgR z := by
    unfold PgR at *
    rw [ur_e (a := 77) rfl rfl, ur_ne (a := 5) (by omega), ur_ne (a := 2) (by omega), ur_ne (a := 3) (by omega), ur_ne (a := 4) (by omega)] at g1
    rw [e1 5 (by omega), e1 2 (by omega), e1 3 (by omega), e1 4 (by omega), e2]
    exact g1
  refine ⟨⟨0, by omega, by omega, by omega, ?_, ?_⟩, gz, ?_⟩
  · unfold Bz
    simp (disch := omega) only [ur_n, ur_e, ur_ne]
    rw [e1 62 (by omega), e1 66 (by omega), e1 60 (by omega), e1 61 (by omega)]
    exact ⟨by omega, by omega, by omega, by omega, by omega, by omega, by omega, by omega, by omega, by omega, f1, f2, f3, f4⟩
  · have := gz.2.2.1
    unfold Md
    simp (disch := omega) only [ur_n, ur_e, ur_ne]
    exact ⟨by omega, fun _ _ => by omega, fun _ => by omega, fun h => by omega, fun h => by omega, fun h => by omega⟩
  · unfold PgM at *
    rw [ur_e (a := 77) rfl rfl, ur_ne (a := 5) (by omega), ur_ne (a := 2) (by omega), ur_ne (a := 3) (by omega), ur_ne (a := 4) (by omega)] at g2
    rw [e1 5 (by omega), e1 2 (by omega), e1 3 (by omega), e1 4 (by omega), e2]
    exact g2
theorem tq0 {z q : Rst} {run : Int} (g : Gb w ver r z) (hr : r 12 w = run) (hh : HsR hs B E z) (h : Q0 run q) : Tq pg hs (c4 hs) B E 0 q z := by
  obtain ⟨e1, e2, e3, e4, a40, a41, a42, a45, a47, a48, a51, a52, a53, a55, a68, a71⟩ := g
  obtain ⟨⟨b2, b7, b8, b9, b11, b12, b14, b15, b18⟩, ⟨b33, b34, b35, b36, b38⟩, b20, b19⟩ := h
  refine ⟨b38, b33, Int.le_refl _, fun h => by omega, ur (ur q 37 0 0) 40 0 0, ur (ur z 80 0 1) 76 0 0, fun j hj => by rw [ur_ne (by omega), ur_ne (by omega)], fun j hj => by rw [ur_ne (by omega), ur_ne (by omega)], Or.inl ⟨rfl, ?_, ?_⟩⟩
  · unfold Cm
    simp (disch := omega) only [ur_n, ur_ne]
    refine ⟨b18, by omega, by omega, ⟨by omega, by omega, by omega⟩, ⟨by rw [a68]; rfl, fun i i0 i1 => by omega, fun i i0 i1 => b20 i i0 i1⟩, ⟨by omega, by omega, by omega, fun t t0 t1 t2 => by omega⟩, ⟨by omega, by omega, by omega, by omega⟩, ?_, Or.inr ?_⟩
    · unfold HsR at *
      simp (disch := omega) only [ur_ne]
      exact hh
    · unfold DsN
      simp (disch := omega) only [ur_n, ur_e]
      exact ⟨trivial, trivial, b38, by omega, by omega, by omega, fun k k0 k1 => by omega⟩
  · unfold P0
    simp (disch := omega) only [ur_n]
    omega
theorem play_rest {l4 : Int} {k122 : Rst → Option G2} {q : Rst} (hE : hs 3 0 = E) (hE8 : E ≤ 80) (h37 : q 37 0 = 0) (h38 : q 38 0 = 0) (hl : l4 = 0) : ∀ (t m : Nat) (i : Int), 0 ≤ i → E - i = t → (∀ j, i ≤ j → j < E → hs 0 j ≠ 7) → t < m → H_4_play_10 pg hs k122 m l4 i q = k122 q := by
  intro t
  induction t with
  | zero =>
    intro m i h0 h1 h2 h3
    obtain ⟨m, rfl⟩ : ∃ k, m = k + 1 := ⟨m - 1, by omega⟩
    rw [H_4_play_10, if_t (by omega)]
  | succ t ih =>
    intro m i h0 h1 h2 h3
    obtain ⟨m, rfl⟩ : ∃ k, m = k + 1 := ⟨m - 1, by omega⟩
    have nx := ih m (i + 1) (by omega) (by omega) (fun j a b => h2 j (by omega) b) (by omega)
    rw [H_4_play_10, if_f (by omega), if_f (by omega), if_t h38, chk_t (by omega), if_f (h2 i (Int.le_refl _) (by omega))]
    by_cases c : 7 ≤ hs 0 i
    · rw [if_t c, chk_t (by omega)]; exact nx
    · rw [if_f c, if_t h37, if_t hl, chk_t (by omega)]; exact nx
/-- the class's play out of the player's -/
theorem x_lift {run l4 v : Int} {m m1 : Mem} {q q' : Rst} (k1 : X4_begin 100 P H run m = some (0, m1)) (k2 : Hp q pg hs P H m1) (k3 : FrH m m1) (hv : v = 0 ∨ v = 1) (e : H_4_play_10 pg hs (H_4_play_122 pg hs) fuel9 l4 0 q = some (v, q')) : ∃ m', X4_play 100 P H run l4 m = some (v, m') ∧ Hp q' pg hs P H m' ∧ FrH m m' := by
  obtain ⟨m', t1, t2, t3⟩ := li_X4_play_10 (fun hR => li_X4_play_122 hR) fuel9 k2 v q' e
  refine ⟨m', ?_, t2, k3.tr t3⟩
  unfold X4_play X4_play_0
  rw [chk_t (by omega), k1, cal_e, t1]
  exact boolR_e hv
theorem Cx.g {z : Rst} (cx : Cx pg hs B E w ver r) (g : Gb w ver r z) : Hs B E z ∧ HsR hs B E z ∧ PgC z := by
  obtain ⟨-, -, h1, h2, -, -, -, -, -, -, h3, -⟩ := cx
  have e1 := g.1
  unfold Hs HsR PgC at *
  rw [e1 19 (by omega), e1 20 (by omega), e1 21 (by omega), e1 2 (by omega), e1 3 (by omega), e1 4 (by omega)]
  exact ⟨h1, h2, h3⟩
/-- what is told, on both sides -/
theorem x_told {l4 : Int} {m : Mem} (cx : Cx pg hs B E w ver r) (hl : Pl m) (hP : Ob pg P m) (hH : Ob hs H m) (h4 : l4 = 0 ∨ l4 = 1) : ∃ z q m1 v r', Gb w ver r z ∧ X4_begin 100 P H (r 12 w) m = some (0, m1) ∧ Hp q pg hs P H m1 ∧ FrH m m1 ∧ G_plays w ver r = some (v, r') ∧ AgS z r' ∧ ((v = -1 ∧ Btw 80 r' ∧ Pt r' ∧ ∃ q', H_4_play_10 pg hs (H_4_play_122 pg hs) fuel9 l4 0 q = H_4_play_122 pg hs q' ∧ q' 38 0 = 1) ∨ ∃ L' q' m', v = B + L' ∧ L' ≤ E ∧ Tq pg hs (c4 hs) B E L' q' r' ∧ q' 37 0 = 0 ∧ 0 ≤ q' 40 0 ∧ Btw L' (ur r' 76 0 0) ∧ (∀ j, L' ≤ j → j < E → hs 0 j ≠ 7) ∧ E - L' + 3 < (m' : Nat) ∧ Pt r' ∧ Jb hs L' r' ∧ (L' < E → hs 0 L' ≤ 7) ∧ H_4_play_10 pg hs (H_4_play_122 pg hs) fuel9 l4 0 q = H_4_play_10 pg hs (H_4_play_122 pg hs) m' l4 L' q') := by
  have f9 := fuel9_ge
  have cx' := cx
  obtain ⟨⟨w0, w1, w2, w3, w4, w5, w6, w7⟩, ⟨hB, hE, hE1, hE8⟩, h1, h2, h3, h5, h6, h7, h8, h9, h10, h11, hpt⟩ := cx'
  obtain ⟨z, gz, ez⟩ := g_plays (ver := ver) w0 w1 w2 w3 w4 w5 w6 w7 (by omega) (by omega)
  rw [← hE, ← hB] at ez
  obtain ⟨bz, pz, pmz⟩ := gb_btw cx gz
  obtain ⟨hz, hhz, cz⟩ := cx.g gz
  obtain ⟨q, m1, k1, k2, k3, k4, k5⟩ := x_begin (pg := pg) (P := P) (run := r 12 w) hl hP hH h2.1 (by omega) hE8
  have b0 := hz.1
  have b1 := hz.2.1
  have g1 := gz.1
  obtain ⟨g2, g3, g4, ⟨a40, a41, a42, a45, a47, a48, a51, a52, a53, a55, a68, a71⟩⟩ := gz.2
  have ptz : Pt z := by
    unfold Pt at *
    rw [g1 78 (by omega), g1 79 (by omega)]
    exact hpt
  have e0 : B + 0 = B := Int.add_zero B
  obtain ⟨v, r', e⟩ := ok_plays58 hE8 fuel9 0 0 z (by omega) (by omega) (by omega) (by omega) (by omega) hz pz ptz (fun j a a2 a3 => by omega) bz
  have jb : Jb hs 0 z := ⟨a51, a52, a53, a47, fun i a a2 => by omega, cz⟩
  have := sy_plays58 (k122 := H_4_play_122 pg hs) (c4_cs hs) h3 hE8 h4 h5 h6 h7 fuel9 0 0 q z r' v fuel9 (by omega) (by omega) (by omega) (fun j a a2 => by omega) (fun j a a2 => by omega) (tq0 gz rfl hhz k4) k5 bz hz hhz pz ptz pmz (by omega) g4 (fun _ => by omega) jb (by omega) e
  rw [e0] at e
  exact ⟨z, q, m1, v, r', gz, k1, k2, k3, by rw [ez]; exact e, this⟩
/-- the register found anew -/
theorem x_anew {m : Mem} (cx : Cx pg hs B E w ver r) (hl : Pl m) (hP : Ob pg P m) (hH : Ob hs H m) : ∃ v r' q m', G_plays w ver r = some (v, r') ∧ (∀ j : Nat, j < 40 ∨ j = 81 ∨ j = 82 → r' j = r j) ∧ (Fb r' ∧ Pt r') ∧ X4_play 100 P H (r 12 w) 0 m = some ((if v = -1 then 0 else 1), m') ∧ Hp q pg hs P H m' ∧ FrH m m' ∧ (v ≠ -1 → q 2 0 = r' 41 0) := by
  obtain ⟨z, q, m1, v, r', gz, k1, k2, k3, k4, k5, k6⟩ := x_told (l4 := 0) cx hl hP hH (Or.inl rfl)
  have hE := cx.2.2.2.1.1
  have hE8 := cx.2.1.2.2.2
  have b0 := cx.2.2.1.1
  have fr : ∀ j : Nat, j < 40 ∨ j = 81 ∨ j = 82 → r' j = r j := fun j hj => by rw [k5 j (by omega), gz.1 j (by omega)]
  rcases k6 with ⟨rfl, bt, pt, q', h1, h2⟩ | ⟨L, q', m', rfl, hL, tq, h37, h40, bt, h7, hm, pt, jb, hL7, h⟩
  · obtain ⟨m2, x1, x2, x3⟩ := x_lift k1 k2 k3 (v := 0) (q' := q') (Or.inl rfl) (by rw [h1]; unfold H_4_play_122; rw [if_f (by omega)])
    exact ⟨-1, r', q', m2, k4, fr, ⟨bt.fb, pt⟩, x1, x2, x3, fun h => absurd rfl h⟩
  · have tL := tq.2.2.1
    rw [play_rest hE hE8 h37 tq.1 rfl (E - L).toNat m' L tL (by omega) h7 (by omega)] at h
    obtain ⟨m2, x1, x2, x3⟩ := x_lift k1 k2 k3 (v := 1) (q' := q') (Or.inr rfl) (by rw [h]; unfold H_4_play_122; rw [if_t tq.1])
    refine ⟨B + L, r', q', m2, k4, fr, ⟨?_, pt⟩, ?_, x2, x3, fun _ => tq.v⟩
    · have := bt.fb
      unfold Fb at *
      simp (disch := omega) only [ur_ne] at this
      exact this
    · rw [if_f (by omega)]; exact x1
/-- what the player has decided anew, beside the reference -/
def Dn (hs : Rst) (E : Int) (q r : Rst) : Prop := (q 33 0 = r 76 0 ∧ 0 ≤ r 76 0 ∧ r 76 0 ≤ 5200 ∧ q 37 0 = 0 ∧ q 2 0 = r 41 0 ∧ (-100000 ≤ r 41 0 ∧ r 41 0 ≤ 100000)) ∧ (∀ k, 0 ≤ k → k < r 76 0 → k < 80 → q 42 k = r 72 k ∧ q 43 k = r 73 k ∧ q 44 k = r 74 k) ∧ (r 42 0 = 0 ∧ q 8 0 = 1 ∧ q 9 0 = r 40 0 ∨ r 42 0 = 1 ∧ q 8 0 = 3 ∨ r 42 0 = 2 ∧ q 8 0 = 4 ∧ OV r ∧ (-100000 ≤ r 50 0 ∧ r 50 0 ≤ 100000)) ∧ Sg (c4 hs) hs E (q 20) (r 65) (r 66) (r 67) (r 68 0) ∧ Ct (q 34 0) (q 35 0) (q 36 0) (r 51 0) (r 52 0) (r 53 0) ∧ J (cntP pA (hs 0) E.toNat) (cntP pT (hs 0) E.toNat) (cntP pM (hs 0) E.toNat) (can (hs 0) E.toNat) True r
theorem x_play {m : Mem} (cx : Cx pg hs B E w ver r) (hl : Pl m) (hP : Ob pg P m) (hH : Ob hs H m) (hno : ∀ j, 0 ≤ j → j < E → hs 0 j ≠ 16) (hM : ∀ e, 0 ≤ e → e < E → hs 0 e = 5 → hs 1 e < cntP pM (hs 0) E.toNat) : ∃ v r', G_plays w ver r = some (v, r') ∧ (∀ j : Nat, j < 40 ∨ j = 81 ∨ j = 82 → r' j = r j) ∧ (Fb r' ∧ Pt r') ∧ ((v = -1 ∧ ∃ q m', X4_play 100 P H (r 12 w) 1 m = some (0, m') ∧ Hp q pg hs P H m' ∧ FrH m m') ∨ (v ≠ -1 ∧ ∃ u r2 q m', G_takesAll v (B + E) (ur r' 80 0 1) = some (u, r2) ∧ (∀ j : Nat, j < 40 ∨ j = 81 ∨ j = 82 → r2 j = r j) ∧ (Fb r2 ∧ Pt r2) ∧ r2 83 0 = r 12 w ∧ X4_play 100 P H (r 12 w) 1 m = some (1, m') ∧ Hp q pg hs P H m' ∧ FrH m m' ∧ Dn hs E q r2)) := by
  have f9 := fuel9_ge
  obtain ⟨z, q, m1, v, r', gz, k1, k2, k3, k4, k5, k6⟩ := x_told (l4 := 1) cx hl hP hH (Or.inr rfl)
  have hE := cx.2.2.2.1.1
  have hE1 := cx.2.1.2.2.1
  have hE8 := cx.2.1.2.2.2
  have b0 := cx.2.2.1.1
  have b1 := cx.2.2.1.2.1
  have hf := cx.2.2.2.2.1
  have h00 := cx.2.2.2.2.2.2.1
  have hk := cx.2.2.2.2.2.2.2.1
  have w9 := cx.1.2.2.2.1
  have fr : ∀ j : Nat, j < 40 ∨ j = 81 ∨ j = 82 → r' j = r j := fun j hj => by rw [k5 j (by omega), gz.1 j (by omega)]
  rcases k6 with ⟨rfl, bt, pt, q', h1, h2⟩ | ⟨L, q', m', rfl, hL, tq, h37, h40, bt, h7, hm, pt, jb, hL7, h⟩
  · obtain ⟨m2, x1, x2, x3⟩ := x_lift k1 k2 k3 (v := 0) (q' := q') (Or.inl rfl) (by rw [h1]; unfold H_4_play_122; rw [if_f (by omega)])
    exact ⟨-1, r', k4, fr, ⟨bt.fb, pt⟩, Or.inl ⟨rfl, q', m2, x1, x2, x3⟩⟩
  · have tL := tq.2.2.1
    obtain ⟨bz, pz, pmz⟩ := gb_btw cx gz
    obtain ⟨hz, hhz, cz⟩ := cx.g gz
    have fb' : Fb r' := by
      have := bt.fb
      unfold Fb at *
      simp (disch := omega) only [ur_ne] at this
      exact this
    refine ⟨B + L, r', k4, fr, ⟨fb', pt⟩, Or.inr ⟨by omega, ?_⟩⟩
    unfold G_takesAll G_takesAll_0
    have ey : ∀ j : Nat, j ≠ 80 → j ≠ 76 → ur (ur r' 80 0 1) 76 0 0 j = r' j := fun j a a2 => by rw [ur_ne a2, ur_ne a]
    have y80 : ur (ur r' 80 0 1) 76 0 0 80 0 = 1 := by rw [ur_n (by omega), ur_e rfl rfl]
    have y76 : ur (ur r' 80 0 1) 76 0 0 76 0 = 0 := ur_e rfl rfl
    rw [stg_e]
    generalize ur (ur r' 80 0 1) 76 0 0 = y at *
    have ay : AgR r' y := fun j hj => ey j (by omega) (by omega)
    have az : ∀ j : Nat, j < 40 ∨ j = 77 → y j = z j := fun j hj => by rw [ey j (by omega) (by omega), k5 j (by omega)]
    have hy : Hs B E y := by
      unfold Hs
      rw [az 19 (by omega), az 20 (by omega), az 21 (by omega)]
      exact hz
    have hhy : HsR hs B E y := by
      unfold HsR
      rw [az 19 (by omega), az 20 (by omega), az 21 (by omega)]
      exact hhz
    have gy : PgR y := by
      unfold PgR
      rw [az 77 (by omega), az 5 (by omega), az 2 (by omega), az 3 (by omega), az 4 (by omega)]
      exact pz
    have pmy : PgM pg y := by
      unfold PgM
      rw [az 77 (by omega), az 5 (by omega), az 2 (by omega), az 3 (by omega), az 4 (by omega)]
      exact pmz
    have pty : Pt y := by
      unfold Pt at *
      rw [ey 78 (by omega) (by omega), ey 79 (by omega) (by omega)]
      exact pt
    have by' : Btw L y := bt.z76 ay y76
    have hry : y 83 0 ≤ 9 := by
      rw [ey 83 (by omega) (by omega), k5 83 (by omega), gz.2.2.1]
      exact w9
    have h42 : r' 42 0 ≠ 2 := fun h => by
      obtain ⟨j, j0, j1, j2⟩ := tq.2.2.2.1 h
      exact hno j j0 (by omega) j2
    have t33 := tq.2.1
    have t38 := tq.1
    have hds : Ds hs B E q' y := ⟨hhy, Or.inr ⟨y80, h37, t38, by omega, by omega, h40, fun k a a2 => by omega⟩⟩
    obtain ⟨v3, r3, w1, w2, w3, w4⟩ := ok_takesAll7 (Int.le_refl E) fuel9 L y tL (by omega) (by omega) by' hy gy pty
    have key : ∃ q2 m2, SameQ y r3 ∧ 1 ≤ m2 ∧ m2 + (E - L) ≥ (m' : Int) ∧ ((q2 38 0 = 0 ∧ Pe pg hs (c4 hs) B E E (ur q2 18 0 E) r3 ∧ Btw E r3 ∧ H_4_play_10 pg hs (H_4_play_122 pg hs) m' 1 L q' = H_4_play_10 pg hs (H_4_play_122 pg hs) m2.toNat 1 E q2) ∨ (q2 38 0 = 1 ∧ Mis r3 ∧ H_4_play_10 pg hs (H_4_play_122 pg hs) m' 1 L q' = H_4_play_122 pg hs q2)) := by
      rcases tq.go h42 ay hds with ⟨l0, hc, hp⟩ | ⟨l1, hp⟩
      · subst l0
        exact sy_first (c4_cs hs) hf (Int.le_refl E) hE8 (Or.inr rfl) fuel9 m' v3 hE1 (by omega) by' hy hhy gy pty pmy hry (Or.inr rfl) h00 hc hp t38 h7 (by omega) w1
      · exact sy_seg (c4_cs hs) hf (Int.le_refl E) hE8 (Or.inr rfl) fuel9 m' L q' y r3 v3 l1 hL (by omega) by' hy hhy gy pty pmy hry (Or.inr rfl) hp t38 h7 (by omega) w1
    have y380 : r3 80 0 = 1 := by rw [w2 80 (by omega)]; exact y80
    obtain ⟨q2, m2, -, n1, n2, ⟨s38, pe, bE, hq⟩ | ⟨s38, mis, hq⟩⟩ := key
    · have m7 : ∀ j, L ≤ j → j < E → hs 0 j ≤ 7 := fun j a a2 => k7 (d := j) hk tL hL7 (fun i b c => h7 i b (by omega)) a2 (j - L).toNat j (by omega) (Int.le_refl _)
      have cn : ∀ p : Int → Bool, (∀ k, k ≤ 7 → p k = false) → cntP p (hs 0) E.toNat = cntP p (hs 0) L.toNat := fun p hp => by
        rw [show E.toNat = L.toNat + (E - L).toNat by omega]
        exact cntP_none fun k a a2 => hp _ (m7 k (by omega) (by omega))
      have cA := cn pA fun k a => decide_eq_false (by omega)
      have cT := cn pT fun k a => decide_eq_false (by omega)
      have cM := cn pM fun k a => decide_eq_false (by omega)
      have jy := jb.j (hx := True) ay y76
      have j3 := J_takesAll7 (Int.le_refl E) hf (hx := True) (M := r' 53 0) (fun _ e a a2 a3 => by rw [jb.2.2.1, ← cM]; exact hM e a a2 a3) fuel9 L y tL hL (fun _ => y76) hhy by' hy gy pty jy v3 r3 w1
      rw [jb.1, jb.2.1, jb.2.2.1, ← cA, ← cT, ← cM] at j3
      obtain ⟨k, hk9⟩ : ∃ k, m2.toNat = k + 1 := ⟨m2.toNat - 1, by omega⟩
      rw [hk9, H_4_play_10, if_t (by omega)] at hq
      obtain ⟨m3, x1, x2, x3⟩ := x_lift k1 k2 k3 (v := 1) (q' := q2) (Or.inr rfl) (by rw [h, hq]; unfold H_4_play_122; rw [if_t s38])
      refine ⟨v3, r3, q2, m3, w1, fun j hj => by rw [w2 j (by omega), ey j (by omega) (by omega), fr j hj], ⟨bE.fb, pty.sameQ w2⟩, by rw [w2 83 (by omega), ey 83 (by omega) (by omega), k5 83 (by omega), gz.2.2.1], x1, x2, x3, ?_⟩
      obtain ⟨cc, c1, c2, c3, ⟨bd76, bd51, bd52, bd53, bd71, bd68, bd48, bd45, bd41, _⟩, bmd⟩ := bE
      have ds := pe.ds (by rw [ur_n (by omega)]; exact s38)
      have u : ∀ j : Nat, j ≠ 18 → ur q2 18 0 E j = q2 j := fun j hj => ur_ne hj
      obtain ⟨-, ⟨x80, -⟩ | ⟨d1, d2, d3, d4, d5, d6, d7⟩⟩ := ds
      · omega
      · rw [u 37 (by omega)] at d2
        rw [u 33 (by omega)] at d5
        rw [u 42 (by omega), u 43 (by omega), u 44 (by omega)] at d7
        have ph : ∃ p, Cm pg hs (c4 hs) B E E p (ur q2 18 0 E) r3 ∧ (r3 42 0 = 0 ∧ q2 8 0 = 1 ∧ q2 9 0 = r3 40 0 ∨ r3 42 0 = 1 ∧ q2 8 0 = 3 ∨ r3 42 0 = 2 ∧ q2 8 0 = 4 ∧ OV r3) := by
          rcases pe with ⟨_, ⟨hc, hp, _⟩ | ⟨p, _, hc, hp | hp⟩⟩ | pe
          · refine ⟨0, hc, Or.inl ⟨hp.2.1, ?_, ?_⟩⟩
            · rw [← u 8 (by omega)]; exact hp.1
            · rw [← u 9 (by omega)]; exact hp.2.2.2.2.2.1
          · refine ⟨p, hc, Or.inr (Or.inl ⟨hp.2.1, ?_⟩)⟩
            rw [← u 8 (by omega)]; exact hp.1
          · refine ⟨p, hc, Or.inr (Or.inr ⟨hp.2.1, ?_, hp.2.2.2.2⟩)⟩
            rw [← u 8 (by omega)]; exact hp.1
          · exact absurd pe.1 (by rw [ur_n (by omega)]; omega)
        obtain ⟨p, hc, ph⟩ := ph
        obtain ⟨a1, a2, a3, a4, a5, a6, a7, a8⟩ := hc
        rw [u 2 (by omega)] at a2
        rw [u 20 (by omega)] at a5
        rw [u 34 (by omega), u 35 (by omega), u 36 (by omega)] at a7
        refine ⟨⟨d5, d4, by omega, d2, a2, bd41⟩, d7, ?_, a5, a7, j3⟩
        rcases ph with ph | ph | ph
        · exact Or.inl ph
        · exact Or.inr (Or.inl ph)
        · exact Or.inr (Or.inr ⟨ph.1, ph.2.1, ph.2.2, bmd.2.2.2.2.2 ph.1⟩)
    · exact absurd mis.1 (by omega)
end XP
