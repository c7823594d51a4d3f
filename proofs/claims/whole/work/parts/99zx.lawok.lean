/-! the law holds -/
section LO
variable {N : Int} {r r' : Rst} {m m' m0 m1 : Mem} {ty z : Int}
/-- the reference's fields, read off the memory -/
def rd9 (m : Mem) : Rst := fun j i => if arr9 j = true then m (10 + j) i else m 10 j
theorem rel0c (h : Cl0 m0 m) (z : ∀ (j : Nat) i, j < 84 → j ≠ 35 → j ≠ 38 → j ≠ 39 → r j i = 0) (z35 : ∀ q, 0 ≤ q → q < 2 → r 35 q = 9) (z38 : ∀ q, 0 ≤ q → q < 4 → r 38 q = 1) (z39 : ∀ q, 0 ≤ q → q < 4 → r 39 q = -1) : RelC 0 r m ∧ GT r := by
  obtain ⟨h1, h2, h3, h4, h5, h6, h7, h8, h9⟩ := h
  have zz : ∀ (j : Nat) i, j < 35 → r j i = 0 := fun j i a => z j i (by omega) (by omega) (by omega) (by omega)
  refine ⟨⟨⟨⟨?_, fun w a b => ?_⟩, h2, fun t a b => ?_, fun q a b => ?_, fun q a b => ?_, fun w a b => ?_, fun c a b => ?_, ⟨fun w a b i c d => ?_, fun w a b => ?_, fun t a b i c d => ?_⟩⟩, fun w a b => ?_, ⟨?_, ⟨fun i a b => ?_, fun t a b => ?_⟩, ⟨⟨fun k => ?_, fun k => ?_, fun k => ?_, fun k => ?_⟩, ?_, ?_, ?_⟩, fun w a b => ?_, ⟨fun w a b => ?_, fun w k a b c d => ?_, fun w k a b => ?_⟩, fun w a b => ?_, ⟨fun w n a b => ?_, fun c a b => ?_⟩, ⟨fun q a b => ?_, fun w n a b => ?_⟩, ?_, ?_, fun q a b => ?_, fun i a b => ?_⟩⟩, fun w n a b => ?_⟩
  · rw [zz 16 _ (by omega), zz 29 _ (by omega), zz 1 _ (by omega)]; exact h1
  · rw [zz 16 _ (by omega)] at b; omega
  · obtain ⟨k1, k2, k3⟩ := h3 t a b
    unfold Fm
    rw [zz 6 _ (by omega)]
    refine ⟨⟨k1, k2.1, k2.2.1, by rw [k2.2.2]; omega⟩, fun k x y => by omega, fun k x y => ?_⟩
    rw [show k = 0 by omega, show 1000 * (t + 1) + 10 * (0 + 1) = 1000 * (t + 1) + 10 by omega]
    unfold Pm
    rw [zz 5 _ (by omega)]
    exact ⟨⟨by rw [k3.1]; omega, by rw [k3.2.1]; omega, by rw [k3.2.2.1]; omega, k3.2.2.2⟩, fun s c d => by omega⟩
  · obtain ⟨k1, k2, k3⟩ := h4 q a b
    exact ⟨⟨k1, k2.1, by rw [z35 q a b]; exact k2.2.1, by rw [z 36 _ (by omega) (by omega) (by omega) (by omega)]; exact k2.2.2⟩, fun t c d => by rw [z 37 _ (by omega) (by omega) (by omega) (by omega)]; exact k3 t⟩
  · obtain ⟨k1, k2, k3⟩ := h5 q a b
    exact ⟨k1, by rw [z38 q a b]; exact k2, Or.inl ⟨z39 q a b, k3⟩⟩
  · rw [zz 16 _ (by omega)] at b; omega
  · rw [zz 16 _ (by omega)] at b; omega
  · rw [zz 16 _ (by omega)] at a
    exact h6 i (by omega)
  · rw [zz 16 _ (by omega)] at b; omega
  · rw [zz 6 _ (by omega)] at c
    exact h7 t a b i (by omega) (by omega)
  · rw [zz 16 _ (by omega)] at b; omega
  · rw [zz 16 _ (by omega)]; omega
  · rw [zz 2 _ (by omega), zz 3 _ (by omega), zz 4 _ (by omega)]
    omega
  · rw [zz 6 _ (by omega), zz 5 _ (by omega)]
    exact ⟨by omega, by omega, fun v c d => by omega⟩
  · rw [z 62 _ (by omega) (by omega) (by omega) (by omega)]; omega
  · rw [z 66 _ (by omega) (by omega) (by omega) (by omega)]; omega
  · exact Or.inl (z 60 _ (by omega) (by omega) (by omega) (by omega))
  · exact Or.inl (z 61 _ (by omega) (by omega) (by omega) (by omega))
  · rw [z 78 _ (by omega) (by omega) (by omega) (by omega)]; omega
  · rw [z 78 _ (by omega) (by omega) (by omega) (by omega)]; omega
  · rw [z 79 _ (by omega) (by omega) (by omega) (by omega)]; omega
  · rw [zz 16 _ (by omega)] at b; omega
  · exact ⟨zz 12 _ (by omega), zz 13 _ (by omega), zz 13 _ (by omega)⟩
  · exact zz 18 _ (by omega)
  · rw [zz 16 _ (by omega)] at b; omega
  · rw [zz 16 _ (by omega)] at b; omega
  · rw [zz 16 _ (by omega)] at b; omega
  · rw [zz 16 _ (by omega)] at b; omega
  · exact ⟨Or.inr (z38 q a b), Or.inl (z39 q a b)⟩
  · rw [zz 16 _ (by omega)] at b; omega
  · rw [zz 1 _ (by omega)]; omega
  · rw [zz 29 _ (by omega)]; omega
  · rw [z 36 _ (by omega) (by omega) (by omega) (by omega)]; omega
  · rw [z 37 _ (by omega) (by omega) (by omega) (by omega)]; omega
  · rw [zz 16 _ (by omega)] at b; omega
theorem law_loop {L : Int} (hL2 : L ≤ 2560) (hL0 : 0 ≤ L) : ∀ (d : Nat) (t : Nat) (i N : Int) (r : Rst) (m : Mem), L - i < 5 * (d : Int) + 5 → d < t → 0 ≤ i → 0 ≤ N → N + d ≤ 599 → m (-4) 0 = L → RelC N r m → GT r → Rp r m → ∃ m', L_law_23 t 1 10 8 i m = some (1, m') ∧ m' (-2) 0 ≤ m (-2) 0 + 100 * (d + 1) + 10 * (10 - r 16 0) ∧ m' (-2) 1 ≤ m (-2) 1 + 2000 * (d + 1) + 700 * (10 - r 16 0) := by
  intro d
  induction d with
  | zero =>
    intro t i N r m hd ht i0 N0 hN hL h tt hp
    obtain ⟨t, rfl⟩ : ∃ k, t = k + 1 := ⟨t - 1, by omega⟩
    have b10 := h.2.2.1
    by_cases c : m (-4) 0 - 5 < i
    · refine ⟨m, ?_, by omega, by omega⟩
      by_cases l9 : iR (m (-4) 0 - 5)
      · rw [L_law_23, if_t c, chk_t (by omega), chk_t l9]
      · exfalso
        omega
    · omega
  | succ d ih =>
    intro t i N r m hd ht i0 N0 hN hL h tt hp
    obtain ⟨t, rfl⟩ : ∃ k, t = k + 1 := ⟨t - 1, by omega⟩
    have b10 := h.2.2.1
    by_cases c : m (-4) 0 - 5 < i
    · refine ⟨m, ?_, by omega, by omega⟩
      by_cases l9 : iR (m (-4) 0 - 5)
      · rw [L_law_23, if_t c, chk_t (by omega), chk_t l9]
      · exfalso
        omega
    · obtain ⟨r1, m1, x1, x2, x3, x4, x5, x6, x7, x8⟩ := law_turn t i i0 hL hL2 (by omega) h tt hp (by omega)
      obtain ⟨m', y1, y2, y3⟩ := ih t (i + 5) (N + 1) r1 m1 (by omega) (by omega) (by omega) (by omega) (by omega) (by rw [x6]; exact hL) x2 x3 x4
      exact ⟨m', by rw [x1, y1], by omega, by omega⟩
theorem law_ok : LawOK := fun L xs hL => by
  have f9 := fuel9_ge
  have z0 : ∀ i, mem0 L xs (-1) i = 0 := fun i => by
    unfold mem0
    rw [if_neg (by decide), if_neg (fun h => absurd h.1 (by decide))]
  have zc : ∀ i, mem0 L xs (-2) i = 0 := fun i => by
    unfold mem0
    rw [if_neg (by decide), if_neg (fun h => absurd h.1 (by decide))]
  have z4 : mem0 L xs (-4) 0 = L := by
    unfold mem0
    rw [if_neg (by decide), if_pos ⟨rfl, rfl⟩]
  obtain ⟨m4, a1, a2⟩ := x_cls z0
  have k := a2
  obtain ⟨h1, h2, h3, h4, h5, h6, h7, h8, h9, h10⟩ := k
  obtain ⟨m1, ⟨m9, b1, b2⟩, p1, p2, p3, p4, p5, p6, p7, p8⟩ := x_ref (m := m4) (fun i x y => h6 i (by omega))
  have o9 : ∀ i, i ≠ 45 → i ≠ 48 → i ≠ 49 → m9 i = m1 i := fun i x y w => by
    rw [b2, upd9_row w, upd9_row y, upd9_row w, upd9_row y, upd9_row w, upd9_row y, upd9_row w, upd9_row y, upd9_row x, upd9_row x]
  have v35 : ∀ q, 0 ≤ q → q < 2 → m9 45 q = 9 := fun q x y => by
    rw [b2, upd9_n (by omega), upd9_n (by omega), upd9_n (by omega), upd9_n (by omega), upd9_n (by omega), upd9_n (by omega), upd9_n (by omega), upd9_n (by omega)]
    rcases (show q = 0 ∨ q = 1 by omega) with rfl | rfl
    · rw [upd9_n (by omega), upd9_e rfl rfl]
    · exact upd9_e rfl rfl
  have v38 : ∀ q, 0 ≤ q → q < 4 → m9 48 q = 1 := fun q x y => by
    rw [b2]
    rcases (show q = 0 ∨ q = 1 ∨ q = 2 ∨ q = 3 by omega) with rfl | rfl | rfl | rfl <;> simp (disch := omega) only [upd9_n, upd9_e]
  have v39 : ∀ q, 0 ≤ q → q < 4 → m9 49 q = -1 := fun q x y => by
    rw [b2]
    rcases (show q = 0 ∨ q = 1 ∨ q = 2 ∨ q = 3 by omega) with rfl | rfl | rfl | rfl <;> simp (disch := omega) only [upd9_n, upd9_e]
  have rz : ∀ (j : Nat) i, j < 84 → j ≠ 35 → j ≠ 38 → j ≠ 39 → rd9 m9 j i = 0 := fun j i hj x y w => by
    unfold rd9
    by_cases c : arr9 j = true
    · have j81 : j ≤ 81 := by
        rcases (show j ≤ 81 ∨ j = 82 ∨ j = 83 by omega) with e | e | e
        · exact e
        · rw [e] at c; exact absurd c (by decide)
        · rw [e] at c; exact absurd c (by decide)
      rw [if_t c, o9 _ (by omega) (by omega) (by omega)]
      exact p4 j j81 c i
    · rw [if_f c, o9 10 (by omega) (by omega) (by omega)]
      exact p3 j hj (by cases e : arr9 j with
        | true => exact absurd e c
        | false => rfl)
  have em : ∀ i, i < 10 ∨ 94 < i → i ≠ -1 → i ≠ -2 → m9 i = m4 i := fun i x y w => by
    rw [o9 i (by omega) (by omega) (by omega), p5 i x y w, alo_row (by omega) y w]
  have ez : ∀ i, i < 10 ∨ 94 < i → m9 (-1) i = m4 (-1) i := fun i x => by
    rw [o9 (-1) (by omega) (by omega) (by omega), p6 i x, alo_t (by decide), if_f (by omega)]
  have rp : Rp (rd9 m9) m9 := fun j hj => by
    refine ⟨fun c => ⟨?_, fun i => ?_⟩, fun c => ?_⟩
    · have j81 : j ≤ 81 := by
        rcases (show j ≤ 81 ∨ j = 82 ∨ j = 83 by omega) with e | e | e
        · exact e
        · rw [e] at c; exact absurd c (by decide)
        · rw [e] at c; exact absurd c (by decide)
      rw [o9 10 (by omega) (by omega) (by omega)]
      exact p2 j hj j81 c
    · unfold rd9
      rw [if_t c]
    · unfold rd9
      rw [if_f (by rw [c]; decide)]
  have cl : Cl0 (mem0 L xs) (fun a b => if a = -2 then m4 a b else if a = -1 then m4 a b else m9 a b) := by
    have e1 : ∀ i, i < 10 ∨ 94 < i → (fun a b => if a = -2 then m4 a b else if a = -1 then m4 a b else m9 a b : Mem) i = m4 i := fun i x => by
      funext b
      show (if i = -2 then m4 i b else if i = -1 then m4 i b else m9 i b) = m4 i b
      by_cases c : i = -2
      · rw [if_t c]
      · rw [if_f c]
        by_cases d : i = -1
        · rw [if_t d]
        · rw [if_f d, em i x d c]
    unfold Cl0
    rw [e1 1 (by omega), e1 2 (by omega), e1 4 (by omega), e1 5 (by omega), e1 (-1) (by omega), e1 (-2) (by omega), e1 (-3) (by omega), e1 (-4) (by omega)]
    refine ⟨h1, h2.rows fun i x y => e1 i (by omega), fun q x y => ?_, fun q x y => ?_, fun q x y => ?_, h6, h7, h8, h9, h10⟩
    · rw [e1 (1000 * (q + 1)) (by omega), e1 (1000 * (q + 1) + 10) (by omega)]; exact h3 q x y
    · rw [e1 (5000 + 10 * q) (by omega), e1 (5000 + 10 * q + 1) (by omega)]; exact h4 q x y
    · rw [e1 (5100 + q) (by omega)]; exact h5 q x y
  obtain ⟨rc, gt⟩ := rel0c (r := rd9 m9) cl rz (fun q x y => by unfold rd9; rw [if_t (by decide)]; exact v35 q x y) (fun q x y => by unfold rd9; rw [if_t (by decide)]; exact v38 q x y) (fun q x y => by unfold rd9; rw [if_t (by decide)]; exact v39 q x y)
  obtain ⟨mb, hmb⟩ : ∃ mb, mb = alo9 m9 8 300001 1 := ⟨_, rfl⟩
  have bm : ∀ i, i ≠ 8 → i ≠ -1 → i ≠ -2 → mb i = m9 i := fun i x y w => by rw [hmb, alo_row x y w]
  have fin : RelC 0 (rd9 m9) mb := by
    obtain ⟨⟨q1, q2, q3, q4, q5, q6, q7, q8⟩, qq, qg⟩ := rc
    have e16 : rd9 m9 16 0 = 0 := rz 16 0 (by omega) (by omega) (by omega) (by omega)
    have e2 : ∀ i, i ≠ 8 → i ≠ -1 → i ≠ -2 → mb i = (fun a b => if a = -2 then m4 a b else if a = -1 then m4 a b else m9 a b : Mem) i := fun i x y w => by
      rw [bm i x y w]
      funext b
      show m9 i b = (if i = -2 then m4 i b else if i = -1 then m4 i b else m9 i b)
      rw [if_f w, if_f y]
    have e3 : ∀ i, i < 8 ∨ 94 < i → mb (-1) i = (fun a b => if a = -2 then m4 a b else if a = -1 then m4 a b else m9 a b : Mem) (-1) i := fun i x => by
      show mb (-1) i = m4 (-1) i
      rw [hmb, alo_t (by decide), if_f (by omega), ez i (by omega)]
    refine ⟨⟨q1.fr ⟨e2 1 (by omega) (by omega) (by omega), e2 3 (by omega) (by omega) (by omega)⟩ rfl rfl rfl, q2.rows fun i x y => e2 i (by omega) (by omega) (by omega), fun t x y => (q3 t x y).fr x y (qg.rg.2.1 t x y) (fun i hi => e2 i (by omega) (by omega) (by omega)) (fun j _ _ => rfl), fun q x y => (q4 q x y).fr x y (fun i hi => e2 i (by omega) (by omega) (by omega)) (fun j _ _ => rfl), fun q x y => (q5 q x y).fr x y (fun i hi => e2 i (by omega) (by omega) (by omega)) rfl rfl (Int.le_refl _) (fun w _ _ => rfl) (fun w _ _ => Int.le_refl _), fun w x y => by omega, fun c x y => by omega, ⟨fun w x y i c d => ?_, fun w x y => by omega, fun t x y i c d => ?_⟩⟩, fun w x y => by omega, qg⟩
    · rw [e3 i (by omega)]; exact q8.1 w x y i c d
    · have g6 := qg.rg.2.1 t x y
      rw [e3 i (by omega)]; exact q8.2.2 t x y i c d
  have rpb : Rp (rd9 m9) mb := rp_fr rp fun i x y => bm i (by omega) (by omega) (by omega)
  have m84 : mb (-4) 0 = L := by rw [bm (-4) (by omega) (by omega) (by omega), em (-4) (by omega) (by omega) (by omega), h8.2, z4]
  obtain ⟨m', y1, y2, y3⟩ := law_loop (L := L) (by omega) (by omega) 512 fuel9 0 0 (rd9 m9) mb (by omega) (by omega) (by omega) (by omega) (by omega) m84 fin gt rpb
  have e16 : rd9 m9 16 0 = 0 := rz 16 0 (by omega) (by omega) (by omega) (by omega)
  have c0 : mb (-2) 0 = m9 (-2) 0 + 1 := by rw [hmb, (alo_c (by decide)).1]
  have c1 : mb (-2) 1 = m9 (-2) 1 + 1 := by rw [hmb, (alo_c (by decide)).2]
  have d0 : m9 (-2) 0 = m1 (-2) 0 := by rw [o9 (-2) (by omega) (by omega) (by omega)]
  have d1 : m9 (-2) 1 = m1 (-2) 1 := by rw [o9 (-2) (by omega) (by omega) (by omega)]
  rw [(alo_c (by decide)).1] at p7
  rw [(alo_c (by decide)).2] at p8
  rw [zc] at h9 h10
  have z10 : m4 (-1) 10 = 0 := h6 10 (by omega)
  have z8 : m9 (-1) 8 = 0 := by rw [ez 8 (by omega)]; exact h6 8 (by omega)
  refine ⟨m', ?_, by omega, by omega⟩
  unfold L_law L_law_0
  rw [chk_t (z0 1), st_e, a1, cal_e, chk_t z10, st_e, b1, cal_e, chk_t z8, st_e, ← hmb, y1]
  exact boolR_e (Or.inr rfl)
end LO
