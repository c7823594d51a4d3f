/-! what a new workflow is, on both sides -/
section NF
variable {cd : Int → Int} {N : Int} {r r' : Rst} {m m' : Mem} {w n q k t a b x P s C R l A W v : Int}
theorem x_newFlow1 (hA : 1000 < A) (fr : ∀ i, A ≤ i → i ≤ A + 10006 → m (-1) i = 0) : ∃ m1, X10_init A W a b v (alo9 m A 20 11) = (chk9 (0 < A + 10000 ∧ m1 (-1) (A + 10000) = 0) <|
st9 (alo9 m1 (A + 10000) 17 11) fun m22 =>
cal (X7_init (A + 10000) v m22) fun _ m24 =>
st9 (upd9 m24 A 6 (A + 10000)) fun m26 =>
chk9 (0 < m26 A 4 ∧ 0 < m26 A 6) <|
st9 (upd9 m26 (m26 A 4) 0 (m26 A 6)) fun m29 =>
some ((0 : Int), m29)) ∧ (∀ i, i ≠ A → i ≠ A + 1 → i ≠ A + 2 → i ≠ -1 → i ≠ -2 → m1 i = m i) ∧ (∀ i, ¬ (A ≤ i ∧ i ≤ A + 2) → m1 (-1) i = m (-1) i) ∧ (m1 (-2) 0 = m (-2) 0 + 3 ∧ m1 (-2) 1 = m (-2) 1 + 22) ∧ (∀ j, m1 (A + 1) j = 0) ∧ (m1 A 0 = W ∧ m1 A 1 = a ∧ m1 A 2 = b ∧ m1 A 3 = A + 1 ∧ m1 A 4 = A + 2 ∧ m1 A 5 = 1 ∧ m1 A 7 = -1 ∧ m1 A 8 = -1 ∧ m1 A 9 = -1 ∧ m1 A 10 = 0) := by
  have f1 : alo9 m A 20 11 (-1) (A + 1) = 0 := by rw [alo_t (by omega), if_f (by omega)]; exact fr _ (by omega) (by omega)
  have f2 : upd9 (alo9 (alo9 m A 20 11) (A + 1) 100002 2) A 3 (A + 1) (-1) (A + 2) = 0 := by rw [upd9_n (by omega), alo_t (by omega), if_f (by omega), alo_t (by omega), if_f (by omega)]; exact fr _ (by omega) (by omega)
  unfold X10_init X10_init_0
  rw [chk_t (by omega), vl_e, chk_t ⟨by omega, f1⟩, st_e, st_e, vl_e, chk_t ⟨by omega, f2⟩, st_e, st_e, st_e, st_e, st_e, st_e, st_e, st_e, st_e, vl_e]
  obtain ⟨m1, hm1⟩ : ∃ m1, m1 = upd9 (upd9 (upd9 (upd9 (upd9 (upd9 (upd9 (upd9 (alo9 (upd9 (alo9 (alo9 m A 20 11) (A + 1) 100002 2) A 3 (A + 1)) (A + 2) 407009 9) A 4 (A + 2)) A 5 1) A 7 (-1)) A 8 (-1)) A 9 (-1)) A 0 W) A 1 a) A 2 b := ⟨_, rfl⟩
  rw [← hm1]
  have y0 : ∀ i, i ≠ A → i ≠ A + 1 → i ≠ A + 2 → i ≠ -1 → i ≠ -2 → m1 i = m i := fun i a b c d e => by
    rw [hm1, upd9_row a, upd9_row a, upd9_row a, upd9_row a, upd9_row a, upd9_row a, upd9_row a, upd9_row a, alo_row c d e, upd9_row a, alo_row b d e, alo_row a d e]
  have y1 : ∀ i, ¬ (A ≤ i ∧ i ≤ A + 2) → m1 (-1) i = m (-1) i := fun i c => by
    rw [hm1, upd9_n (by omega), upd9_n (by omega), upd9_n (by omega), upd9_n (by omega), upd9_n (by omega), upd9_n (by omega), upd9_n (by omega), upd9_n (by omega), alo_t (by omega), if_f (by omega), upd9_n (by omega), alo_t (by omega), if_f (by omega), alo_t (by omega), if_f (by omega)]
  have y2 : m1 (-2) 0 = m (-2) 0 + 3 ∧ m1 (-2) 1 = m (-2) 1 + 22 := by
    rw [hm1]
    refine ⟨?_, ?_⟩
    · rw [upd9_n (by omega), upd9_n (by omega), upd9_n (by omega), upd9_n (by omega), upd9_n (by omega), upd9_n (by omega), upd9_n (by omega), upd9_n (by omega), (alo_c (by omega)).1, upd9_n (by omega), (alo_c (by omega)).1, (alo_c (by omega)).1]; omega
    · rw [upd9_n (by omega), upd9_n (by omega), upd9_n (by omega), upd9_n (by omega), upd9_n (by omega), upd9_n (by omega), upd9_n (by omega), upd9_n (by omega), (alo_c (by omega)).2, upd9_n (by omega), (alo_c (by omega)).2, (alo_c (by omega)).2]; omega
  have y3 : ∀ j, m1 (A + 1) j = 0 := fun j => by
    rw [hm1, upd9_n (by omega), upd9_n (by omega), upd9_n (by omega), upd9_n (by omega), upd9_n (by omega), upd9_n (by omega), upd9_n (by omega), upd9_n (by omega), alo_row (by omega) (by omega) (by omega), upd9_n (by omega), alo_z]
  have y4 : m1 A 0 = W ∧ m1 A 1 = a ∧ m1 A 2 = b ∧ m1 A 3 = A + 1 ∧ m1 A 4 = A + 2 ∧ m1 A 5 = 1 ∧ m1 A 7 = -1 ∧ m1 A 8 = -1 ∧ m1 A 9 = -1 ∧ m1 A 10 = 0 := by
    rw [hm1]
    refine ⟨?_, ?_, ?_, ?_, ?_, ?_, ?_, ?_, ?_, ?_⟩
    · rw [upd9_n (by omega), upd9_n (by omega), upd9_e rfl rfl]
    · rw [upd9_n (by omega), upd9_e rfl rfl]
    · rw [upd9_e rfl rfl]
    · rw [upd9_n (by omega), upd9_n (by omega), upd9_n (by omega), upd9_n (by omega), upd9_n (by omega), upd9_n (by omega), upd9_n (by omega), upd9_n (by omega), alo_row (by omega) (by omega) (by omega), upd9_e rfl rfl]
    · rw [upd9_n (by omega), upd9_n (by omega), upd9_n (by omega), upd9_n (by omega), upd9_n (by omega), upd9_n (by omega), upd9_n (by omega), upd9_e rfl rfl]
    · rw [upd9_n (by omega), upd9_n (by omega), upd9_n (by omega), upd9_n (by omega), upd9_n (by omega), upd9_n (by omega), upd9_e rfl rfl]
    · rw [upd9_n (by omega), upd9_n (by omega), upd9_n (by omega), upd9_n (by omega), upd9_n (by omega), upd9_e rfl rfl]
    · rw [upd9_n (by omega), upd9_n (by omega), upd9_n (by omega), upd9_n (by omega), upd9_e rfl rfl]
    · rw [upd9_n (by omega), upd9_n (by omega), upd9_n (by omega), upd9_e rfl rfl]
    · rw [upd9_n (by omega), upd9_n (by omega), upd9_n (by omega), upd9_n (by omega), upd9_n (by omega), upd9_n (by omega), upd9_n (by omega), upd9_n (by omega), alo_row (by omega) (by omega) (by omega), upd9_n (by omega), alo_row (by omega) (by omega) (by omega), alo_z]
  exact ⟨m1, rfl, y0, y1, y2, y3, y4⟩
theorem x_newFlow (hA : 1000 < A) (fr : ∀ i, A ≤ i → i ≤ A + 10006 → m (-1) i = 0) : ∃ m', X10_init A W a b v (alo9 m A 20 11) = some (0, m') ∧ (∀ i, ¬ (A ≤ i ∧ i ≤ A + 10006) → i ≠ -1 → i ≠ -2 → m' i = m i) ∧ (∀ i, ¬ (A ≤ i ∧ i ≤ A + 10006) → m' (-1) i = m (-1) i) ∧ (m' (-2) 0 = m (-2) 0 + 10 ∧ m' (-2) 1 = m (-2) 1 + 437) ∧ (m' A 0 = W ∧ m' A 1 = a ∧ m' A 2 = b ∧ m' A 3 = A + 1 ∧ m' A 4 = A + 2 ∧ m' A 5 = 1 ∧ m' A 6 = A + 10000 ∧ m' A 7 = -1 ∧ m' A 8 = -1 ∧ m' A 9 = -1 ∧ m' A 10 = 0) ∧ ((∀ j, m' (A + 1) j = 0) ∧ m' (A + 2) 0 = A + 10000) ∧ (m' (A + 10000) 0 = A + 10000 + 1 ∧ m' (A + 10000) 1 = A + 10000 + 5 ∧ m' (A + 10000) 2 = A + 10000 + 6 ∧ m' (A + 10000) 3 = 0 ∧ m' (A + 10000) 4 = 0 ∧ m' (A + 10000) 5 = 0 ∧ m' (A + 10000) 6 = 0 ∧ m' (A + 10000) 7 = 20 ∧ m' (A + 10000) 8 = 0 ∧ m' (A + 10000) 9 = -1 ∧ m' (A + 10000) 10 = 0) ∧ (m' (A + 10000 + 1) 0 = A + 10000 + 2 ∧ m' (A + 10000 + 1) 1 = A + 10000 + 3 ∧ m' (A + 10000 + 1) 2 = A + 10000 + 4 ∧ m' (A + 10000 + 1) 3 = 1) ∧ (m' (A + 10000 + 2) 0 = 0 ∧ m' (A + 10000 + 3) 0 = v ∧ m' (A + 10000 + 4) 0 = 0) ∧ ∀ i, A + 10007 ≤ i → m' (-1) i = m (-1) i := by
  obtain ⟨m1, xe, y0, y1, y2, y3, y4⟩ := x_newFlow1 (W := W) (a := a) (b := b) (v := v) hA fr
  rw [xe]
  clear xe
  have fR : ∀ i, A + 10000 ≤ i → i ≤ A + 10000 + 6 → m1 (-1) i = 0 := fun i c d => by rw [y1 i (by omega)]; exact fr i (by omega) (by omega)
  obtain ⟨m2, z1, z2, z3, z4, z5, z6, z7, z8, z9⟩ := x_newRun (l := v) (by omega) fR
  rw [chk_t ⟨by omega, fR _ (by omega) (by omega)⟩, st_e, z1, cal_e, st_e]
  have w1 : m2 A = m1 A := z2 A (by omega) (by omega) (by omega)
  have w2 : m2 (A + 1) = m1 (A + 1) := z2 _ (by omega) (by omega) (by omega)
  have u4 : upd9 m2 A 6 (A + 10000) A 4 = A + 2 := by rw [upd9_n (by omega), w1]; exact y4.2.2.2.2.1
  have u6 : upd9 m2 A 6 (A + 10000) A 6 = A + 10000 := upd9_e rfl rfl
  rw [u4, u6, chk_t (by omega), st_e]
  have q0 : ∀ i, i ≠ A → i ≠ A + 2 → upd9 (upd9 m2 A 6 (A + 10000)) (A + 2) 0 (A + 10000) i = m2 i := fun i c d => by rw [upd9_row d, upd9_row c]
  refine ⟨_, rfl, fun i c d e => ?_, fun i c => ?_, ⟨?_, ?_⟩, ?_, ⟨fun j => ?_, ?_⟩, ?_, ?_, ⟨?_, ?_, ?_⟩, fun i c => ?_⟩
  · rw [q0 i (by omega) (by omega), z2 i (by omega) d e, y0 i (by omega) (by omega) (by omega) d e]
  · rw [q0 _ (by omega) (by omega), z3 i (by omega), y1 i (by omega)]
  · rw [q0 _ (by omega) (by omega), z4.1, y2.1]; omega
  · rw [q0 _ (by omega) (by omega), z4.2, y2.2]; omega
  · obtain ⟨e0, e1, e2, e3, e4, e5, e7, e8, e9, e10⟩ := y4
    rw [upd9_row (a := A) (by omega)]
    refine ⟨?_, ?_, ?_, ?_, ?_, ?_, ?_, ?_, ?_, ?_, ?_⟩
    · rw [upd9_n (by omega), w1, e0]
    · rw [upd9_n (by omega), w1, e1]
    · rw [upd9_n (by omega), w1, e2]
    · rw [upd9_n (by omega), w1, e3]
    · rw [upd9_n (by omega), w1, e4]
    · rw [upd9_n (by omega), w1, e5]
    · rw [upd9_e rfl rfl]
    · rw [upd9_n (by omega), w1, e7]
    · rw [upd9_n (by omega), w1, e8]
    · rw [upd9_n (by omega), w1, e9]
    · rw [upd9_n (by omega), w1, e10]
  · rw [q0 _ (by omega) (by omega), w2, y3]
  · rw [upd9_e rfl rfl]
  · rw [q0 _ (by omega) (by omega)]; exact z5
  · rw [q0 _ (by omega) (by omega)]; exact z6
  · rw [q0 _ (by omega) (by omega)]; exact z7
  · rw [q0 _ (by omega) (by omega)]; exact z8
  · rw [q0 _ (by omega) (by omega)]; exact z9
  · rw [q0 _ (by omega) (by omega), z3 i (by omega), y1 i (by omega)]
/-- what the reference's own fields of a new run are -/
def NRun (r : Rst) (w v : Int) (r' : Rst) : Prop := r' 12 w = r 12 w + 1 ∧ r' 17 (9 * w + r 12 w) = 20 ∧ r' 18 (9 * w + r 12 w) = 1 ∧ (r' 14 w = 0 ∧ r' 15 w = -1 ∧ r' 22 w = 0 ∧ r' 30 w = 0 ∧ r' 32 w = 0) ∧ (r' 19 (80 * (9 * w + r 12 w)) = 0 ∧ r' 20 (80 * (9 * w + r 12 w)) = v ∧ r' 21 (80 * (9 * w + r 12 w)) = 0) ∧ ∀ (j : Nat) i, ¬ ((j = 12 ∨ j = 14 ∨ j = 15 ∨ j = 22 ∨ j = 30 ∨ j = 32) ∧ i = w ∨ (j = 17 ∨ j = 18) ∧ i = 9 * w + r 12 w ∨ (19 ≤ j ∧ j ≤ 21) ∧ i = 80 * (9 * w + r 12 w)) → r' j i = r j i
theorem g_beginsRun (w0 : 0 ≤ w) (w1 : w < 10) (h0 : 0 ≤ r 12 w) (h1 : r 12 w ≤ 8) (e18 : r 18 (9 * w + r 12 w) = 0) : ∃ r', G_beginsRun w v r = some (0, r') ∧ NRun r w v r' := by
  unfold G_beginsRun G_beginsRun_0
  have a12 : ur r 12 w (r 12 w + 1) 12 w = r 12 w + 1 := ur_e rfl rfl
  have ro : rw9 (ur r 12 w (r 12 w + 1)) w = 9 * w + r 12 w := by unfold rw9; rw [a12]; omega
  repeat rw [chk_t (by omega)]
  rw [stg_e, g_rowOfRun w0 w1 (by omega) (by omega), cag_e, ro]
  repeat rw [chk_t (by omega)]
  rw [stg_e]
  repeat rw [chk_t (by omega)]
  rw [stg_e]
  repeat rw [chk_t (by omega)]
  rw [stg_e]
  repeat rw [chk_t (by omega)]
  rw [stg_e]
  repeat rw [chk_t (by omega)]
  rw [stg_e]
  repeat rw [chk_t (by omega)]
  rw [stg_e]
  obtain ⟨r1, hr1⟩ : ∃ r1, r1 = ur (ur (ur (ur (ur (ur (ur r 12 w (r 12 w + 1)) 17 (9 * w + r 12 w) 20) 14 w 0) 15 w (-1)) 22 w 0) 30 w 0) 32 w 0 := ⟨_, rfl⟩
  rw [← hr1]
  have b12 : r1 12 w = r 12 w + 1 := by rw [hr1]; simp (disch := omega) only [ur_n, ur_e]
  have bro : rw9 r1 w = 9 * w + r 12 w := by unfold rw9; rw [b12]; omega
  have b18 : r1 18 (9 * w + r 12 w) = 0 := by rw [hr1]; simp (disch := omega) only [ur_n]; exact e18
  have b17 : r1 17 (9 * w + r 12 w) = 20 := by rw [hr1]; simp (disch := omega) only [ur_n, ur_e]
  have bs : r1 14 w = 0 ∧ r1 15 w = -1 ∧ r1 22 w = 0 ∧ r1 30 w = 0 ∧ r1 32 w = 0 := by
    rw [hr1]
    refine ⟨?_, ?_, ?_, ?_, ?_⟩
    · simp (disch := omega) only [ur_n, ur_e]
    · simp (disch := omega) only [ur_n, ur_e]
    · simp (disch := omega) only [ur_n, ur_e]
    · simp (disch := omega) only [ur_n, ur_e]
    · exact ur_e rfl rfl
  have bo : ∀ (j : Nat) i, ¬ ((j = 12 ∨ j = 14 ∨ j = 15 ∨ j = 22 ∨ j = 30 ∨ j = 32) ∧ i = w ∨ j = 17 ∧ i = 9 * w + r 12 w) → r1 j i = r j i := fun j i hj => by
    rw [hr1, ur_n (by omega), ur_n (by omega), ur_n (by omega), ur_n (by omega), ur_n (by omega), ur_n (by omega), ur_n (by omega)]
  clear hr1
  rw [g_writes w0 w1 (by omega) (by omega) (by rw [bro]; omega) (by rw [bro]; omega), cag_e]
  unfold wr
  rw [bro, b18, Int.add_zero]
  refine ⟨_, rfl, ?_, ?_, ?_, ⟨?_, ?_, ?_, ?_, ?_⟩, ⟨?_, ?_, ?_⟩, fun j i hj => ?_⟩
  · simp (disch := omega) only [ur_n]; exact b12
  · simp (disch := omega) only [ur_n]; exact b17
  · rw [ur_e rfl rfl]; omega
  · simp (disch := omega) only [ur_n]; exact bs.1
  · simp (disch := omega) only [ur_n]; exact bs.2.1
  · simp (disch := omega) only [ur_n]; exact bs.2.2.1
  · simp (disch := omega) only [ur_n]; exact bs.2.2.2.1
  · simp (disch := omega) only [ur_n]; exact bs.2.2.2.2
  · rw [ur_n (by omega), ur_n (by omega), ur_n (by omega), ur_e rfl rfl]
  · rw [ur_n (by omega), ur_n (by omega), ur_e rfl rfl]
  · rw [ur_n (by omega), ur_e rfl rfl]
  · rw [ur_n (by omega), ur_n (by omega), ur_n (by omega), ur_n (by omega), bo j i (by omega)]
end NF
