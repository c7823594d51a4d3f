/-! p35's law: every step that it tells is one -/
section PCK
variable {a b k y : Int} {m : Mem}
theorem st_0 (h : (0 ≤ a ∧ a ≤ 5) ∧ 0 ≤ b ∧ b ≤ 1) : stOk 0 a b := ⟨by decide, h⟩
theorem st_1 (h : (1 ≤ a ∧ a ≤ 50) ∧ 0 ≤ b ∧ b ≤ 0) : stOk 1 a b := ⟨by decide, h⟩
theorem st_2 (h : (0 ≤ a ∧ a ≤ 2) ∧ 0 ≤ b ∧ b ≤ 50) : stOk 2 a b := ⟨by decide, h⟩
theorem st_3 (h : (0 ≤ a ∧ a ≤ 2) ∧ 0 ≤ b ∧ b ≤ 2) : stOk 3 a b := ⟨by decide, h⟩
theorem st_4 (h : (1 ≤ a ∧ a ≤ 3) ∧ 0 ≤ b ∧ b ≤ 0) : stOk 4 a b := ⟨by decide, h⟩
theorem st_5 (h : (-99 ≤ a ∧ a ≤ 99) ∧ 1 ≤ b ∧ b ≤ 11) : stOk 5 a b := ⟨by decide, h⟩
theorem st_6 (h : (-99 ≤ a ∧ a ≤ 99) ∧ 1 ≤ b ∧ b ≤ 11) : stOk 6 a b := ⟨by decide, h⟩
theorem st_7 (h : (-99 ≤ a ∧ a ≤ 99) ∧ 0 ≤ b ∧ b ≤ 0) : stOk 7 a b := ⟨by decide, h⟩
theorem st_8 (h : (-99 ≤ a ∧ a ≤ 99) ∧ 0 ≤ b ∧ b ≤ 0) : stOk 8 a b := ⟨by decide, h⟩
theorem st_9 (h : (0 ≤ a ∧ a ≤ 5) ∧ 0 ≤ b ∧ b ≤ 1) : stOk 9 a b := ⟨by decide, h⟩
theorem st_10 (h : (0 ≤ a ∧ a ≤ 3) ∧ 1 ≤ b ∧ b ≤ 11) : stOk 10 a b := ⟨by decide, h⟩
theorem st_11 (h : (1 ≤ a ∧ a ≤ 11) ∧ 0 ≤ b ∧ b ≤ 0) : stOk 11 a b := ⟨by decide, h⟩
theorem st_12 (h : (0 ≤ a ∧ a ≤ 1) ∧ -99 ≤ b ∧ b ≤ 100) : stOk 12 a b := ⟨by decide, h⟩
theorem st_13 (h : (1 ≤ a ∧ a ≤ 9) ∧ 0 ≤ b ∧ b ≤ 0) : stOk 13 a b := ⟨by decide, h⟩
theorem st_14 (h : (0 ≤ a ∧ a ≤ 0) ∧ 0 ≤ b ∧ b ≤ 0) : stOk 14 a b := ⟨by decide, h⟩
theorem st_15 (h : (0 ≤ a ∧ a ≤ 0) ∧ 0 ≤ b ∧ b ≤ 0) : stOk 15 a b := ⟨by decide, h⟩
theorem l_packed (y0 : 0 ≤ y) (y1 : y < 2147483648) (k0 : 0 ≤ k) (k1 : k ≤ 15) : ∃ u, L_packed y k m = some (u, m) ∧ 0 ≤ u ∧ stOk k (u / 100) (u % 100) := by
  have z5 := shr_nn (s := 5) y0 y1
  have z6 := shr_nn (s := 6) y0 y1
  have z8 := shr_nn (s := 8) y0 y1
  have z9 := shr_nn (s := 9) y0 y1
  have m5 := and_nn (x := Int32.ofInt ((Int32.ofInt y >>> (Int32.ofInt 5 &&& 31)).toInt)) (k := Int32.ofInt 1) (by decide)
  have m8 := and_nn (x := Int32.ofInt ((Int32.ofInt y >>> (Int32.ofInt 8 &&& 31)).toInt)) (k := Int32.ofInt 1) (by decide)
  have m9 := and_nn (x := Int32.ofInt ((Int32.ofInt y >>> (Int32.ofInt 9 &&& 31)).toInt)) (k := Int32.ofInt 1) (by decide)
  rw [show (Int32.ofInt 1).toInt = 1 from by decide] at m5 m8 m9
  unfold L_packed L_packed_0 L_packed_10
  generalize (Int32.ofInt ((Int32.ofInt y >>> (Int32.ofInt 5 &&& 31)).toInt) &&& Int32.ofInt 1).toInt = n5 at *
  generalize (Int32.ofInt ((Int32.ofInt y >>> (Int32.ofInt 8 &&& 31)).toInt) &&& Int32.ofInt 1).toInt = n8 at *
  generalize (Int32.ofInt ((Int32.ofInt y >>> (Int32.ofInt 9 &&& 31)).toInt) &&& Int32.ofInt 1).toInt = n9 at *
  generalize (Int32.ofInt y >>> (Int32.ofInt 5 &&& 31)).toInt = s5 at *
  generalize (Int32.ofInt y >>> (Int32.ofInt 6 &&& 31)).toInt = s6 at *
  generalize (Int32.ofInt y >>> (Int32.ofInt 8 &&& 31)).toInt = s8 at *
  generalize (Int32.ofInt y >>> (Int32.ofInt 9 &&& 31)).toInt = s9 at *
  rcases (show k = 0 ∨ k = 1 ∨ k = 2 ∨ k = 3 ∨ k = 4 ∨ k = 5 ∨ k = 6 ∨ k = 7 ∨ k = 8 ∨ k = 9 ∨ k = 10 ∨ k = 11 ∨ k = 12 ∨ k = 13 ∨ k = 14 ∨ k = 15 by omega) with rfl | rfl | rfl | rfl | rfl | rfl | rfl | rfl | rfl | rfl | rfl | rfl | rfl | rfl | rfl | rfl
  · rw [if_t rfl, chk_t z5, chk_t (by omega), chk_t (by omega)]
    exact ⟨_, rfl, by omega, st_0 (by omega)⟩
  · rw [if_f (by decide), if_f (by decide), if_t rfl, chk_t z5, chk_t (by omega), chk_t (by omega)]
    exact ⟨_, rfl, by omega, st_1 (by omega)⟩
  · have mm : 0 ≤ n8 * (1 + s9 % 9) ∧ n8 * (1 + s9 % 9) ≤ 9 := by
      rcases (show n8 = 0 ∨ n8 = 1 by omega) with rfl | rfl
      · rw [Int.zero_mul]; omega
      · rw [Int.one_mul]; omega
    rw [if_f (by decide), if_f (by decide), if_f (by decide), if_t rfl, chk_t z5, chk_t (by omega), chk_t z9, chk_t (by omega)]
    generalize n8 * (1 + s9 % 9) = w at *
    rw [chk_t (by omega), chk_t (by omega)]
    exact ⟨_, rfl, by omega, st_2 (by omega)⟩
  · rw [if_f (by decide), if_f (by decide), if_f (by decide), if_f (by decide), if_t rfl, chk_t z5, chk_t (by omega), chk_t z8, chk_t (by omega)]
    exact ⟨_, rfl, by omega, st_3 (by omega)⟩
  · rw [if_f (by decide), if_f (by decide), if_f (by decide), if_f (by decide), if_f (by decide), if_t rfl]
    exact ⟨_, rfl, by omega, st_4 (by omega)⟩
  · rw [if_f (by decide), if_f (by decide), if_f (by decide), if_f (by decide), if_f (by decide), if_f (by decide), if_f (by decide), if_f (by decide), if_f (by decide), if_f (by decide), if_f (by decide), chk_t z5, chk_t (by omega), chk_t (by omega)]
    exact ⟨_, rfl, by omega, st_5 (by omega)⟩
  · rw [if_f (by decide), if_f (by decide), if_f (by decide), if_f (by decide), if_f (by decide), if_f (by decide), if_f (by decide), if_f (by decide), if_f (by decide), if_f (by decide), if_f (by decide), chk_t z5, chk_t (by omega), chk_t (by omega)]
    exact ⟨_, rfl, by omega, st_6 (by omega)⟩
  · rw [if_f (by decide), if_f (by decide), if_f (by decide), if_f (by decide), if_f (by decide), if_f (by decide), if_f (by decide), if_f (by decide), if_f (by decide), if_f (by decide), if_t (by decide), if_f (by decide), chk_t z5, chk_t (by omega)]
    exact ⟨_, rfl, by omega, st_7 (by omega)⟩
  · rw [if_f (by decide), if_f (by decide), if_f (by decide), if_f (by decide), if_f (by decide), if_f (by decide), if_f (by decide), if_f (by decide), if_f (by decide), if_f (by decide), if_t (by decide), if_f (by decide), chk_t z5, chk_t (by omega)]
    exact ⟨_, rfl, by omega, st_8 (by omega)⟩
  · rw [if_f (by decide), if_t rfl, chk_t z5, chk_t (by omega), chk_t (by omega)]
    exact ⟨_, rfl, by omega, st_9 (by omega)⟩
  · rw [if_f (by decide), if_f (by decide), if_f (by decide), if_f (by decide), if_f (by decide), if_f (by decide), if_t rfl, chk_t z5, chk_t (by omega), chk_t (by omega)]
    exact ⟨_, rfl, by omega, st_10 (by omega)⟩
  · rw [if_f (by decide), if_f (by decide), if_f (by decide), if_f (by decide), if_f (by decide), if_f (by decide), if_f (by decide), if_t rfl, chk_t z5, chk_t (by omega), chk_t (by omega)]
    exact ⟨_, rfl, by omega, st_11 (by omega)⟩
  · rw [if_f (by decide), if_f (by decide), if_f (by decide), if_f (by decide), if_f (by decide), if_f (by decide), if_f (by decide), if_f (by decide), if_t rfl, chk_t (by omega), chk_t z6, chk_t (by omega)]
    exact ⟨_, rfl, by omega, st_12 (by omega)⟩
  · rw [if_f (by decide), if_f (by decide), if_f (by decide), if_f (by decide), if_f (by decide), if_f (by decide), if_f (by decide), if_f (by decide), if_f (by decide), if_t rfl, chk_t z5, chk_t (by omega), chk_t (by omega)]
    exact ⟨_, rfl, by omega, st_13 (by omega)⟩
  · rw [if_f (by decide), if_f (by decide), if_f (by decide), if_f (by decide), if_f (by decide), if_f (by decide), if_f (by decide), if_f (by decide), if_f (by decide), if_f (by decide), if_t (by decide), if_t (by decide)]
    exact ⟨_, rfl, by omega, st_14 (by omega)⟩
  · rw [if_f (by decide), if_f (by decide), if_f (by decide), if_f (by decide), if_f (by decide), if_f (by decide), if_f (by decide), if_f (by decide), if_f (by decide), if_f (by decide), if_t (by decide), if_t (by decide)]
    exact ⟨_, rfl, by omega, st_15 (by omega)⟩
end PCK
