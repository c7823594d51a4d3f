/-! masks and shifts of what is not negative -/
theorem and_nn {x k : Int32} (hk : k.toBitVec.msb = false) : 0 ≤ (x &&& k).toInt ∧ (x &&& k).toInt ≤ k.toInt := by
  have e : (x &&& k).toInt = ((x.toBitVec.toNat &&& k.toBitVec.toNat : Nat) : Int) := by
    rw [← Int32.toInt_toBitVec, Int32.toBitVec_and, BitVec.toInt_eq_toNat_of_msb (by rw [BitVec.msb_and, hk, Bool.and_false]), BitVec.toNat_and]
  have e2 : k.toInt = (k.toBitVec.toNat : Int) := by
    rw [← Int32.toInt_toBitVec, BitVec.toInt_eq_toNat_of_msb hk]
  rw [e, e2]
  have := Nat.and_le_right (n := x.toBitVec.toNat) (m := k.toBitVec.toNat)
  omega
theorem shr_nn {a s : Int} (h0 : 0 ≤ a) (h1 : a < 2147483648) : 0 ≤ (Int32.ofInt a >>> (Int32.ofInt s &&& 31)).toInt := by
  have e : (Int32.ofInt a).toInt = a := i32_of ⟨by omega, by omega⟩
  rw [← Int32.toInt_toBitVec, Int32.toBitVec_shiftRight, BitVec.sshiftRight_eq', BitVec.toInt_sshiftRight, Int32.toInt_toBitVec, e]
  exact Int.le_shiftRight_of_nonneg h0
