/-! the reference's play within its rows: marks and steps -/
theorem mk_bit0 (a : Fin 16) (b : Fin 4) : (Int32.ofInt ((Int32.ofInt (a.val : Int) >>> (Int32.ofInt (b.val : Int) &&& 31)).toInt) &&& Int32.ofInt 1).toInt = (if a.val.testBit b.val then 1 else 0) ∧ (Int32.ofInt (a.val : Int) ||| Int32.ofInt ((Int32.ofInt 1 <<< (Int32.ofInt (b.val : Int) &&& 31)).toInt)).toInt = ((a.val ||| (1 <<< b.val) : Nat) : Int) ∧ (a.val ||| (1 <<< b.val) : Nat) < 16 ∧ ∀ c : Fin 4, (a.val ||| (1 <<< b.val)).testBit c.val = (a.val.testBit c.val || decide (c = b)) := by
  revert a b
  decide +kernel
/-- whether a mark is among the marks -/
def mkd (v i : Int) : Bool := v.toNat.testBit i.toNat
theorem mk_bit {v i : Int} (h0 : 0 ≤ v) (h1 : v < 16) (h2 : 0 ≤ i) (h3 : i < 4) : (Int32.ofInt ((Int32.ofInt v >>> (Int32.ofInt i &&& 31)).toInt) &&& Int32.ofInt 1).toInt = (if mkd v i = true then 1 else 0) ∧ 0 ≤ (Int32.ofInt v ||| Int32.ofInt ((Int32.ofInt 1 <<< (Int32.ofInt i &&& 31)).toInt)).toInt ∧ (Int32.ofInt v ||| Int32.ofInt ((Int32.ofInt 1 <<< (Int32.ofInt i &&& 31)).toInt)).toInt < 16 ∧ ∀ c : Int, 0 ≤ c → c < 4 → mkd (Int32.ofInt v ||| Int32.ofInt ((Int32.ofInt 1 <<< (Int32.ofInt i &&& 31)).toInt)).toInt c = (mkd v c || decide (c = i)) := by
  obtain ⟨a, rfl⟩ := Int.eq_ofNat_of_zero_le h0
  obtain ⟨b, rfl⟩ := Int.eq_ofNat_of_zero_le h2
  obtain ⟨e1, e2, e3, e4⟩ := mk_bit0 ⟨a, by omega⟩ ⟨b, by omega⟩
  simp only at e1 e2 e3 e4
  rw [e1, e2]
  refine ⟨rfl, by omega, by omega, fun c hc hc2 => ?_⟩
  obtain ⟨d, rfl⟩ := Int.eq_ofNat_of_zero_le hc
  have e := e4 ⟨d, by omega⟩
  unfold mkd
  simp only [Int.toNat_natCast]
  rw [e]
  congr 1
  simp only [Fin.mk.injEq, Int.natCast_inj]
