/-! the class's player beside the reference's play: a part of the history -/
section SG
variable {pg hs : Rst} {c : Int → Int} {B E n : Int} {q r : Rst}
theorem ur_ur {r : Rst} {j : Nat} {i v w : Int} : ur (ur r j i v) j i w = ur r j i w := by
  funext a b
  by_cases cc : a = j ∧ b = i
  · rw [ur_e cc.1 cc.2, ur_e cc.1 cc.2]
  · have h : a ≠ j ∨ b ≠ i := by
      by_cases ca : a = j
      · exact Or.inr fun hb => cc ⟨ca, hb⟩
      · exact Or.inl ca
    rw [ur_n h, ur_n h, ur_n h]
theorem ur_same {r : Rst} {j : Nat} {i v : Int} (h : r j i = v) : ur r j i v = r := by
  funext a b
  by_cases cc : a = j ∧ b = i
  · rw [ur_e cc.1 cc.2, cc.1, cc.2, h]
  · have h2 : a ≠ j ∨ b ≠ i := by
      by_cases ca : a = j
      · exact Or.inr fun hb => cc ⟨ca, hb⟩
      · exact Or.inl ca
    rw [ur_n h2]
/-- an event that is no signal and is not heard -/
theorem Pe.skip (cs : Cs c hs) (hn : 0 ≤ n) (h4 : hs 0 n ≠ 4) (h : Pe pg hs c B E n (ur q 18 0 n) r) : Pe pg hs c B E (n + 1) (ur q 18 0 (n + 1)) r := by
  have e : ur (ur q 18 0 n) 18 0 (n + 1) = ur q 18 0 (n + 1) := ur_ur
  have e38 : ur q 18 0 (n + 1) 38 0 = ur q 18 0 n 38 0 := by rw [ur_n (by omega), ur_n (by omega)]
  unfold Pe at *
  rw [e38]
  rcases h with ⟨a, ⟨h1, h2, h3⟩ | ⟨p, h1, h2, h3⟩⟩ | h
  · have k1 := h1.heard cs hn h4
    have k2 := h2.heard
    rw [e] at k1 k2
    exact Or.inl ⟨a, Or.inl ⟨k1, k2, h3⟩⟩
  · have k1 := h2.heard cs hn h4
    have k2 := P34.heard h3 (v := n + 1)
    rw [e] at k1 k2
    exact Or.inl ⟨a, Or.inr ⟨p, by omega, k1, k2⟩⟩
  · exact Or.inr h
theorem Pe.norm (h : Pe pg hs c B E n q r) : Pe pg hs c B E n (ur q 18 0 n) r := by
  rcases h with ⟨a, h⟩ | h
  · have e18 : q 18 0 = n := by
      rcases h with ⟨h1, _⟩ | ⟨p, _, h1, _⟩
      · exact h1.1
      · exact h1.1
    rw [ur_same e18]
    exact Or.inl ⟨a, h⟩
  · refine Or.inr ⟨?_, h.2⟩
    rw [ur_n (by omega)]; exact h.1
end SG
