/-! the decisions of one call, one after another -/
section EL
variable {N N' : Int} {uf : Int → Int} {r r' z r0 : Rst} {m m' m0 : Mem} {w n k x y q s b c a v row I A R o t l u f W E M p nu pa : Int}
theorem g_makesChild0 (w0 : 0 ≤ w) (w1 : w < 10) (n0 : 0 ≤ r 32 w) (n1 : r 32 w < 80) (k0 : 0 ≤ k) (k1 : k < 5200) (h16 : r 16 0 = 10) : G_makesChild w k r = some (0, umR w (r 74 k) r) := by
  unfold G_makesChild G_makesChild_0 G_makesChild_71 umR
  repeat rw [chk_t (by omega)]
  rw [stg_e, if_t (show ur r 34 (80 * w + r 32 w) (r 74 k) 16 0 = 10 by rw [ur_n (by omega)]; exact h16)]
  repeat rw [chk_t (by omega)]
  rw [stg_e]
  have e : ur (ur r 34 (80 * w + r 32 w) (r 74 k)) 33 (80 * w + r 32 w) (-1) 32 w = r 32 w := by rw [ur_n (by omega), ur_n (by omega)]
  rw [e]
  repeat rw [chk_t (by omega)]
  rw [stg_e]
theorem g_makesChild1 (w0 : 0 ≤ w) (hW : W = r 16 0) (wW : w < W) (W1 : W < 10) (n0 : 0 ≤ r 32 w) (n1 : r 32 w < 80) (k0 : 0 ≤ k) (k1 : k < 5200) (e12 : r 12 W = 0) (e18 : r 18 (9 * W) = 0) : ∃ z, G_makesChild w k r = some (0, ur (ur z 33 (80 * w + r 32 w) W) 32 w (r 32 w + 1)) ∧ NFlow (ur r 34 (80 * w + r 32 w) (r 74 k)) W (r 73 k) (r 8 w) w (r 32 w) (r 12 w) (r 75 k) z := by
  have ej : ∀ (j : Nat) i, j ≠ 34 → ur r 34 (80 * w + r 32 w) (r 74 k) j i = r j i := fun j i hj => ur_n (by omega)
  obtain ⟨z, y1, y2⟩ := g_makesFlow (r := ur r 34 (80 * w + r 32 w) (r 74 k)) (W := W) (a := r 73 k) (b := r 8 w) (pa := w) (nu := r 32 w) (v := r 75 k) (by rw [ej _ _ (by omega)]; exact hW) (by omega) W1 (by rw [ej _ _ (by omega)]; exact e12) (by rw [ej _ _ (by omega)]; exact e18) (Or.inr ⟨w0, by omega, by omega⟩)
  rw [if_f (show ¬ w = -1 by omega), ej 12 w (by omega)] at y2
  refine ⟨z, ?_, y2⟩
  unfold G_makesChild G_makesChild_0 G_makesChild_71
  repeat rw [chk_t (by omega)]
  rw [stg_e, ej 16 0 (by omega), if_f (by omega), ej 73 k (by omega), ej 8 w (by omega), ej 32 w (by omega), ej 75 k (by omega), y1, cag_e]
  repeat rw [chk_t (by omega)]
  have e32 : ur z 33 (80 * w + r 32 w) W 32 w = r 32 w := by rw [ur_n (by omega), y2.2.2.2.2.2.2.2 32 w (by omega), ej 32 w (by omega)]
  rw [stg_e, e32]
  repeat rw [chk_t (by omega)]
  rw [stg_e]
theorem ov_made (w0 : 0 ≤ w) (wW : w < W) (W1 : W < 10) (h1 : 1 ≤ r 12 w) (h9 : r 12 w ≤ 9) (n0 : 0 ≤ r 32 w) (n1 : r 32 w < 80) (nf : NFlow (ur r 34 (80 * w + r 32 w) y) W a b w (r 32 w) p v z) : NFlow (umR w y (ur r 18 (rw9 r w) c)) W a b w (r 32 w) p v (ur (ur (ur (ur z 33 (80 * w + r 32 w) W) 32 w (r 32 w + 1)) 18 (rw9 r w) c) 33 (80 * w + r 32 w) (-1)) ∧ ur (ur (ur (ur (ur z 33 (80 * w + r 32 w) W) 32 w (r 32 w + 1)) 18 (rw9 r w) c) 33 (80 * w + r 32 w) (-1)) 33 (80 * w + r 32 w) W = ur (ur (ur z 33 (80 * w + r 32 w) W) 32 w (r 32 w + 1)) 18 (rw9 r w) c := by
  have ew : rw9 r w = 9 * w + r 12 w - 1 := rfl
  obtain ⟨n1', ⟨a1, a2, a3, a4, a5⟩, n3, n4, n5, n6, n7, n8⟩ := nf
  obtain ⟨zz, hzz⟩ : ∃ zz, zz = ur (ur (ur (ur z 33 (80 * w + r 32 w) W) 32 w (r 32 w + 1)) 18 (rw9 r w) c) 33 (80 * w + r 32 w) (-1) := ⟨_, rfl⟩
  have eo : ∀ (j : Nat) i, ¬ (j = 33 ∧ i = 80 * w + r 32 w) → ¬ (j = 32 ∧ i = w) → ¬ (j = 18 ∧ i = rw9 r w) → zz j i = z j i := fun j i d e f => by rw [hzz, ur_n (by omega), ur_n (by omega), ur_n (by omega), ur_n (by omega)]
  have e33 : zz 33 (80 * w + r 32 w) = -1 := by rw [hzz, ur_e rfl rfl]
  have e32 : zz 32 w = r 32 w + 1 := by rw [hzz, ur_n (by omega), ur_n (by omega), ur_e rfl rfl]
  have e18 : zz 18 (rw9 r w) = c := by rw [hzz, ur_n (by omega), ur_e rfl rfl]
  refine ⟨?_, ?_⟩
  · rw [← hzz]
    clear hzz
    refine ⟨by rw [eo _ _ (by omega) (by omega) (by omega)]; exact n1', ⟨?_, ?_, ?_, ?_, ?_⟩, ?_, ?_, ?_, ⟨?_, ?_, ?_, ?_, ?_⟩, ⟨?_, ?_, ?_⟩, fun j i hj => ?_⟩
    · rw [eo _ _ (by omega) (by omega) (by omega)]; exact a1
    · rw [eo _ _ (by omega) (by omega) (by omega)]; exact a2
    · rw [eo _ _ (by omega) (by omega) (by omega)]; exact a3
    · rw [eo _ _ (by omega) (by omega) (by omega)]; exact a4
    · rw [eo _ _ (by omega) (by omega) (by omega)]; exact a5
    · rw [eo _ _ (by omega) (by omega) (by omega)]; exact n3
    · rw [eo _ _ (by omega) (by omega) (by omega)]; exact n4
    · rw [eo _ _ (by omega) (by omega) (by omega)]; exact n5
    · rw [eo _ _ (by omega) (by omega) (by omega)]; exact n6.1
    · rw [eo _ _ (by omega) (by omega) (by omega)]; exact n6.2.1
    · rw [eo _ _ (by omega) (by omega) (by omega)]; exact n6.2.2.1
    · rw [eo _ _ (by omega) (by omega) (by omega)]; exact n6.2.2.2.1
    · rw [eo _ _ (by omega) (by omega) (by omega)]; exact n6.2.2.2.2
    · rw [eo _ _ (by omega) (by omega) (by omega)]; exact n7.1
    · rw [eo _ _ (by omega) (by omega) (by omega)]; exact n7.2.1
    · rw [eo _ _ (by omega) (by omega) (by omega)]; exact n7.2.2
    · have v32 : ur r 18 (rw9 r w) c 32 w = r 32 w := ur_n (by omega)
      obtain ⟨u1, u2, u3⟩ := um_v (w := w) (f := y) (r := ur r 18 (rw9 r w) c)
      rw [v32] at u1 u2 u3
      by_cases c33 : j = 33 ∧ i = 80 * w + r 32 w
      · rw [c33.1, c33.2, e33, u2]
      · by_cases c32 : j = 32 ∧ i = w
        · rw [c32.1, c32.2, e32, u1]
        · by_cases c18 : j = 18 ∧ i = rw9 r w
          · rw [c18.1, c18.2, e18, um_j (by omega), ur_e rfl rfl]
          · rw [eo j i c33 c32 c18, n8 j i hj]
            by_cases c34 : j = 34 ∧ i = 80 * w + r 32 w
            · rw [c34.1, c34.2, u3, ur_e rfl rfl]
            · rw [ur_n (by omega), um_o (by rw [v32]; omega), ur_n (by omega)]
  · rw [ur_twice]
    funext j i
    by_cases c33 : j = 33 ∧ i = 80 * w + r 32 w
    · rw [ur_e c33.1 c33.2, ur_n (by omega), ur_n (by omega), ur_e c33.1 c33.2]
    · rw [ur_n (by omega)]
/-- what is so ahead of the decision at a place; a decision as it must be -/
def Lp (N : Int) (w E : Int) (r0 : Rst) (m0 : Mem) (k : Int) (r : Rst) (m : Mem) : Prop := ∃ u : Int, RelK N (fun w2 => if w2 = w then u else 0) (ur r 18 (rw9 r w) (E + k)) m ∧ (∀ j : Nat, j < 2 ∨ 40 ≤ j → r j = r0 j) ∧ (0 ≤ r 29 0 ∧ r 29 0 ≤ r0 29 0 + k) ∧ (r0 16 0 ≤ r 16 0 ∧ r 16 0 ≤ 10) ∧ (r 12 w = r0 12 w ∧ r 14 w = r0 14 w ∧ r 17 (rw9 r w) = 20 ∧ r 18 (rw9 r w) = r0 18 (rw9 r0 w) ∧ r 15 w = r0 15 w) ∧ (∀ (j : Nat) i, 19 ≤ j → j ≤ 21 → 0 ≤ i → i < 80 → r j (80 * rw9 r w + i) = r0 j (80 * rw9 r0 w + i)) ∧ (r 22 w = r0 22 w + cntP pA (r0 72) k.toNat ∧ r 30 w = r0 30 w + cntP pT (r0 72) k.toNat ∧ r 32 w = r0 32 w + cntP pM (r0 72) k.toNat) ∧ (0 ≤ u ∧ (0 < u → r 16 0 = 10) ∧ u ≤ r 32 w - r0 32 w ∧ ∀ n, r0 32 w ≤ n → n < r 32 w → (r 33 (80 * w + n) = -1 ↔ r 32 w - u ≤ n)) ∧ GT r ∧ (∀ i, (10 ≤ i ∧ i < 1000) ∨ i = -3 ∨ i = -4 → m i = m0 i) ∧ m (-2) 0 ≤ m0 (-2) 0 + k + 10 * (r 16 0 - r0 16 0) ∧ m (-2) 1 ≤ m0 (-2) 1 + 10 * k + 700 * (r 16 0 - r0 16 0)
def Kq (r0 : Rst) (w E k : Int) : Prop := (8 ≤ r0 72 k ∧ r0 72 k ≤ 15) ∧ (r0 72 k = 9 → 0 ≤ r0 73 k ∧ r0 73 k < r0 22 w + cntP pA (r0 72) k.toNat) ∧ (r0 72 k = 11 → 0 ≤ r0 73 k ∧ r0 73 k < r0 30 w + cntP pT (r0 72) k.toNat) ∧ (r0 72 k = 14 → 0 ≤ r0 73 k ∧ r0 73 k ≤ 1) ∧ (r0 72 k = 12 → (0 ≤ r0 73 k ∧ r0 73 k ≤ 2) ∧ r0 75 k = r0 14 w) ∧ (r0 72 k = 10 → -100 ≤ r0 73 k ∧ r0 73 k ≤ 100) ∧ (r0 19 (80 * rw9 r0 w + (E + k)) = r0 72 k ∧ r0 20 (80 * rw9 r0 w + (E + k)) = r0 73 k ∧ r0 21 (80 * rw9 r0 w + (E + k)) = r0 74 k) ∧ (1 ≤ E ∧ 0 ≤ k ∧ E + k < 80) ∧ 7 ≤ r0 19 (80 * rw9 r0 w + (E + k - 1))
theorem cnt_s {g : Int → Int} {pp : Int → Bool} (k0 : 0 ≤ k) : cntP pp g (k + 1).toNat = cntP pp g k.toNat + if pp (g k) = true then 1 else 0 := by
  rw [show (k + 1).toNat = k.toNat + 1 by omega, cntP, show ((k.toNat : Nat) : Int) = k by omega]
theorem Lp.next {d : Int} (h : Lp N w E r0 m0 k r m) (k0 : 0 ≤ k) {u' : Int} (hk9 : RelK N (fun w2 => if w2 = w then u' else 0) (ur r' 18 (rw9 r w) (E + k + 1)) m') (e40 : ∀ j : Nat, j < 2 ∨ 40 ≤ j → r' j = r j) (e29 : 0 ≤ r' 29 0 ∧ r' 29 0 ≤ r 29 0 + 1) (e16 : r' 16 0 = r 16 0 + d ∧ 0 ≤ d ∧ r' 16 0 ≤ 10) (e12 : r' 12 w = r 12 w ∧ r' 14 w = r 14 w ∧ r' 17 (rw9 r w) = r 17 (rw9 r w) ∧ r' 18 (rw9 r w) = r 18 (rw9 r w) ∧ r' 15 w = r 15 w) (e19 : ∀ (j : Nat) i, 19 ≤ j → j ≤ 21 → 0 ≤ i → i < 80 → r' j (80 * rw9 r w + i) = r j (80 * rw9 r w + i)) (e22 : r' 22 w = r 22 w + (if pA (r0 72 k) = true then 1 else 0) ∧ r' 30 w = r 30 w + (if pT (r0 72 k) = true then 1 else 0) ∧ r' 32 w = r 32 w + (if pM (r0 72 k) = true then 1 else 0)) (hu : 0 ≤ u' ∧ (0 < u' → r' 16 0 = 10) ∧ u' ≤ r' 32 w - r0 32 w ∧ ∀ n, r0 32 w ≤ n → n < r' 32 w → (r' 33 (80 * w + n) = -1 ↔ r' 32 w - u' ≤ n)) (gt : GT r') (st : StF d m m') : Lp N w E r0 m0 (k + 1) r' m' := by
  obtain ⟨u, h1, h2, h3, h4, h5, h6, h7, h8, h9, g1, g2, g3⟩ := h
  have e9 : rw9 r' w = rw9 r w := by unfold rw9; rw [e12.1]
  refine ⟨u', by rw [e9, show E + (k + 1) = E + k + 1 by omega]; exact hk9, fun j hj => by rw [e40 j hj, h2 j hj], by omega, by omega, ⟨by rw [e12.1, h5.1], by rw [e12.2.1, h5.2.1], by rw [e9, e12.2.2.1]; exact h5.2.2.1, by rw [e9, e12.2.2.2.1]; exact h5.2.2.2.1, by rw [e12.2.2.2.2]; exact h5.2.2.2.2⟩, fun j i a b c d => by rw [e9, e19 j i a b c d]; exact h6 j i a b c d, ⟨?_, ?_, ?_⟩, hu, gt, fun i hi => by rw [st.1 i hi, g1 i hi], ?_, ?_⟩
  · rw [cnt_s k0, e22.1, h7.1]; omega
  · rw [cnt_s k0, e22.2.1, h7.2.1]; omega
  · rw [cnt_s k0, e22.2.2, h7.2.2]; omega
  · have := st.2.1
    omega
  · have := st.2.2
    omega
end EL
