/-! a new workflow: what there is stays -/
section NG
variable {cd : Int → Int} {N N' : Int} {r r' : Rst} {m m' : Mem} {w n q k t a b x P s C R l A W v p : Int}
/-- the reference's fields behind a new workflow -/
def NFlow (r : Rst) (W a b pa nu p v : Int) (r' : Rst) : Prop := r' 16 0 = W + 1 ∧ (r' 7 W = a ∧ r' 8 W = b ∧ r' 9 W = pa ∧ r' 10 W = p ∧ r' 11 W = nu) ∧ r' 12 W = 1 ∧ r' 17 (9 * W) = 20 ∧ r' 18 (9 * W) = 1 ∧ (r' 14 W = 0 ∧ r' 15 W = -1 ∧ r' 22 W = 0 ∧ r' 30 W = 0 ∧ r' 32 W = 0) ∧ (r' 19 (720 * W) = 0 ∧ r' 20 (720 * W) = v ∧ r' 21 (720 * W) = 0) ∧ ∀ (j : Nat) i, ¬ (j = 16 ∨ (7 ≤ j ∧ j ≤ 12 ∨ j = 14 ∨ j = 15 ∨ j = 22 ∨ j = 30 ∨ j = 32) ∧ i = W ∨ (j = 17 ∨ j = 18) ∧ i = 9 * W ∨ (19 ≤ j ∧ j ≤ 21) ∧ i = 720 * W) → r' j i = r j i
theorem g_makesFlow {pa nu : Int} (hW : W = r 16 0) (w0 : 0 ≤ W) (w1 : W < 10) (e12 : r 12 W = 0) (e18 : r 18 (9 * W) = 0) (hp : pa = -1 ∨ (0 ≤ pa ∧ pa < 10 ∧ pa ≠ W)) : ∃ r', G_makesFlow a b pa nu v r = some (W, r') ∧ NFlow r W a b pa nu (if pa = -1 then 0 else r 12 pa) v r' := by
  have fin : ∀ p, ∃ r', G_makesFlow_61 nu v W p W (ur (ur (ur (ur r 16 0 (W + 1)) 7 W a) 8 W b) 9 W pa) = some (W, r') ∧ NFlow r W a b pa nu p v r' := fun p => by
    unfold G_makesFlow_61
    repeat rw [chk_t (by omega)]
    rw [stg_e]
    repeat rw [chk_t (by omega)]
    rw [stg_e]
    obtain ⟨r1, hr1⟩ : ∃ r1, r1 = ur (ur (ur (ur (ur (ur r 16 0 (W + 1)) 7 W a) 8 W b) 9 W pa) 10 W p) 11 W nu := ⟨_, rfl⟩
    rw [← hr1]
    have b12 : r1 12 W = 0 := by rw [hr1]; simp (disch := omega) only [ur_n]; exact e12
    have b18 : r1 18 (9 * W + r1 12 W) = 0 := by rw [b12, Int.add_zero, hr1]; simp (disch := omega) only [ur_n]; exact e18
    have bs : r1 16 0 = W + 1 ∧ (r1 7 W = a ∧ r1 8 W = b ∧ r1 9 W = pa ∧ r1 10 W = p ∧ r1 11 W = nu) := by
      rw [hr1]
      refine ⟨?_, ?_, ?_, ?_, ?_, ?_⟩
      · simp (disch := omega) only [ur_n, ur_e]
      · simp (disch := omega) only [ur_n, ur_e]
      · simp (disch := omega) only [ur_n, ur_e]
      · simp (disch := omega) only [ur_n, ur_e]
      · simp (disch := omega) only [ur_n, ur_e]
      · exact ur_e rfl rfl
    have bo : ∀ (j : Nat) i, ¬ (j = 16 ∨ (7 ≤ j ∧ j ≤ 11) ∧ i = W) → r1 j i = r j i := fun j i hj => by
      rw [hr1, ur_n (by omega), ur_n (by omega), ur_n (by omega), ur_n (by omega), ur_n (by omega), ur_n (by omega)]
    clear hr1
    obtain ⟨r', y1, n1, n2, n3, n4, n5, n6⟩ := g_beginsRun (v := v) w0 w1 (by omega) (by omega) b18
    rw [y1, cag_e]
    rw [b12, Int.add_zero] at n2 n3 n5 n6
    rw [show 80 * (9 * W) = 720 * W by omega] at n5 n6
    refine ⟨r', rfl, by rw [n6 16 0 (by omega)]; exact bs.1, ⟨by rw [n6 7 W (by omega)]; exact bs.2.1, by rw [n6 8 W (by omega)]; exact bs.2.2.1, by rw [n6 9 W (by omega)]; exact bs.2.2.2.1, by rw [n6 10 W (by omega)]; exact bs.2.2.2.2.1, by rw [n6 11 W (by omega)]; exact bs.2.2.2.2.2⟩, by rw [n1, b12]; omega, n2, n3, n4, n5, fun j i hj => by rw [n6 j i (by omega), bo j i (by omega)]⟩
  unfold G_makesFlow G_makesFlow_0
  rw [← hW]
  repeat rw [chk_t (by omega)]
  rw [stg_e]
  repeat rw [chk_t (by omega)]
  rw [stg_e]
  repeat rw [chk_t (by omega)]
  rw [stg_e]
  repeat rw [chk_t (by omega)]
  rw [stg_e]
  by_cases c : pa = -1
  · rw [if_t c, if_t c]
    exact fin 0
  · rw [if_f c, if_f c, chk_t (by omega), show ur (ur (ur (ur r 16 0 (W + 1)) 7 W a) 8 W b) 9 W pa 12 pa = r 12 pa by simp (disch := omega) only [ur_n]]
    exact fin _
theorem hi_new {nu pa : Int} (nf : NFlow r W a b pa nu p v r') (w0 : 0 ≤ W) (bv : -100000 ≤ v ∧ v ≤ 100000) : HI r' W := by
  obtain ⟨n1, n2, n3, n4, n5, n6, n7, n8⟩ := nf
  have er : rw9 r' W = 9 * W := by unfold rw9; omega
  have e0 : hk r' W 0 = 0 := by unfold hk; rw [er, show 80 * (9 * W) + 0 = 720 * W by omega]; exact n7.1
  have cnt : ∀ pp : Int → Bool, pp 0 = false → cntP pp (hk r' W) (1 : Int).toNat = 0 := fun pp hp => by
    rw [show (1 : Int).toNat = 0 + 1 from rfl, cntP, cntP, show ((0 : Nat) : Int) = 0 from rfl, e0, hp]
    rfl
  unfold HI
  rw [er, n5]
  refine ⟨by omega, e0, fun i a b => by omega, fun i a b => ?_, fun i a b c => ?_, fun i a b c d => ?_, fun i a b c => ?_, fun i j a b c => by omega, fun i a b c => ?_, fun i j a b c => by omega, fun i a b c => ?_, fun i a b c => by omega, ?_, ?_, ?_⟩
  · rw [show i = 0 by omega, e0]; omega
  · rw [show 80 * (9 * W) + i = 720 * W by omega, n7.2.1, n7.2.2]; omega
  · rw [show i = 0 by omega, e0] at c; omega
  · rw [show i = 0 by omega, e0] at c; omega
  · rw [show i = 0 by omega, e0] at c; omega
  · rw [show i = 0 by omega, e0] at c; omega
  · rw [cnt pA rfl]; exact n6.2.2.1
  · rw [cnt pT rfl]; exact n6.2.2.2.1
  · rw [cnt pM rfl]; exact n6.2.2.2.2
end NG
