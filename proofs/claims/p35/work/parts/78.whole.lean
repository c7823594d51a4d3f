/-! a play as a whole: the reference comes back, the class answers alike -/
section WP
variable {pg hs : Rst} {B E : Int}
theorem ok_plays58 (hE8 : E ≤ 80) : ∀ (n : Nat) (L i : Int) (r : Rst), 0 ≤ i → i ≤ E → 0 ≤ L → L ≤ E → E - i < n → Hs B E r → PgR r → Pt r → (∀ j, i ≤ j → j < E → j < L → r 19 (B + j) ≠ 7) → Btw L (ur r 76 0 0) → ∃ v r', G_plays_58 n (B + E) (B + L) (B + i) r = some (v, r') := by
  have f9 := fuel9_ge
  intro n
  induction n with
  | zero => intro L i r h0 h1 h2 h3 h4; omega
  | succ n ih =>
    intro L i r h0 h1 hL0 hL h4 hs' g pt hno hbL
    rw [G_plays_58]
    have b1 := hs'.1
    have b2 := hs'.2.1
    by_cases c0 : B + E ≤ B + i
    · rw [if_t c0]; exact ⟨_, _, rfl⟩
    · rw [if_f c0, chk_t (by omega)]
      by_cases c1 : r 19 (B + i) = 7
      · have iL : L ≤ i := by
          by_cases h : L ≤ i
          · exact h
          · exact absurd c1 (hno i (Int.le_refl _) (by omega) (by omega))
        rw [if_t c1, chk_t (by omega), stg_e]
        obtain ⟨b', f1, f2, f3, f4, f5⟩ := f_end (r := ur r 78 0 (B + i + 1)) (H := B + E) (i := B + i) hs'.2.1 (by omega) (by omega)
        rw [f5, cag_e, stg_e]
        unfold G_takesAll G_takesAll_0
        rw [stg_e]
        have kz : ∀ j : Nat, j ≠ 78 → j ≠ 79 → j ≠ 76 → ur (ur (ur r 78 0 (B + i + 1)) 79 0 b') 76 0 0 j = r j := fun j a1 a2 a3 => by rw [ur_ne a3, ur_ne a2, ur_ne a1]
        have z78 : ur (ur (ur r 78 0 (B + i + 1)) 79 0 b') 76 0 0 78 0 = B + i + 1 := by rw [ur_n (by omega), ur_n (by omega), ur_e rfl rfl]
        have z79 : ur (ur (ur r 78 0 (B + i + 1)) 79 0 b') 76 0 0 79 0 = b' := by rw [ur_n (by omega), ur_e rfl rfl]
        have z76 : ur (ur (ur r 78 0 (B + i + 1)) 79 0 b') 76 0 0 76 0 = 0 := ur_e rfl rfl
        rw [ur_ne (a := 19) (by omega)] at f3
        generalize ur (ur (ur r 78 0 (B + i + 1)) 79 0 b') 76 0 0 = z at *
        have az : AgR r z := fun j hj => kz j (by omega) (by omega) (by omega)
        have hz : Hs B E z := by
          unfold Hs
          rw [kz 19 (by omega) (by omega) (by omega), kz 20 (by omega) (by omega) (by omega), kz 21 (by omega) (by omega) (by omega)]
          exact hs'
        have gz : PgR z := by
          unfold PgR
          rw [kz 77 (by omega) (by omega) (by omega), kz 5 (by omega) (by omega) (by omega), kz 2 (by omega) (by omega) (by omega), kz 3 (by omega) (by omega) (by omega), kz 4 (by omega) (by omega) (by omega)]
          exact g
        have ptz : Pt z := by unfold Pt; omega
        have bz : Btw L z := hbL.z76 az z76
        /- within the part: its events are counted -/
        have key : ∀ (m : Nat) (k : Int) (y : Rst), 0 ≤ k → k ≤ i → i - k < m → Btw k y → Hs B E y → PgR y → Pt y → ∃ v r', G_takesAll_7 m (B + i) (B + k) y = some (v, r') ∧ SameQ y r' ∧ Btw i r' := by
          intro m
          induction m with
          | zero => intro k y a1 a2 a3; omega
          | succ m ihm =>
            intro k y a1 a2 a3 hb hs2 g2 p2
            rw [G_takesAll_7]
            by_cases d0 : B + i ≤ B + k
            · rw [if_t d0]
              exact ⟨_, _, rfl, SameQ.rf, by rw [show i = k by omega]; exact hb⟩
            · rw [if_f d0, chk_t (by omega)]
              by_cases d1 : 7 ≤ y 19 (B + k)
              · rw [if_t d1, chk_t (by omega), Int.add_assoc]
                exact ihm (k + 1) y (by omega) (by omega) (by omega) (hb.le (by omega)) hs2 g2 p2
              · rw [if_f d1, chk_t (by omega), chk_t (by omega), chk_t (by omega)]
                obtain ⟨v2, r2, o1, o2, o3, o4⟩ := ok_takes1 hb hs2 g2 p2 a1 (by omega) (by omega)
                rw [o1, cag_e, chk_t (by omega), Int.add_assoc]
                obtain ⟨v3, r3, w1, w2, w3⟩ := ihm (k + 1) r2 (by omega) (by omega) (by omega) o4.1 (hs2.sameQ o2) (g2.sameQ o2) (p2.sameQ o2)
                exact ⟨v3, r3, w1, o2.tr w2, w3⟩
        obtain ⟨v3, r3, w1, w2, w3⟩ := key fuel9 L z (by omega) iL (by omega) bz hz gz ptz
        have y78 : r3 78 0 = B + i + 1 := by rw [w2 78 (by omega)]; exact z78
        have y79 : r3 79 0 = b' := by rw [w2 79 (by omega)]; exact z79
        have b76 : 0 ≤ r3 76 0 ∧ r3 76 0 ≤ 5200 := by
          obtain ⟨cc, a1, a2, a3, a4⟩ := w3
          have := a4.1.1
          omega
        obtain ⟨u, t1, t2, t3⟩ := f_told (r := r3) (by omega) (by omega) (by omega) (by omega) (by omega) (by omega)
        rw [w1, cag_e, t1, cag_e]
        by_cases u0 : u = 0
        · rw [if_t u0]; exact ⟨_, _, rfl⟩
        · rw [if_f u0, chk_t (by omega), y79, show b' = B + (b' - B) by omega, Int.add_assoc B i 1]
          refine ih (b' - B) (i + 1) r3 (by omega) (by omega) (by omega) (by omega) (by omega) (hz.sameQ w2) (gz.sameQ w2) (ptz.sameQ w2) (fun j a1 a2 a3 => ?_) (w3.le (by omega)).w76
          have := f3 (B + j) (by omega) (by omega)
          rw [w2 19 (by omega), kz 19 (by omega) (by omega) (by omega)]
          omega
      · rw [if_f c1, chk_t (by omega), Int.add_assoc]
        exact ih L (i + 1) r (by omega) (by omega) hL0 hL (by omega) hs' g pt (fun j a1 a2 a3 => hno j (by omega) a2 a3) hbL
/-- what the reference begins with, when it plays -/
def Gb (w ver : Int) (r z : Rst) : Prop := (∀ j : Nat, j < 40 ∨ j = 49 ∨ j = 50 ∨ j = 54 ∨ (56 ≤ j ∧ j ≤ 67) ∨ j = 69 ∨ j = 70 ∨ (72 ≤ j ∧ j ≤ 76) ∨ j = 78 ∨ j = 79 ∨ j = 81 ∨ j = 82 → z j = r j) ∧ z 77 0 = 5 * r 7 w + ver - 1 ∧ z 83 0 = r 12 w ∧ z 80 0 = 0 ∧ (z 40 0 = 0 ∧ z 41 0 = 0 ∧ z 42 0 = 0 ∧ z 45 0 = 0 ∧ z 47 0 = 0 ∧ z 48 0 = 0 ∧ z 51 0 = 0 ∧ z 52 0 = 0 ∧ z 53 0 = 0 ∧ z 55 0 = 0 ∧ z 68 0 = 0 ∧ z 71 0 = 0)
theorem g_plays {w ver : Int} {r : Rst} (h0 : 0 ≤ w) (h1 : w < 10) (h2 : 1 ≤ r 12 w) (h3 : r 12 w ≤ 9) (h4 : 0 ≤ r 7 w) (h5 : r 7 w < 3) (h6 : 1 ≤ ver) (h7 : ver ≤ 4) (h8 : 0 ≤ r 18 (9 * w + r 12 w - 1)) (h9 : r 18 (9 * w + r 12 w - 1) ≤ 80) : ∃ z, Gb w ver r z ∧ G_plays w ver r = G_plays_58 fuel9 (80 * (9 * w + r 12 w - 1) + r 18 (9 * w + r 12 w - 1)) (80 * (9 * w + r 12 w - 1)) (80 * (9 * w + r 12 w - 1)) z := by
  unfold G_plays G_plays_0 G_rowOfRun G_rowOfRun_0 G_rowOf G_rowOf_0 G_begins G_begins_0
  rw [chk_t (by omega), chk_t (by omega), chk_t (by omega), chk_t (by omega), cag_e, chk_t (by omega), chk_t (by omega), chk_t (by omega), chk_t (by omega), chk_t (by omega), chk_t (by omega), chk_t (by omega), chk_t (by omega), cag_e]
  simp only [stg_e, cag_e]
  rw [chk_t (by omega)]
  refine ⟨_, ?_, rfl⟩
  refine ⟨fun j hj => ?_, ?_, ?_, ?_, ?_⟩
  · rw [ur_ne (by omega), ur_ne (by omega), ur_ne (by omega), ur_ne (by omega), ur_ne (by omega), ur_ne (by omega), ur_ne (by omega), ur_ne (by omega), ur_ne (by omega), ur_ne (by omega), ur_ne (by omega), ur_ne (by omega), ur_ne (by omega), ur_ne (by omega), ur_ne (by omega), ur_ne (by omega), ur_ne (by omega), ur_ne (by omega)]
  · simp (disch := omega) only [ur_n, ur_e]
  · simp (disch := omega) only [ur_n, ur_e]
  · simp (disch := omega) only [ur_n, ur_e]
  · simp (disch := omega) only [ur_n, ur_e, and_self]
end WP
