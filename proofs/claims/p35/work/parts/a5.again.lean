/-! what was just decided, played again -/
section AG
variable {B E HB v : Int} {r r' s s' : Rst}
theorem ov_self (h : ∀ j : Nat, spc j = false → s j = r j) : ov s r = s := by
  funext j i
  unfold ov
  by_cases c : spc j = true
  · rw [if_t c]
  · rw [if_f c, h j (by simpa using c)]
theorem told24_inv : ∀ (n : Nat) (l1 l2 : Int) (r : Rst), G_isAsTold_24 n l1 l2 r = some (v, r') → r' = r ∧ (v ≠ 0 → l1 ≠ 0 ∧ ∀ k, l2 ≤ k → k < r 76 0 → Mat r k) := by
  intro n
  induction n with
  | zero => intro l1 l2 r e; cases e
  | succ n ih =>
    intro l1 l2 r e
    rw [G_isAsTold_24] at e
    rcases ite_some e with ⟨c0, e⟩ | ⟨c0, e⟩
    · cases e
      exact ⟨rfl, fun h => ⟨h, fun k a b => by omega⟩⟩
    rcases ite_some e with ⟨c1, e⟩ | ⟨c1, e⟩
    · cases e
      exact ⟨rfl, fun h => absurd c1 h⟩
    have e := (chk_some (chk_some (chk_some e).2).2).2
    have bad : ∀ z : Int, G_isAsTold_24 n 0 z r = some (v, r') → r' = r ∧ (v ≠ 0 → l1 ≠ 0 ∧ ∀ k, l2 ≤ k → k < r 76 0 → Mat r k) := fun z e => by
      obtain ⟨a, b⟩ := ih 0 z r e
      exact ⟨a, fun h => absurd rfl (b h).1⟩
    rcases ite_some e with ⟨c2, e⟩ | ⟨c2, e⟩
    · have e := (chk_some (chk_some (chk_some e).2).2).2
      rcases ite_some e with ⟨c3, e⟩ | ⟨c3, e⟩
      · have e := (chk_some (chk_some (chk_some e).2).2).2
        rcases ite_some e with ⟨c4, e⟩ | ⟨c4, e⟩
        · obtain ⟨a, b⟩ := ih 1 (l2 + 1) r (chk_some e).2
          refine ⟨a, fun h => ⟨c1, fun k k0 k1 => ?_⟩⟩
          by_cases ek : k = l2
          · rw [ek]; exact ⟨c2, c3, c4⟩
          · exact (b h).2 k (by omega) k1
        · exact bad _ (chk_some e).2
      · exact bad _ (chk_some e).2
    · exact bad _ (chk_some e).2
theorem told_inv (e : G_isAsTold r = some (v, r')) : r' = r ∧ (v ≠ 0 → r 76 0 = r 79 0 - r 78 0 ∧ ∀ k, 0 ≤ k → k < r 76 0 → Mat r k) := by
  unfold G_isAsTold G_isAsTold_0 at e
  have e := (chk_some (boolG_some e)).2
  rcases ite_some e with ⟨c0, e⟩ | ⟨c0, e⟩
  · obtain ⟨a, b⟩ := told24_inv _ _ _ _ e
    exact ⟨a, fun h => ⟨c0, (b h).2⟩⟩
  · obtain ⟨a, b⟩ := told24_inv _ _ _ _ e
    exact ⟨a, fun h => absurd rfl (b h).1⟩
theorem told_1 (h0 : 0 ≤ r 78 0) (h76 : 0 ≤ r 76 0) (h2 : r 76 0 ≤ 5200) (h3 : r 79 0 ≤ 7200) (h4 : r 76 0 = r 79 0 - r 78 0) (h5 : ∀ k, 0 ≤ k → k < r 76 0 → Mat r k) : G_isAsTold r = some (1, r) := by
  obtain ⟨v, e, -, hv⟩ := f_told h0 h76 h2 h3 (by omega) (by omega)
  rw [e, hv.mpr ⟨h4, h5⟩]
/-- the same part is told: once in what was told first, once in all of it -/
theorem same_end {i : Int} (hB : 0 ≤ B) (hH : B + E < HB) (hH2 : HB ≤ 7200) (hs : ∀ j, B ≤ j → j < B + E → s 19 j = r 19 j) (h7 : s 19 (B + E) = 7) (i0 : B ≤ i) (i1 : i < B + E) : ∃ b, i + 1 ≤ b ∧ b ≤ B + E ∧ G_endOf i (B + E) r = some (b, r) ∧ G_endOf i HB s = some (b, s) := by
  obtain ⟨b, b1, b2, b3, b4, b5⟩ := f_end (r := r) (H := B + E) (i := i) (by omega) (by omega) i1
  obtain ⟨c, c1, c2, c3, c4, c5⟩ := f_end (r := s) (H := HB) (i := i) hH2 (by omega) (by omega)
  have e : c = b := by
    rcases (show c < b ∨ c = b ∨ b < c by omega) with h | h | h
    · have k1 := b3 c c1 h
      have k2 := c4 (by omega)
      rw [hs c (by omega) (by omega)] at k2
      omega
    · exact h
    · have k1 := c3 b b1 h
      by_cases d : b = B + E
      · rw [d, h7] at k1; omega
      · have k2 := b4 (by omega)
        rw [hs b (by omega) (by omega)] at k1
        omega
  rw [e] at c5
  exact ⟨b, b1, b2, b5, c5⟩
theorem spc_ur {j : Nat} {i v : Int} (h : ∀ k : Nat, spc k = false → s k = r k) : ∀ k : Nat, spc k = false → ur s j i v k = ur r j i v k := fun k hk => by
  funext b
  unfold ur
  rw [h k hk]
theorem spc_ge {j : Nat} (h : spc j = false) : (40 ≤ j ∨ (2 ≤ j ∧ j ≤ 5)) ∧ (j < 78 ∨ 80 < j) := by
  unfold spc at h
  have := of_decide_eq_false h
  omega
/-- the parts that were told before go alike -/
theorem ag_58 (hB : 0 ≤ B) (hE : E ≤ 80) (hH : B + E < HB) (hH2 : HB ≤ 7200) : ∀ (n : Nat) (l5 l6 : Int) (r s : Rst), (∀ j : Nat, spc j = false → s j = r j) → s 78 0 = r 78 0 → s 79 0 = r 79 0 → s 80 0 = 0 → r 80 0 = 0 → (∀ (j : Nat) i, 19 ≤ j → j ≤ 21 → B ≤ i → i < B + E → s j i = r j i) → s 19 (B + E) = 7 → B ≤ l5 → l5 ≤ B + E → B ≤ l6 → l6 ≤ B + E → G_plays_58 n (B + E) l5 l6 r = some (v, r') → v ≠ -1 → ∃ (k : Nat) (s' : Rst), n = k + (B + E - l6).toNat ∧ 1 ≤ k ∧ G_plays_58 n HB l5 l6 s = G_plays_58 k HB v (B + E) s' ∧ (∀ j : Nat, spc j = false → s' j = r' j) ∧ (∀ j : Nat, j < 40 → s' j = s j) ∧ (∀ j : Nat, j < 40 → r' j = r j) ∧ s' 80 0 = 0 ∧ r' 80 0 = 0 ∧ B ≤ v ∧ v ≤ B + E := by
  intro n
  induction n with
  | zero => intro l5 l6 r s _ _ _ _ _ _ _ _ _ _ _ e; cases e
  | succ n ih =>
    intro l5 l6 r s hq s78 s79 s80 r80 hh h7 b1 b2 b3 b4 e hv
    have e9 := e
    rw [G_plays_58] at e
    rcases ite_some e with ⟨c0, e⟩ | ⟨c0, e⟩
    · cases e
      have el : l6 = B + E := by omega
      subst el
      exact ⟨n + 1, s, by omega, by omega, rfl, hq, fun _ _ => rfl, fun _ _ => rfl, s80, r80, b1, b2⟩
    obtain ⟨c1, e⟩ := chk_some e
    have s19 : s 19 l6 = r 19 l6 := hh 19 l6 (by omega) (by omega) b3 (by omega)
    rw [G_plays_58, if_f (by omega), chk_t c1, s19]
    rcases ite_some e with ⟨c2, e⟩ | ⟨c2, e⟩
    · obtain ⟨c3, e⟩ := chk_some e
      have e := stg_some e
      rw [if_t c2, chk_t c3, stg_e]
      obtain ⟨b, d1, d2, d3, d4⟩ := same_end (r := ur r 78 0 (l6 + 1)) (s := ur s 78 0 (l6 + 1)) hB hH hH2 (fun j a a2 => by rw [ur_ne (by omega), ur_ne (by omega)]; exact hh 19 j (by omega) (by omega) a a2) (by rw [ur_n (by omega)]; exact h7) b3 (by omega)
      rw [d3, cag_e] at e
      have e := stg_some e
      rw [d4, cag_e, stg_e]
      obtain ⟨v1, r1, e1, e⟩ := cag_some e
      unfold G_takesAll G_takesAll_0 at e1 ⊢
      have e1 := stg_some e1
      rw [stg_e]
      have qz : ∀ j : Nat, spc j = false → ur (ur (ur s 78 0 (l6 + 1)) 79 0 b) 76 0 0 j = ur (ur (ur r 78 0 (l6 + 1)) 79 0 b) 76 0 0 j := spc_ur (spc_ur (spc_ur hq))
      have zr : ∀ j : Nat, j < 40 ∨ j = 80 → ur (ur (ur r 78 0 (l6 + 1)) 79 0 b) 76 0 0 j = r j := fun j hj => by rw [ur_ne (by omega), ur_ne (by omega), ur_ne (by omega)]
      have zs : ∀ j : Nat, j < 40 ∨ j = 80 → ur (ur (ur s 78 0 (l6 + 1)) 79 0 b) 76 0 0 j = s j := fun j hj => by rw [ur_ne (by omega), ur_ne (by omega), ur_ne (by omega)]
      have zr78 : ur (ur (ur r 78 0 (l6 + 1)) 79 0 b) 76 0 0 78 0 = l6 + 1 := by simp (disch := omega) only [ur_n, ur_e]
      have zr79 : ur (ur (ur r 78 0 (l6 + 1)) 79 0 b) 76 0 0 79 0 = b := by simp (disch := omega) only [ur_n, ur_e]
      have zr76 : ur (ur (ur r 78 0 (l6 + 1)) 79 0 b) 76 0 0 76 0 = 0 := ur_e rfl rfl
      have zs78 : ur (ur (ur s 78 0 (l6 + 1)) 79 0 b) 76 0 0 78 0 = l6 + 1 := by simp (disch := omega) only [ur_n, ur_e]
      have zs79 : ur (ur (ur s 78 0 (l6 + 1)) 79 0 b) 76 0 0 79 0 = b := by simp (disch := omega) only [ur_n, ur_e]
      generalize ur (ur (ur r 78 0 (l6 + 1)) 79 0 b) 76 0 0 = z at *
      generalize ur (ur (ur s 78 0 (l6 + 1)) 79 0 b) 76 0 0 = y at *
      have m1 := mg_takesAll7 _ _ _ _ _ _ e1
      obtain ⟨v2, r2, e2, e3⟩ := cag_some e
      clear e
      obtain ⟨rfl, t2⟩ := told_inv e2
      rcases ite_some e3 with ⟨c4, e⟩ | ⟨c4, e⟩
      · cases e; exact absurd rfl hv
      obtain ⟨t3, t4⟩ := t2 c4
      have w76 : 0 ≤ r2 76 0 := by have := m1.1.1; omega
      have w78 : r2 78 0 = l6 + 1 := by rw [m1.2 78 (by omega)]; exact zr78
      have w79 : r2 79 0 = b := by rw [m1.2 79 (by omega)]; exact zr79
      have hyz : ∀ (j : Nat) i, 19 ≤ j → j ≤ 21 → B ≤ i → i < B + E → y j i = z j i := fun j i a a2 a3 a4 => by
        rw [zs j (by omega), zr j (by omega)]; exact hh j i a a2 a3 a4
      have w19 : ∀ (j : Nat) i, 19 ≤ j → j ≤ 21 → B ≤ i → i < B + E → y j i = r2 j i := fun j i a a2 a3 a4 => by
        rw [m1.2 j (by omega)]; exact hyz j i a a2 a3 a4
      have tl : Tl y r2 := by
        refine ⟨by omega, fun k k0 k1 => ?_⟩
        obtain ⟨u1, u2, u3⟩ := t4 k k0 k1
        rw [zs78, w19 19 _ (by omega) (by omega) (by omega) (by omega), w19 20 _ (by omega) (by omega) (by omega) (by omega), w19 21 _ (by omega) (by omega) (by omega) (by omega), ← w78]
        exact ⟨u1, u2, u3⟩
      have nw : Nw y z := Or.inr ⟨by omega, by omega, by rw [zs 80 (by omega), zr 80 (by omega)]; omega, by omega, fun i a a2 => ⟨hyz 19 i (by omega) (by omega) (by omega) (by omega), hyz 20 i (by omega) (by omega) (by omega) (by omega)⟩⟩
      have kt := k_takesAll7 (X := y) (v := v1) (r' := r2) (B := B) (hi := l6 - B) fuel9 (l5 - B) z (by omega) nw (fun j i a a2 a3 a4 => hyz j (B + i) a a2 (by omega) (by omega))
      rw [show B + (l6 - B) = l6 by omega, show B + (l5 - B) = l5 by omega, ov_self qz] at kt
      rw [kt e1 tl, cag_e]
      have q2 : ∀ j : Nat, spc j = false → ov y r2 j = r2 j := fun j hj => ov_r (spc_ge hj)
      have o2 : ∀ j : Nat, (j < 40 ∧ ¬ (2 ≤ j ∧ j ≤ 5)) ∨ (78 ≤ j ∧ j ≤ 80) → ov y r2 j = y j := fun j hj => ov_x hj
      have o40 : ∀ j : Nat, j < 40 → ov y r2 j = s j := fun j hj => by
        by_cases c : 2 ≤ j ∧ j ≤ 5
        · rw [ov_r (by omega), m1.2 j (by omega), zr j (by omega)]
          exact (hq j (spc_f (by omega))).symm
        · rw [o2 j (by omega), zs j (by omega)]
      have o72 : ∀ k, 0 ≤ k → k < ov y r2 76 0 → Mat (ov y r2) k := fun k k0 k1 => by
        unfold Mat
        rw [ov_r (r := r2) (j := 76) (by omega)] at k1
        obtain ⟨u1, u2, u3⟩ := tl.2 k k0 k1
        rw [ov_r (r := r2) (j := 72) (by omega), ov_r (r := r2) (j := 73) (by omega), ov_r (r := r2) (j := 74) (by omega), o2 19 (by omega), o2 20 (by omega), o2 21 (by omega), o2 78 (by omega)]
        exact ⟨u1, u2, u3⟩
      have told : G_isAsTold (ov y r2) = some (1, ov y r2) := by
        have a78 : ov y r2 78 0 = l6 + 1 := by rw [o2 78 (by omega)]; exact zs78
        have a79 : ov y r2 79 0 = b := by rw [o2 79 (by omega)]; exact zs79
        have a76 : ov y r2 76 0 = r2 76 0 := ov_ri (by omega)
        exact told_1 (by omega) (by omega) (by omega) (by omega) (by omega) o72
      obtain ⟨c5, e⟩ := chk_some e
      rw [told, cag_e, if_f (by decide), chk_t c5]
      have a79 : ov y r2 79 0 = r2 79 0 := by rw [o2 79 (by omega), zs79]; exact w79.symm
      rw [a79]
      obtain ⟨k, s', f1, f2, f3, f4, f5, f6, f7, f8, f9, f10⟩ := ih (r2 79 0) (l6 + 1) r2 (ov y r2) q2 (by rw [o2 78 (by omega), zs78, w78]) a79 (by rw [o2 80 (by omega), zs 80 (by omega)]; exact s80) (by rw [m1.2 80 (by omega), zr 80 (by omega)]; exact r80) (fun j i a a2 a3 a4 => by rw [o2 j (by omega)]; exact w19 j i a a2 a3 a4) (by rw [o2 19 (by omega), zs 19 (by omega)]; exact h7) (by omega) (by omega) (by omega) (by omega) e hv
      exact ⟨k, s', by omega, f2, f3, f4, fun j hj => (f5 j hj).trans (o40 j hj), fun j hj => by rw [f6 j hj, m1.2 j (by omega), zr j (by omega)], f7, f8, f9, f10⟩
    · obtain ⟨c3, e⟩ := chk_some e
      rw [if_f c2, chk_t c3]
      obtain ⟨k, s', f1, f⟩ := ih l5 (l6 + 1) r s hq s78 s79 s80 r80 hh h7 b1 b2 (by omega) (by omega) e hv
      exact ⟨k, s', by omega, f⟩
/-- what is told behind the last decision is no decision -/
theorem rest_58 : ∀ (d n : Nat) (l5 l6 : Int) (s : Rst), HB - l6 = d → d < n → 0 ≤ l6 → HB ≤ 7200 → (∀ i, l6 ≤ i → i < HB → s 19 i ≠ 7) → G_plays_58 n HB l5 l6 s = some (l5, s) := by
  intro d
  induction d with
  | zero =>
    intro n l5 l6 s h0 h1 h2 h3 h4
    obtain ⟨n, rfl⟩ : ∃ k, n = k + 1 := ⟨n - 1, by omega⟩
    rw [G_plays_58, if_t (by omega)]
  | succ d ih =>
    intro n l5 l6 s h0 h1 h2 h3 h4
    obtain ⟨n, rfl⟩ : ∃ k, n = k + 1 := ⟨n - 1, by omega⟩
    rw [G_plays_58, if_f (by omega), chk_t (by omega), if_f (h4 l6 (by omega) (by omega)), chk_t (by omega)]
    exact ih n l5 (l6 + 1) s (by omega) (by omega) (by omega) h3 fun i a b => h4 i (by omega) b
/-- what a play begins with -/
def bgn (p n : Int) (r : Rst) : Rst := ur (ur (ur (ur (ur (ur (ur (ur (ur (ur (ur (ur (ur (ur (ur (ur (ur (ur r 77 0 p) 40 0 0) 41 0 0) 42 0 0) 43 0 0) 44 0 0) 45 0 0) 46 0 0) 47 0 0) 48 0 0) 51 0 0) 52 0 0) 53 0 0) 55 0 0) 68 0 0) 71 0 0) 83 0 n) 80 0 0
theorem bgn_lo {p n : Int} {j : Nat} (h : j < 40 ∨ j = 78 ∨ j = 79) : bgn p n r j = r j := by
  unfold bgn
  rw [ur_ne (by omega), ur_ne (by omega), ur_ne (by omega), ur_ne (by omega), ur_ne (by omega), ur_ne (by omega), ur_ne (by omega), ur_ne (by omega), ur_ne (by omega), ur_ne (by omega), ur_ne (by omega), ur_ne (by omega), ur_ne (by omega), ur_ne (by omega), ur_ne (by omega), ur_ne (by omega), ur_ne (by omega), ur_ne (by omega)]
theorem bgn_cg {p n : Int} (h : ∀ k : Nat, spc k = false → s k = r k) : ∀ k : Nat, spc k = false → bgn p n s k = bgn p n r k := by
  unfold bgn
  repeat refine spc_ur ?_
  exact h
theorem bgn_80 {p n : Int} : bgn p n r 80 0 = 0 := ur_e rfl rfl
theorem g_plays9 {w ver : Int} (h0 : 0 ≤ w) (h1 : w < 10) (h2 : 1 ≤ r 12 w) (h3 : r 12 w ≤ 9) (h4 : 0 ≤ r 7 w) (h5 : r 7 w < 3) (h6 : 1 ≤ ver) (h7 : ver ≤ 4) (h8 : 0 ≤ r 18 (rw9 r w)) (h9 : r 18 (rw9 r w) ≤ 80) : G_plays w ver r = G_plays_58 fuel9 (80 * rw9 r w + r 18 (rw9 r w)) (80 * rw9 r w) (80 * rw9 r w) (bgn (5 * r 7 w + ver - 1) (r 12 w) r) := by
  have er : rw9 r w = 9 * w + r 12 w - 1 := rfl
  rw [er] at h8 h9 ⊢
  unfold G_plays G_plays_0 G_rowOfRun G_rowOfRun_0 G_rowOf G_rowOf_0 G_begins G_begins_0
  rw [chk_t (by omega), chk_t (by omega), chk_t (by omega), chk_t (by omega), cag_e, chk_t (by omega), chk_t (by omega), chk_t (by omega), chk_t (by omega), chk_t (by omega), chk_t (by omega), chk_t (by omega), chk_t (by omega), cag_e]
  simp only [stg_e, cag_e]
  rw [chk_t (by omega)]
  simp (disch := omega) only [ur_n]
  rfl
/-- a decision is found anew: it comes to the same register -/
theorem g_again {A S r1 r2 : Rst} {w ver u n : Int} (w0 : 0 ≤ w) (w1 : w < 10) (h12 : 1 ≤ A 12 w ∧ A 12 w ≤ 9) (h7 : 0 ≤ A 7 w ∧ A 7 w < 3) (hv1 : 1 ≤ ver ∧ ver ≤ 4) (hE : A 18 (rw9 A w) = E) (hE0 : 0 ≤ E) (hEn : E + 1 + n ≤ S 18 (rw9 A w)) (hS8 : S 18 (rw9 A w) ≤ 80) (n0 : 0 ≤ n)
    (a1 : G_plays w ver A = some (v, r1)) (hv : v ≠ -1) (a2 : G_takesAll v (80 * rw9 A w + E) (ur r1 80 0 1) = some (u, r2)) (h76 : r2 76 0 = n)
    (q : ∀ j : Nat, spc j = false → S j = A j) (q7 : S 7 w = A 7 w) (q12 : S 12 w = A 12 w) (q78 : S 78 0 = A 78 0 ∧ S 79 0 = A 79 0)
    (hh : ∀ (j : Nat) i, 19 ≤ j → j ≤ 21 → 0 ≤ i → i < E → S j (80 * rw9 A w + i) = A j (80 * rw9 A w + i)) (hd : S 19 (80 * rw9 A w + E) = 7) (hk : ∀ k, 0 ≤ k → k < n → 7 < r2 72 k ∧ r2 72 k = S 19 (80 * rw9 A w + (E + 1 + k)) ∧ r2 73 k = S 20 (80 * rw9 A w + (E + 1 + k)) ∧ r2 74 k = S 21 (80 * rw9 A w + (E + 1 + k))) (hr : ∀ i, E + 1 + n ≤ i → i < S 18 (rw9 A w) → S 19 (80 * rw9 A w + i) < 7) : ∃ v' S', G_plays w ver S = some (v', S') ∧ v' ≠ -1 ∧ S' 41 0 = r2 41 0 := by
  have f9 := fuel9_ge
  have er : rw9 A w = 9 * w + A 12 w - 1 := rfl
  have es : rw9 S w = rw9 A w := by unfold rw9; rw [q12]
  rw [g_plays9 w0 w1 h12.1 h12.2 h7.1 h7.2 hv1.1 hv1.2 (by omega) (by omega), hE] at a1
  rw [g_plays9 w0 w1 (by omega) (by omega) (by omega) (by omega) hv1.1 hv1.2 (by rw [es]; omega) (by rw [es]; omega), es, q7, q12]
  generalize hB : 80 * rw9 A w = B at *
  generalize hL : S 18 (rw9 A w) = L at *
  obtain ⟨k, s', e1, e2, e3, e4, e5, e6, e7, e8, e9, e10⟩ := ag_58 (B := B) (E := E) (HB := B + L) (by omega) (by omega) (by omega) (by omega) fuel9 B B _ (bgn (5 * A 7 w + ver - 1) (A 12 w) S) (bgn_cg q) (by rw [bgn_lo (by omega), bgn_lo (by omega)]; exact q78.1) (by rw [bgn_lo (by omega), bgn_lo (by omega)]; exact q78.2) bgn_80 bgn_80 (fun j i a b c d => by
    rw [bgn_lo (by omega), bgn_lo (by omega)]
    have := hh j (i - B) a b (by omega) (by omega)
    rw [show B + (i - B) = i by omega] at this
    exact this) (by rw [bgn_lo (by omega)]; exact hd) (Int.le_refl _) (by omega) (Int.le_refl _) (by omega) a1 hv
  have s19 : ∀ (j : Nat), j < 40 → s' j = S j := fun j hj => by rw [e5 j hj, bgn_lo (by omega)]
  have r19 : ∀ (j : Nat), j < 40 → r1 j = A j := fun j hj => by rw [e6 j hj, bgn_lo (by omega)]
  obtain ⟨k, rfl⟩ : ∃ k2, k = k2 + 1 := ⟨k - 1, by omega⟩
  have i7 : s' 19 (B + E) = 7 := by rw [s19 19 (by omega)]; exact hd
  rw [e3, G_plays_58, if_f (by omega), chk_t (by omega), i7, if_t rfl, chk_t (by omega), stg_e]
  obtain ⟨b, b1, b2, b3, b4, b5⟩ := f_end (r := ur s' 78 0 (B + E + 1)) (H := B + L) (i := B + E) (by omega) (by omega) (by omega)
  have u19 : ur s' 78 0 (B + E + 1) 19 = S 19 := by rw [ur_ne (by omega)]; exact s19 19 (by omega)
  rw [u19] at b3 b4
  have eb : b = B + E + 1 + n := by
    rcases (show b < B + E + 1 + n ∨ b = B + E + 1 + n ∨ B + E + 1 + n < b by omega) with h | h | h
    · have k1 := b4 (by omega)
      obtain ⟨k2, k3, -⟩ := hk (b - (B + E + 1)) (by omega) (by omega)
      rw [show B + (E + 1 + (b - (B + E + 1))) = b by omega] at k3
      omega
    · exact h
    · have k1 := b3 (B + E + 1 + n) (by omega) h
      have k2 := hr (E + 1 + n) (Int.le_refl _) (by omega)
      rw [show B + (E + 1 + n) = B + E + 1 + n by omega] at k2
      omega
  rw [b5, cag_e, stg_e]
  unfold G_takesAll G_takesAll_0 at a2 ⊢
  have a2 := stg_some a2
  rw [stg_e]
  have zr : ∀ j : Nat, j < 40 → ur (ur r1 80 0 1) 76 0 0 j = A j := fun j hj => by rw [ur_ne (by omega), ur_ne (by omega)]; exact r19 j hj
  have zs : ∀ j : Nat, j < 40 → ur (ur (ur s' 78 0 (B + E + 1)) 79 0 b) 76 0 0 j = S j := fun j hj => by rw [ur_ne (by omega), ur_ne (by omega), ur_ne (by omega)]; exact s19 j hj
  have qz : ∀ j : Nat, spc j = false → ur (ur (ur s' 78 0 (B + E + 1)) 79 0 b) 76 0 0 j = ur (ur r1 80 0 1) 76 0 0 j := by
    refine spc_ur fun j hj => ?_
    have := spc_ge hj
    rw [ur_ne (by omega), ur_ne (by omega), ur_ne (by omega)]
    exact e4 j hj
  have zr80 : ur (ur r1 80 0 1) 76 0 0 80 0 = 1 := by simp (disch := omega) only [ur_n, ur_e]
  have zr76 : ur (ur r1 80 0 1) 76 0 0 76 0 = 0 := ur_e rfl rfl
  have zs78 : ur (ur (ur s' 78 0 (B + E + 1)) 79 0 b) 76 0 0 78 0 = B + E + 1 := by simp (disch := omega) only [ur_n, ur_e]
  have zs79 : ur (ur (ur s' 78 0 (B + E + 1)) 79 0 b) 76 0 0 79 0 = b := by simp (disch := omega) only [ur_n, ur_e]
  have zs80 : ur (ur (ur s' 78 0 (B + E + 1)) 79 0 b) 76 0 0 80 0 = 0 := by simp (disch := omega) only [ur_n]; exact e7
  generalize ur (ur r1 80 0 1) 76 0 0 = z at *
  generalize ur (ur (ur s' 78 0 (B + E + 1)) 79 0 b) 76 0 0 = y at *
  have tl : Tl y r2 := by
    refine ⟨by omega, fun k k0 k1 => ?_⟩
    obtain ⟨-, u1, u2, u3⟩ := hk k k0 (by omega)
    rw [zs78, zs 19 (by omega), zs 20 (by omega), zs 21 (by omega), show B + E + 1 + k = B + (E + 1 + k) by omega]
    exact ⟨u1, u2, u3⟩
  have nw : Nw y z := Or.inl ⟨zr80, zs80, by omega, by omega⟩
  have m1 := mg_takesAll7 _ _ _ _ _ _ a2
  have kt := k_takesAll7 (X := y) (v := u) (r' := r2) (B := B) (hi := E) fuel9 (v - B) z (by omega) nw (fun j i a a2 a3 a4 => by rw [zs j (by omega), zr j (by omega)]; exact hh j i a a2 a3 a4)
  rw [show B + (v - B) = v by omega, ov_self qz] at kt
  rw [kt a2 tl, cag_e]
  have o2 : ∀ j : Nat, (j < 40 ∧ ¬ (2 ≤ j ∧ j ≤ 5)) ∨ (78 ≤ j ∧ j ≤ 80) → ov y r2 j = y j := fun j hj => ov_x hj
  have a76 : ov y r2 76 0 = n := by rw [ov_ri (by omega)]; exact h76
  have a78 : ov y r2 78 0 = B + E + 1 := by rw [o2 78 (by omega)]; exact zs78
  have a79 : ov y r2 79 0 = b := by rw [o2 79 (by omega)]; exact zs79
  have told : G_isAsTold (ov y r2) = some (1, ov y r2) := by
    refine told_1 (by omega) (by omega) (by omega) (by omega) (by omega) fun k k0 k1 => ?_
    unfold Mat
    obtain ⟨u1, u2, u3⟩ := tl.2 k k0 (by omega)
    rw [ov_r (r := r2) (j := 72) (by omega), ov_r (r := r2) (j := 73) (by omega), ov_r (r := r2) (j := 74) (by omega), o2 19 (by omega), o2 20 (by omega), o2 21 (by omega), o2 78 (by omega)]
    exact ⟨u1, u2, u3⟩
  rw [told, cag_e, if_f (by decide), chk_t (by omega), rest_58 (B + L - (B + E + 1)).toNat k _ _ _ (by omega) (by omega) (by omega) (by omega) (fun i i0 i1 => by
    rw [o2 19 (by omega), zs 19 (by omega)]
    intro hc
    by_cases c : i < B + E + 1 + n
    · obtain ⟨k2, k3, -⟩ := hk (i - (B + E + 1)) (by omega) (by omega)
      rw [show B + (E + 1 + (i - (B + E + 1))) = i by omega] at k3
      omega
    · have k2 := hr (i - B) (by omega) (by omega)
      rw [show B + (i - B) = i by omega] at k2
      omega)]
  refine ⟨_, _, rfl, by omega, ?_⟩
  rw [ov_ri (by omega)]
end AG
