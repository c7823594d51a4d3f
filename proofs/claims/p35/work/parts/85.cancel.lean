/-! a cancel is asked for, on both sides -/
def hk (r : Rst) (w : Int) : Int → Int := fun i => r 19 (80 * rw9 r w + i)
def CaW (r : Rst) (m : Mem) (w : Int) : Prop := m (Rl r w) 10 = can (hk r w) (r 18 (rw9 r w)).toNat
theorem can_01 {f : Int → Int} : ∀ {n : Nat}, can f n = 0 ∨ can f n = 1
  | 0 => Or.inl rfl
  | n + 1 => by
    rw [can]
    split
    · exact Or.inr rfl
    · exact can_01
theorem can_congr {f g : Int → Int} : ∀ {n : Nat}, (∀ i : Int, 0 ≤ i → i < n → f i = g i) → can f n = can g n
  | 0, _ => rfl
  | n + 1, h => by
    rw [can, can, can_congr fun i a b => h i a (by omega), h n (by omega) (by omega)]
section CN
variable {r : Rst} {m : Mem} {w : Int}
theorem rw9_wr {k x y w2 : Int} : rw9 (wr w k x y r) w2 = rw9 r w2 := by
  unfold rw9
  rw [wr_n (by omega)]
theorem Rl_wr {k x y w2 : Int} : Rl (wr w k x y r) w2 = Rl r w2 := by
  unfold Rl
  rw [wr_n (by omega)]
theorem hk_wr {k x y i : Int} : hk (wr w k x y r) w i = if i = r 18 (rw9 r w) then k else hk r w i := by
  unfold hk
  rw [rw9_wr]
  by_cases c : i = r 18 (rw9 r w)
  · rw [if_t c, c, wr_v.1]
  · rw [if_f c, wr_o (by omega) (by omega)]
theorem can_wr {k x y : Int} (h0 : 0 ≤ r 18 (rw9 r w)) : can (hk (wr w k x y r) w) (wr w k x y r 18 (rw9 (wr w k x y r) w)).toNat = if k = 6 then 1 else can (hk r w) (r 18 (rw9 r w)).toNat := by
  rw [rw9_wr, wr_18, show (r 18 (rw9 r w) + 1).toNat = (r 18 (rw9 r w)).toNat + 1 by omega, can, hk_wr, if_t (show (((r 18 (rw9 r w)).toNat : Nat) : Int) = r 18 (rw9 r w) by omega)]
  rw [can_congr (f := hk (wr w k x y r) w) (g := hk r w) fun i a b => by rw [hk_wr, if_f (show ¬ i = r 18 (rw9 r w) by omega)]]
theorem g_can4 {k54 : Int → Int → Rst → Option G2} (w0 : 0 ≤ w) (w1 : w < 10) (h0 : 1 ≤ r 12 w) (h1 : r 12 w ≤ 9) (h2 : 0 ≤ r 18 (rw9 r w)) (h3 : r 18 (rw9 r w) ≤ 80) : ∀ (t : Nat) (l was : Int), 0 ≤ l → l ≤ r 18 (rw9 r w) → r 18 (rw9 r w) - l < t → was = can (hk r w) l.toNat → G_cancels_4 k54 t w was l r = k54 w (can (hk r w) (r 18 (rw9 r w)).toNat) r := by
  have er : rw9 r w = 9 * w + r 12 w - 1 := rfl
  intro t
  induction t with
  | zero => intro l was a b c; omega
  | succ t ih =>
    intro l was a b c d
    rw [G_cancels_4, g_rowOfRun w0 w1 (by omega) h1, cag_e, chk_t (by omega)]
    by_cases e : r 18 (rw9 r w) ≤ l
    · rw [if_t e, d, show l = r 18 (rw9 r w) by omega]
    · rw [if_f e]
      have cn : can (hk r w) (l + 1).toNat = if hk r w l = 6 then 1 else can (hk r w) l.toNat := by
        rw [show (l + 1).toNat = l.toNat + 1 by omega, can, show ((l.toNat : Nat) : Int) = l by omega]
      by_cases f : was = 0
      · rw [if_t f, g_rowOfRun w0 w1 (by omega) h1, cag_e, chk_t (by omega), chk_t (by omega), chk_t (by omega)]
        by_cases u : r 19 (80 * rw9 r w + l) = 6
        · rw [if_t u, chk_t (by omega)]
          exact ih (l + 1) 1 (by omega) (by omega) (by omega) (by rw [cn, if_t (show hk r w l = 6 from u)])
        · rw [if_f u, chk_t (by omega)]
          exact ih (l + 1) 0 (by omega) (by omega) (by omega) (by rw [cn, if_f (show ¬ hk r w l = 6 from u), ← d, f])
      · rw [if_f f, chk_t (by omega)]
        refine ih (l + 1) 1 (by omega) (by omega) (by omega) ?_
        have h01 := can_01 (f := hk r w) (n := l.toNat)
        rw [cn]
        split
        · rfl
        · omega
theorem g_cancels (w0 : 0 ≤ w) (w1 : w < 10) (h0 : 1 ≤ r 12 w) (h1 : r 12 w ≤ 9) (h2 : 0 ≤ r 18 (rw9 r w)) (h3 : r 18 (rw9 r w) ≤ 80) : G_cancels w r = some (if can (hk r w) (r 18 (rw9 r w)).toNat = 0 ∧ r 17 (rw9 r w) = 20 ∧ r 18 (rw9 r w) < 78 then (1, wr w 6 0 0 r) else (0, r)) := by
  have f9 := fuel9_ge
  unfold G_cancels G_cancels_0
  rw [g_can4 w0 w1 h0 h1 h2 h3 fuel9 0 0 (by omega) h2 (by omega) rfl]
  unfold G_cancels_54
  by_cases c : can (hk r w) (r 18 (rw9 r w)).toNat = 0
  · rw [if_t c, g_happens w0 w1 h0 h1 h2]
    by_cases d : r 17 (rw9 r w) = 20 ∧ r 18 (rw9 r w) < 78
    · rw [if_t d, cag_e, if_f (by decide), boolG_e (Or.inr rfl), if_t ⟨c, d⟩]
    · rw [if_f d, cag_e, if_t rfl, boolG_e (Or.inl rfl), if_f (fun h => d h.2)]
  · rw [if_f c, boolG_e (Or.inl rfl), if_f (fun h => c h.1)]
/-- a cancel is asked for, on both sides -/
theorem rel_cancel (h : RelM r m) (g : Rg r) (ca : CaW r m w) (w0 : 0 ≤ w) (w1 : w < r 16 0) : ∃ v m' r', X7_askCancel (Rl r w) m = some (v, m') ∧ G_cancels w r = some (v, r') ∧ (v = 0 ∨ v = 1) ∧ RelM r' m' ∧ CaW r' m' w ∧ (v = 1 ∧ (can (hk r w) (r 18 (rw9 r w)).toNat = 0 ∧ r 17 (rw9 r w) = 20 ∧ r 18 (rw9 r w) < 78) ∧ r' = wr w 6 0 0 r ∧ m' = upd9 (put9 (Rl r w + 1) 6 0 0 m) (Rl r w) 10 1 ∨ v = 0 ∧ ¬ (can (hk r w) (r 18 (rw9 r w)).toNat = 0 ∧ r 17 (rw9 r w) = 20 ∧ r 18 (rw9 r w) < 78) ∧ r' = r ∧ m' = m) := by
  have s := g.2.2 w w0 w1
  obtain ⟨s1, s2, s3, s4, s5, s6⟩ := s
  have b10 := g.1.2
  have er : rw9 r w = 9 * w + r 12 w - 1 := rfl
  have eR : Rl r w = 100000 * (w + 1) + 10000 * r 12 w := rfl
  have h6 := s6 (rw9 r w) (by omega) (by omega)
  rw [g_cancels w0 (by omega) s1 s2 h6.1 h6.2]
  have h01 := can_01 (f := hk r w) (n := (r 18 (rw9 r w)).toNat)
  unfold X7_askCancel X7_askCancel_0
  rw [chk_t (by omega)]
  have ca' : m (Rl r w) 10 = can (hk r w) (r 18 (rw9 r w)).toNat := ca
  by_cases c : can (hk r w) (r 18 (rw9 r w)).toNat = 0
  · rw [if_t (show m (Rl r w) 10 = 0 by rw [ca', c])]
    obtain ⟨v, m', r', k1, k2, k3, ⟨rfl, k4, k5, rfl, rfl⟩ | ⟨rfl, k4, rfl, rfl⟩⟩ := rel_happen (k := 6) (x := 0) (y := 0) h g w0 w1
    · rw [k1, cal_e, if_f (by decide), st_e, if_t ⟨c, k4, k5⟩]
      have g' : Rg (wr w 6 0 0 r) := by
        unfold Rg Sz at *
        simp (disch := omega) only [wr_n]
        refine ⟨g.1, g.2.1, fun x a b => ?_⟩
        obtain ⟨a1, a2, a3, a4, a5, a6⟩ := g.2.2 x a b
        refine ⟨a1, a2, a3, a4, a5, fun row c d => ?_⟩
        by_cases e : row = rw9 r w
        · rw [e, wr_18]; omega
        · rw [wr_o (by omega) (by omega)]; exact a6 row c d
      refine ⟨1, _, _, boolR_e (Or.inr rfl), rfl, Or.inr rfl, ?_, ?_, Or.inl ⟨rfl, ⟨c, k4, k5⟩, rfl, rfl⟩⟩
      · have u := (k3.2.2.2.2.2.1 w w0 (by rw [wr_n (by omega)]; exact w1))
        have u2 := u.2.1 (r 12 w) s1 (by rw [wr_n (by omega)]; exact Int.le_refl _)
        rw [← eR, ← er] at u2
        refine rel_row k3 g' w0 (by rw [wr_n (by omega)]; exact w1) (fun i hi => ?_) ⟨?_, ?_, ?_⟩ ?_ ?_ (fun j i _ => rfl)
        · rw [Rl_wr] at hi
          exact upd9_row hi
        · rw [Rl_wr, upd9_n (by omega)]
        · rw [Rl_wr, upd9_n (by omega)]
        · rw [Rl_wr, upd9_n (by omega)]
        · rw [Rl_wr, rw9_wr, upd9_n (by omega)]
          exact u2.1.2.2.2.1
        · have l := u.2.2.1
          unfold Lt at *
          rw [Rl_wr] at *
          simp (disch := omega) only [upd9_n]
          exact l
      · unfold CaW
        rw [can_wr h6.1, if_t rfl, Rl_wr, upd9_e rfl rfl]
    · rw [k1, cal_e, if_t rfl, if_f (fun hh => k4 hh.2)]
      exact ⟨0, _, _, boolR_e (Or.inl rfl), rfl, Or.inl rfl, h, ca, Or.inr ⟨rfl, fun hh => k4 hh.2, rfl, rfl⟩⟩
  · rw [if_f (show ¬ m (Rl r w) 10 = 0 by rw [ca']; exact c), if_f (fun hh => c hh.1)]
    exact ⟨0, _, _, boolR_e (Or.inl rfl), rfl, Or.inl rfl, h, ca, Or.inr ⟨rfl, fun hh => c hh.1, rfl, rfl⟩⟩
end CN
