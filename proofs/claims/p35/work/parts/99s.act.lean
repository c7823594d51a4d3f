/-! effects of decisions: an activity -/
section EA
variable {N N' : Int} {uf : Int → Int} {r r' : Rst} {m m' : Mem} {w n k x y q s b c a v row I A R o t l : Int}
theorem ur_comm {j a : Nat} {i i' v v' : Int} (h : j ≠ a) : ur (ur r j i v) a i' v' = ur (ur r a i' v') j i v := by
  funext c d
  by_cases e : c = j ∧ d = i
  · rw [ur_n (by omega), ur_e e.1 e.2, ur_e e.1 e.2]
  · rw [ur_n (j := j) (r := ur r a i' v') (by omega)]
    by_cases f : c = a ∧ d = i'
    · rw [ur_e f.1 f.2, ur_e f.1 f.2]
    · rw [ur_n (by omega), ur_n (by omega), ur_n (by omega)]
theorem ur_twice {j : Nat} {i v v' : Int} : ur (ur r j i v) j i v' = ur r j i v' := by
  funext c d
  by_cases e : c = j ∧ d = i
  · rw [ur_e e.1 e.2, ur_e e.1 e.2]
  · rw [ur_n (by omega), ur_n (by omega), ur_n (by omega)]
/-- the history of a run, read only so far; one event further -/
theorem ov_wr (hK : r 19 (80 * rw9 r w + b) = k ∧ r 20 (80 * rw9 r w + b) = x ∧ r 21 (80 * rw9 r w + b) = y) : wr w k x y (ur r 18 (rw9 r w) b) = ur r 18 (rw9 r w) (b + 1) := by
  have e9 : rw9 (ur r 18 (rw9 r w) b) w = rw9 r w := by unfold rw9; rw [ur_n (by omega)]
  unfold wr
  rw [e9, ur_e rfl rfl]
  funext c d
  by_cases e : c = 18 ∧ d = rw9 r w
  · rw [ur_e e.1 e.2, ur_e e.1 e.2]
  · rw [ur_n (by omega), ur_n (j := 18) (v := b + 1) (by omega)]
    by_cases f : d = 80 * rw9 r w + b
    · by_cases g : c = 21
      · rw [ur_e g f, g, f, hK.2.2]
      · rw [ur_n (by omega)]
        by_cases g2 : c = 20
        · rw [ur_e g2 f, g2, f, hK.2.1]
        · rw [ur_n (by omega)]
          by_cases g3 : c = 19
          · rw [ur_e g3 f, g3, f, hK.1]
          · rw [ur_n (by omega), ur_n (by omega)]
    · rw [ur_n (by omega), ur_n (by omega), ur_n (by omega), ur_n (by omega)]
/-- the reference's fields behind a new activity -/
def paR (w q : Int) (r : Rst) : Rst := ur (ur (ur (ur (ur (ur (ur r 23 (80 * w + r 22 w) 1) 24 (80 * w + r 22 w) q) 25 (80 * w + r 22 w) 0) 26 (80 * w + r 22 w) (r 1 0)) 28 (80 * w + r 22 w) (r 29 0)) 29 0 (r 29 0 + 1)) 22 w (r 22 w + 1)
theorem pa_o {j : Nat} {i : Int} (h : ¬ (j = 22 ∧ i = w ∨ (23 ≤ j ∧ j ≤ 28 ∧ j ≠ 27) ∧ i = 80 * w + r 22 w ∨ j = 29 ∧ i = 0)) : paR w q r j i = r j i := by
  unfold paR
  rw [ur_n (by omega), ur_n (by omega), ur_n (by omega), ur_n (by omega), ur_n (by omega), ur_n (by omega), ur_n (by omega)]
theorem pa_j {j : Nat} (h : j < 22 ∨ j = 27 ∨ 29 < j) : paR w q r j = r j := by
  funext i
  exact pa_o (by omega)
theorem pa_v : paR w q r 22 w = r 22 w + 1 ∧ paR w q r 29 0 = r 29 0 + 1 ∧ paR w q r 23 (80 * w + r 22 w) = 1 ∧ paR w q r 24 (80 * w + r 22 w) = q ∧ paR w q r 25 (80 * w + r 22 w) = 0 ∧ paR w q r 26 (80 * w + r 22 w) = r 1 0 ∧ paR w q r 28 (80 * w + r 22 w) = r 29 0 := by
  unfold paR
  refine ⟨ur_e rfl rfl, ?_, ?_, ?_, ?_, ?_, ?_⟩ <;> simp (disch := omega) only [ur_n, ur_e]
theorem pa_ov : paR w q (ur r 18 row c) = ur (paR w q r) 18 row c := by
  unfold paR
  rw [ur_n (j := 18) (a := 22) (by omega), ur_n (j := 18) (a := 1) (by omega), ur_n (j := 18) (a := 29) (by omega)]
  rw [ur_comm (j := 18) (a := 23) (by omega), ur_comm (j := 18) (a := 24) (by omega), ur_comm (j := 18) (a := 25) (by omega), ur_comm (j := 18) (a := 26) (by omega), ur_comm (j := 18) (a := 28) (by omega), ur_comm (j := 18) (a := 29) (by omega), ur_comm (j := 18) (a := 22) (by omega)]
theorem g_putsAct (w0 : 0 ≤ w) (w1 : w < 10) (n0 : 0 ≤ r 22 w) (n1 : r 22 w < 80) (b29 : 0 ≤ r 29 0 ∧ r 29 0 ≤ 1000000) : G_putsActivity w q r = some (0, paR w q r) := by
  unfold G_putsActivity G_putsActivity_0 paR
  repeat rw [chk_t (by omega)]
  rw [stg_e]
  repeat rw [chk_t (by omega)]
  rw [stg_e]
  repeat rw [chk_t (by omega)]
  rw [stg_e]
  repeat rw [chk_t (by omega)]
  rw [stg_e, ur_n (a := 1) (by omega), ur_n (a := 1) (by omega), ur_n (a := 1) (by omega)]
  repeat rw [chk_t (by omega)]
  rw [stg_e]
  have e29 : ur (ur (ur (ur r 23 (80 * w + r 22 w) 1) 24 (80 * w + r 22 w) q) 25 (80 * w + r 22 w) 0) 26 (80 * w + r 22 w) (r 1 0) 29 0 = r 29 0 := by simp (disch := omega) only [ur_n]
  have e29' : ur (ur (ur (ur (ur r 23 (80 * w + r 22 w) 1) 24 (80 * w + r 22 w) q) 25 (80 * w + r 22 w) 0) 26 (80 * w + r 22 w) (r 1 0)) 28 (80 * w + r 22 w) (r 29 0) 29 0 = r 29 0 := by simp (disch := omega) only [ur_n]
  have e22 : ur (ur (ur (ur (ur (ur r 23 (80 * w + r 22 w) 1) 24 (80 * w + r 22 w) q) 25 (80 * w + r 22 w) 0) 26 (80 * w + r 22 w) (r 1 0)) 28 (80 * w + r 22 w) (r 29 0)) 29 0 (r 29 0 + 1) 22 w = r 22 w := by simp (disch := omega) only [ur_n]
  rw [e29, e29']
  repeat rw [chk_t (by omega)]
  rw [stg_e, e22]
  repeat rw [chk_t (by omega)]
  rw [stg_e]
theorem x_init0 (hI : 0 < I) (hA : 0 < A) (hR : 0 < R) (hIA : I ≠ A) (hIR : I ≠ R) (eR : m A 6 = R) (en : m R 3 = n) (b0 : 0 ≤ m A 0 ∧ m A 0 < 10 ∧ 0 ≤ m A 5 ∧ m A 5 ≤ 9 ∧ 0 ≤ n ∧ n < 80) : ∃ m', X0_init I A q o t m = some (0, m') ∧ (∀ i, i ≠ I → m' i = m i) ∧ (m' I 0 = R ∧ m' I 1 = n ∧ m' I 2 = q ∧ m' I 3 = m A 2 ∧ m' I 4 = o ∧ m' I 5 = 1000 * m A 0 + 100 * m A 5 + n ∧ m' I 6 = 0 ∧ m' I 7 = t ∧ m' I 9 = m I 9) := by
  unfold X0_init X0_init_0
  rw [chk_t hI, st_e, chk_t hA, st_e]
  have r1 : upd9 m I 6 0 A 6 = R := by rw [upd9_n (by omega), eR]
  rw [r1]
  have r2 : upd9 (upd9 m I 6 0) I 0 R I 0 = R := upd9_e rfl rfl
  have r3 : upd9 (upd9 m I 6 0) I 0 R R 3 = n := by rw [upd9_n (by omega), upd9_n (by omega), en]
  rw [r2, chk_t hR, r3, st_e, st_e]
  obtain ⟨m7, h7⟩ : ∃ m7, m7 = upd9 (upd9 (upd9 (upd9 m I 6 0) I 0 R) I 1 n) I 2 q := ⟨_, rfl⟩
  rw [← h7]
  have o7 : ∀ i, i ≠ I → m7 i = m i := fun i hi => by rw [h7, upd9_row hi, upd9_row hi, upd9_row hi, upd9_row hi]
  have v7 : m7 I 0 = R ∧ m7 I 1 = n ∧ m7 I 2 = q ∧ m7 I 6 = 0 ∧ m7 I 9 = m I 9 := by
    rw [h7]
    refine ⟨?_, ?_, ?_, ?_, ?_⟩ <;> simp (disch := omega) only [upd9_n, upd9_e]
  clear h7
  have a2 : m7 A 2 = m A 2 := by rw [o7 A (by omega)]
  rw [a2, st_e, st_e]
  obtain ⟨m9, h9⟩ : ∃ m9, m9 = upd9 (upd9 m7 I 3 (m A 2)) I 4 o := ⟨_, rfl⟩
  rw [← h9]
  have o9 : ∀ i, i ≠ I → m9 i = m i := fun i hi => by rw [h9, upd9_row hi, upd9_row hi, o7 i hi]
  have v9 : m9 I 0 = R ∧ m9 I 1 = n ∧ m9 I 2 = q ∧ m9 I 3 = m A 2 ∧ m9 I 4 = o ∧ m9 I 6 = 0 ∧ m9 I 9 = m I 9 := by
    rw [h9]
    refine ⟨?_, ?_, ?_, ?_, ?_, ?_, ?_⟩ <;> simp (disch := omega) only [upd9_n, upd9_e, v7]
  clear h9
  have a0 : m9 A 0 = m A 0 := by rw [o9 A (by omega)]
  have a5 : m9 A 5 = m A 5 := by rw [o9 A (by omega)]
  rw [a0, a5, v9.2.1]
  repeat rw [chk_t (by omega)]
  rw [st_e, st_e]
  obtain ⟨z0, z1, z2, z3, z4, z6, z9⟩ := v9
  refine ⟨_, rfl, fun i hi => by rw [upd9_row hi, upd9_row hi, o9 i hi], ?_, ?_, ?_, ?_, ?_, ?_, ?_, ?_, ?_⟩
  · rw [upd9_n (by omega), upd9_n (by omega)]; exact z0
  · rw [upd9_n (by omega), upd9_n (by omega)]; exact z1
  · rw [upd9_n (by omega), upd9_n (by omega)]; exact z2
  · rw [upd9_n (by omega), upd9_n (by omega)]; exact z3
  · rw [upd9_n (by omega), upd9_n (by omega)]; exact z4
  · rw [upd9_n (by omega), upd9_e rfl rfl]
  · rw [upd9_n (by omega), upd9_n (by omega)]; exact z6
  · exact upd9_e rfl rfl
  · rw [upd9_n (by omega), upd9_n (by omega)]; exact z9
/-- the class makes an activity -/
theorem x_newact (hA : 1000 < A) (hAR : A < R) (eR : m A 6 = R) (en : m R 3 = n) (e1 : m R 1 = R + 5) (n0 : 0 ≤ n) (n1 : n < 80) (bA : 0 ≤ m A 0 ∧ m A 0 < 10 ∧ 0 ≤ m A 5 ∧ m A 5 ≤ 9) (fz : m (-1) (R + 100 + n) = 0) (b6 : 0 ≤ m 1 6 ∧ m 1 6 ≤ 1000000) (hl : l = 8 ∨ l = 15) : ∃ m', X11_takeEffect 1 A l a q m = some (0, m') ∧ (∀ i, i ≠ 1 → i ≠ R → i ≠ R + 5 → i ≠ R + 100 + n → i ≠ -1 → i ≠ -2 → m' i = m i) ∧ (∀ i, i ≠ R + 100 + n → m' (-1) i = m (-1) i) ∧ (m' (-2) 0 = m (-2) 0 + 1 ∧ m' (-2) 1 = m (-2) 1 + 10) ∧ (∀ j, m' 1 j = if j = 6 then m 1 6 + 1 else m 1 j) ∧ (∀ j, m' R j = if j = 3 then n + 1 else m R j) ∧ (∀ j, m' (R + 5) j = if j = n then R + 100 + n else m (R + 5) j) ∧ (m' (R + 100 + n) 0 = R ∧ m' (R + 100 + n) 1 = n ∧ m' (R + 100 + n) 2 = q ∧ m' (R + 100 + n) 3 = m A 2 ∧ m' (R + 100 + n) 4 = m 1 6 ∧ m' (R + 100 + n) 5 = 1000 * m A 0 + 100 * m A 5 + n ∧ m' (R + 100 + n) 6 = 0 ∧ m' (R + 100 + n) 7 = m 1 7 ∧ m' (R + 100 + n) 9 = 0) := by
  have red : X11_takeEffect 1 A l a q m = X11_takeEffect 1 A 8 a q m := by
    rcases hl with rfl | rfl
    · rfl
    · unfold X11_takeEffect X11_takeEffect_0
      rw [if_t (show (8 : Int) = 8 from rfl), if_f (show ¬ (15 : Int) = 8 by decide), if_f (show ¬ (15 : Int) = 9 by decide), if_f (show ¬ (15 : Int) = 10 by decide), if_f (show ¬ (15 : Int) = 11 by decide), if_f (show ¬ (15 : Int) = 12 by decide), if_f (show ¬ (15 : Int) = 13 by decide), if_f (show ¬ (15 : Int) = 14 by decide), if_t (show (15 : Int) = 15 from rfl)]
  rw [red]
  clear red hl
  unfold X11_takeEffect X11_takeEffect_0
  rw [chk_t (by omega), if_t rfl, eR, en, vl_e, chk_t ⟨by omega, fz⟩, st_e, chk_t (by omega)]
  obtain ⟨I, hI⟩ : ∃ I, I = R + 100 + n := ⟨_, rfl⟩
  rw [← hI] at fz ⊢
  have k1 : ∀ j, alo9 m I 10 10 1 j = m 1 j := fun j => by rw [alo_row (by omega) (by omega) (by omega)]
  have kA : ∀ j, alo9 m I 10 10 A j = m A j := fun j => by rw [alo_row (by omega) (by omega) (by omega)]
  have kR : ∀ j, alo9 m I 10 10 R j = m R j := fun j => by rw [alo_row (by omega) (by omega) (by omega)]
  obtain ⟨m9, z0, z1, z2⟩ := x_init0 (m := alo9 m I 10 10) (I := I) (A := A) (R := R) (n := n) (q := q) (o := m 1 6) (t := m 1 7) (by omega) (by omega) (by omega) (by omega) (by omega) (by rw [kA, eR]) (by rw [kR, en]) (by rw [kA, kA]; omega)
  rw [kA, kA, kA, alo_z] at z2
  rw [k1, k1, z0, cal_e, chk_t (by omega)]
  have o9 : ∀ i, i ≠ I → i ≠ -1 → i ≠ -2 → m9 i = m i := fun i c d e => by rw [z1 i c, alo_row c d e]
  have r3 : m9 R 3 = n := by rw [o9 R (by omega) (by omega) (by omega), en]
  have r1 : m9 R 1 = R + 5 := by rw [o9 R (by omega) (by omega) (by omega), e1]
  have xa : X7_addActivity R I m9 = some (0, upd9 (upd9 m9 (R + 5) n I) R 3 (n + 1)) := by
    unfold X7_addActivity X7_addActivity_0
    have q3 : upd9 m9 (R + 5) n I R 3 = n := by rw [upd9_n (by omega), r3]
    rw [r3, r1, if_f (by omega), st_e, q3]
    repeat rw [chk_t (by omega)]
    rw [st_e]
  rw [xa, cal_e]
  have q6 : upd9 (upd9 m9 (R + 5) n I) R 3 (n + 1) 1 6 = m 1 6 := by rw [upd9_n (by omega), upd9_n (by omega), o9 1 (by omega) (by omega) (by omega)]
  rw [q6, chk_t (by omega), st_e]
  refine ⟨_, rfl, fun i c d e f g h => ?_, fun i c => ?_, ⟨?_, ?_⟩, fun j => ?_, fun j => ?_, fun j => ?_, ?_⟩
  · rw [upd9_row c, upd9_row d, upd9_row e, o9 i (by omega) g h]
  · rw [upd9_n (by omega), upd9_n (by omega), upd9_n (by omega), z1 (-1) (by omega), alo_t (by omega), if_f c]
  · rw [upd9_n (by omega), upd9_n (by omega), upd9_n (by omega), z1 (-2) (by omega), (alo_c (by omega)).1]
  · rw [upd9_n (by omega), upd9_n (by omega), upd9_n (by omega), z1 (-2) (by omega), (alo_c (by omega)).2]
  · by_cases c : j = 6
    · rw [if_t c, upd9_e rfl c]
    · rw [if_f c, upd9_n (by omega), upd9_n (by omega), upd9_n (by omega), o9 1 (by omega) (by omega) (by omega)]
  · by_cases c : j = 3
    · rw [if_t c, upd9_n (by omega), upd9_e rfl c]
    · rw [if_f c, upd9_n (by omega), upd9_n (by omega), upd9_n (by omega), o9 R (by omega) (by omega) (by omega)]
  · by_cases c : j = n
    · rw [if_t c, upd9_n (by omega), upd9_n (by omega), upd9_e rfl c]
    · rw [if_f c, upd9_n (by omega), upd9_n (by omega), upd9_n (by omega), o9 (R + 5) (by omega) (by omega) (by omega)]
  · rw [upd9_row (by omega), upd9_row (by omega), upd9_row (by omega)]
    exact z2
theorem Hi.frow (h : Hi r m w) (s1 : 1 ≤ r 12 w) (h9 : r 12 w ≤ 9) (hE : ∀ row, 9 * w ≤ row → row < 9 * w + 9 → r 18 row ≤ 80) (em : ∀ k i, 1 ≤ k → k ≤ r 12 w → 100000 * (w + 1) + 10000 * k ≤ i → i ≤ 100000 * (w + 1) + 10000 * k + 4 → i ≠ Rl r w → m' i = m i) (eR : m' (Rl r w) 0 = m (Rl r w) 0 ∧ m' (Rl r w) 1 = m (Rl r w) 1 ∧ m' (Rl r w) 2 = m (Rl r w) 2 ∧ m' (Rl r w) 7 = m (Rl r w) 7) (er : ∀ j i, Own w j i → j = 12 ∨ (17 ≤ j ∧ j ≤ 21) → r' j i = r j i) : Hi r' m' w := by
  have e12 : r' 12 w = r 12 w := er 12 w (by unfold Own; omega) (by omega)
  have e : Rl r w = 100000 * (w + 1) + 10000 * r 12 w := rfl
  intro k k0 k1
  rw [e12] at k1
  have hr := hE (9 * w + k - 1) (by omega) (by omega)
  have u := h k k0 k1
  by_cases c : k = r 12 w
  · have e2 : 100000 * (w + 1) + 10000 * k = Rl r w := by rw [c]; rfl
    have e17 := er 17 (9 * w + k - 1) (by unfold Own; omega) (by omega)
    have e18 := er 18 (9 * w + k - 1) (by unfold Own; omega) (by omega)
    have em' : ∀ i, Rl r w + 1 ≤ i → i ≤ Rl r w + 4 → m' i = m i := fun i a b => em k i k0 k1 (by omega) (by omega) (by omega)
    rw [e2] at u ⊢
    unfold Ru at *
    rw [eR.1, eR.2.1, eR.2.2.1, eR.2.2.2, em' (Rl r w + 1) (by omega) (by omega), em' (Rl r w + 2) (by omega) (by omega), em' (Rl r w + 3) (by omega) (by omega), em' (Rl r w + 4) (by omega) (by omega), e17, e18]
    refine ⟨u.1, fun e e0 e1 => ?_⟩
    rw [er 19 _ (by unfold Own; omega) (by omega), er 20 _ (by unfold Own; omega) (by omega), er 21 _ (by unfold Own; omega) (by omega)]
    exact u.2 e e0 e1
  · exact u.fr (fun i a b => em k i k0 k1 a b (by omega)) (er 17 _ (by unfold Own; omega) (by omega)) (er 18 _ (by unfold Own; omega) (by omega)) fun j e a b c d => er j _ (by unfold Own; omega) (by omega)
end EA
