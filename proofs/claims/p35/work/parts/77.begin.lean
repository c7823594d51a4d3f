/-! the class's player begins -/
/-- where the player's own things lie -/
def Pl (m : Mem) : Prop := (m 100 0 = 101 ∧ m 100 1 = 110 ∧ m 100 3 = 111 ∧ m 100 4 = 112 ∧ m 100 5 = 113 ∧ m 101 0 = 102 ∧ m 101 1 = 103 ∧ m 101 2 = 104) ∧ ∀ i, 0 ≤ i → i < 3 → m 111 i = 130 + i
def qOf (m : Mem) : Rst := fun j i => if j = 20 then m 110 i else if j = 22 then m 112 i else if j = 23 then m 113 i else if j = 42 then m 102 i else if j = 43 then m 103 i else if j = 44 then m 104 i else if 50 ≤ j then m (130 + i) ((j - 50 : Nat) : Int) else if 30 ≤ j then m 101 ((j - 30 : Nat) : Int) else if j = 2 then m 100 2 else if j = 19 then m 100 6 else m 100 ((j + 1 : Nat) : Int)
theorem qOf_hq {m : Mem} (h : Pl m) : Hq (qOf m) m := by
  refine ⟨h.1, h.2, fun j hj => ?_, fun j hj => ?_, fun i => ?_, fun i => ?_, fun i => ?_, fun i => ?_, fun i => ?_, fun i => ?_, fun i j h0 h1 h2 => ?_⟩
  · have hj2 : j = 2 ∨ j = 6 ∨ (8 ≤ j ∧ j ≤ 19) := of_decide_eq_true hj
    rcases hj2 with h | h | h
    · subst h; rfl
    · subst h; rfl
    · have e : qo j = j - 1 := by
        unfold qo
        rw [if_neg (by omega), if_neg (by omega)]
      rw [e]
      unfold qOf
      rw [if_f (by omega), if_f (by omega), if_f (by omega), if_f (by omega), if_f (by omega), if_f (by omega), if_f (by omega), if_f (by omega), if_f (by omega), if_f (by omega)]
      congr 2
      omega
  · have hj2 : (3 ≤ j ∧ j ≤ 8) ∨ j = 10 ∨ j = 11 := of_decide_eq_true hj
    unfold qOf
    rw [if_f (by omega), if_f (by omega), if_f (by omega), if_f (by omega), if_f (by omega), if_f (by omega), if_f (by omega), if_t (by omega)]
    congr 2
    omega
  · rfl
  · rfl
  · rfl
  · rfl
  · rfl
  · rfl
  · unfold qOf
    rw [if_f (by omega), if_f (by omega), if_f (by omega), if_f (by omega), if_f (by omega), if_f (by omega), if_t (by omega)]
    congr 2
    omega
theorem Pl.fr {m m' : Mem} (h : Pl m) (e : m' 100 0 = m 100 0 ∧ m' 100 1 = m 100 1 ∧ m' 100 3 = m 100 3 ∧ m' 100 4 = m 100 4 ∧ m' 100 5 = m 100 5 ∧ m' 101 0 = m 101 0 ∧ m' 101 1 = m 101 1 ∧ m' 101 2 = m 101 2 ∧ ∀ i, m' 111 i = m 111 i) : Pl m' := by
  obtain ⟨e1, e2, e3, e4, e5, e6, e7, e8, e9⟩ := e
  unfold Pl
  rw [e1, e2, e3, e4, e5, e6, e7, e8]
  exact ⟨h.1, fun i a b => by rw [e9]; exact h.2 i a b⟩
theorem Hp.pl {q pg hs : Rst} {P H : Int} {m : Mem} (h : Hp q pg hs P H m) : Pl m := ⟨h.1.1, h.1.2.1⟩
section BG
variable {pg hs : Rst} {P H E : Int}
theorem hb_21 {k42 : Rst → Option G2} : ∀ (n : Nat) (l4 : Int) (q : Rst), 0 ≤ l4 → l4 ≤ 80 → 80 - l4 < n → ∃ q', H_4_begin_21 pg hs k42 n l4 q = k42 q' ∧ (∀ j : Nat, j ≠ 20 → q' j = q j) ∧ ∀ i, 0 ≤ i → i < 80 → q' 20 i = if l4 ≤ i then 0 else q 20 i := by
  intro n
  induction n with
  | zero => intro l4 q h0 h1 h2; omega
  | succ n ih =>
    intro l4 q h0 h1 h2
    rw [H_4_begin_21]
    by_cases c : 80 ≤ l4
    · rw [if_t c]
      exact ⟨q, rfl, fun _ _ => rfl, fun i a b => by rw [if_f (by omega)]⟩
    · rw [if_f c, chk_t (by omega), stg_e, chk_t (by omega)]
      obtain ⟨q', k1, k2, k3⟩ := ih (l4 + 1) (ur q 20 l4 0) (by omega) (by omega) (by omega)
      refine ⟨q', k1, fun j hj => by rw [k2 j hj, ur_ne hj], fun i a b => ?_⟩
      rw [k3 i a b]
      by_cases d : l4 = i
      · rw [if_f (by omega), if_t (by omega), ur_e rfl d.symm]
      · by_cases d2 : l4 ≤ i
        · rw [if_t (by omega), if_t d2]
        · rw [if_f (by omega), if_f d2, ur_n (by omega)]
/-- what the player is like when it has begun -/
def Q0 (run : Int) (q : Rst) : Prop := (q 2 0 = 0 ∧ q 7 0 = run ∧ q 8 0 = 0 ∧ q 9 0 = 0 ∧ q 11 0 = 0 ∧ q 12 0 = 0 ∧ q 14 0 = 0 ∧ q 15 0 = 0 ∧ q 18 0 = 0) ∧ (q 33 0 = 0 ∧ q 34 0 = 0 ∧ q 35 0 = 0 ∧ q 36 0 = 0 ∧ q 38 0 = 0) ∧ (∀ i, 0 ≤ i → i < 80 → q 20 i = 0) ∧ q 19 0 = 0
theorem x_begin {run : Int} {m : Mem} (hl : Pl m) (hP : Ob pg P m) (hH : Ob hs H m) (hE : hs 3 0 = E) (hE0 : 0 ≤ E) (hE8 : E ≤ 80) : ∃ q m', X4_begin 100 P H run m = some (0, m') ∧ Hp q pg hs P H m' ∧ FrH m m' ∧ Q0 run q ∧ La hs E 0 q := by
  unfold X4_begin X4_begin_0 X1_begin X1_begin_0
  have e0 : upd9 (upd9 m 100 7 P) 100 8 run 100 0 = 101 := by rw [upd9_n (by omega), upd9_n (by omega)]; exact hl.1.1
  rw [chk_t (by omega), st_e, st_e, e0, chk_t (by omega), chk_t (by omega), st_e, st_e, st_e, st_e, st_e, st_e]
  have ez : ∀ a b, (a ≠ 100 ∨ (b ≠ 7 ∧ b ≠ 8)) → (a ≠ 101 ∨ (b ≠ 9 ∧ b ≠ 3 ∧ b ≠ 4 ∧ b ≠ 5 ∧ b ≠ 6 ∧ b ≠ 8)) → upd9 (upd9 (upd9 (upd9 (upd9 (upd9 (upd9 (upd9 m 100 7 P) 100 8 run) 101 9 H) 101 3 0) 101 4 0) 101 5 0) 101 6 0) 101 8 0 a b = m a b := fun a b h1 h2 => by
    rw [upd9_n (by omega), upd9_n (by omega), upd9_n (by omega), upd9_n (by omega), upd9_n (by omega), upd9_n (by omega), upd9_n (by omega), upd9_n (by omega)]
  have z6 : upd9 (upd9 (upd9 (upd9 (upd9 (upd9 (upd9 (upd9 m 100 7 P) 100 8 run) 101 9 H) 101 3 0) 101 4 0) 101 5 0) 101 6 0) 101 8 0 100 7 = P := by simp (disch := omega) only [upd9_n, upd9_e]
  have z7 : upd9 (upd9 (upd9 (upd9 (upd9 (upd9 (upd9 (upd9 m 100 7 P) 100 8 run) 101 9 H) 101 3 0) 101 4 0) 101 5 0) 101 6 0) 101 8 0 100 8 = run := by simp (disch := omega) only [upd9_n, upd9_e]
  have z9 : upd9 (upd9 (upd9 (upd9 (upd9 (upd9 (upd9 (upd9 m 100 7 P) 100 8 run) 101 9 H) 101 3 0) 101 4 0) 101 5 0) 101 6 0) 101 8 0 101 9 = H := by simp (disch := omega) only [upd9_n, upd9_e]
  have z3 : upd9 (upd9 (upd9 (upd9 (upd9 (upd9 (upd9 (upd9 m 100 7 P) 100 8 run) 101 9 H) 101 3 0) 101 4 0) 101 5 0) 101 6 0) 101 8 0 101 3 = 0 := by simp (disch := omega) only [upd9_n, upd9_e]
  have z4 : upd9 (upd9 (upd9 (upd9 (upd9 (upd9 (upd9 (upd9 m 100 7 P) 100 8 run) 101 9 H) 101 3 0) 101 4 0) 101 5 0) 101 6 0) 101 8 0 101 4 = 0 := by simp (disch := omega) only [upd9_n, upd9_e]
  have z5 : upd9 (upd9 (upd9 (upd9 (upd9 (upd9 (upd9 (upd9 m 100 7 P) 100 8 run) 101 9 H) 101 3 0) 101 4 0) 101 5 0) 101 6 0) 101 8 0 101 5 = 0 := by simp (disch := omega) only [upd9_n, upd9_e]
  have z66 : upd9 (upd9 (upd9 (upd9 (upd9 (upd9 (upd9 (upd9 m 100 7 P) 100 8 run) 101 9 H) 101 3 0) 101 4 0) 101 5 0) 101 6 0) 101 8 0 101 6 = 0 := by simp (disch := omega) only [upd9_n, upd9_e]
  have z8 : upd9 (upd9 (upd9 (upd9 (upd9 (upd9 (upd9 (upd9 m 100 7 P) 100 8 run) 101 9 H) 101 3 0) 101 4 0) 101 5 0) 101 6 0) 101 8 0 101 8 = 0 := upd9_e rfl rfl
  have oP : Ob pg P (upd9 (upd9 (upd9 (upd9 (upd9 (upd9 (upd9 (upd9 m 100 7 P) 100 8 run) 101 9 H) 101 3 0) 101 4 0) 101 5 0) 101 6 0) 101 8 0) := (((((((hP.upd (by omega)).upd (by omega)).upd (by omega)).upd (by omega)).upd (by omega)).upd (by omega)).upd (by omega)).upd (by omega)
  have oH : Ob hs H (upd9 (upd9 (upd9 (upd9 (upd9 (upd9 (upd9 (upd9 m 100 7 P) 100 8 run) 101 9 H) 101 3 0) 101 4 0) 101 5 0) 101 6 0) 101 8 0) := (((((((hH.upd (by omega)).upd (by omega)).upd (by omega)).upd (by omega)).upd (by omega)).upd (by omega)).upd (by omega)).upd (by omega)
  have fz : FrH m (upd9 (upd9 (upd9 (upd9 (upd9 (upd9 (upd9 (upd9 m 100 7 P) 100 8 run) 101 9 H) 101 3 0) 101 4 0) 101 5 0) 101 6 0) 101 8 0) := fun i hi j => ez i j (by omega) (by omega)
  have plz : Pl (upd9 (upd9 (upd9 (upd9 (upd9 (upd9 (upd9 (upd9 m 100 7 P) 100 8 run) 101 9 H) 101 3 0) 101 4 0) 101 5 0) 101 6 0) 101 8 0) := hl.fr ⟨ez _ _ (by omega) (by omega), ez _ _ (by omega) (by omega), ez _ _ (by omega) (by omega), ez _ _ (by omega) (by omega), ez _ _ (by omega) (by omega), ez _ _ (by omega) (by omega), ez _ _ (by omega) (by omega), ez _ _ (by omega) (by omega), fun i => ez _ _ (by omega) (by omega)⟩
  clear ez
  generalize upd9 (upd9 (upd9 (upd9 (upd9 (upd9 (upd9 (upd9 m 100 7 P) 100 8 run) 101 9 H) 101 3 0) 101 4 0) 101 5 0) 101 6 0) 101 8 0 = z at *
  have hz : Hp (qOf z) pg hs P H z := ⟨qOf_hq plz, oP, oH, z6, z9⟩
  have f9 := fuel9_ge
  obtain ⟨d, b, d1, d2, d3, d4, d5, d6, d7, d8, d9⟩ := la_ok (pg := pg) (q := qOf z) (a := 0) hE hE8 (by omega) hE0
  obtain ⟨m1, k1, k2, k3⟩ := li_X1_lookAhead hz 0 _ d9
  rw [k1, cal_e, cal_e]
  obtain ⟨q1, r1, r2, r3⟩ := hb_21 (pg := pg) (hs := hs) (k42 := H_4_begin_42 pg hs) fuel9 0 (ur (ur (ur (qOf z) 37 0 (if d < E then 1 else 0)) 40 0 (d + 1)) 41 0 b) (by omega) (by omega) (by omega)
  have e65 : H_4_begin_42 pg hs q1 = some (0, ur (ur (ur (ur (ur (ur (ur (ur (ur (ur (ur (ur (ur q1 2 0 0) 19 0 0) 8 0 0) 9 0 0) 10 0 0) 11 0 0) 12 0 0) 13 0 0) 14 0 0) 15 0 0) 16 0 (-1)) 17 0 0) 18 0 0) := rfl
  rw [e65] at r1
  obtain ⟨m2, t1, t2, t3⟩ := li_X4_begin_21 (fun hR => li_X4_begin_42 hR) fuel9 k2 0 _ r1
  have c7 : qOf z 7 0 = run := z7
  have c33 : qOf z 33 0 = 0 := z3
  have c34 : qOf z 34 0 = 0 := z4
  have c35 : qOf z 35 0 = 0 := z5
  have c36 : qOf z 36 0 = 0 := z66
  have c38 : qOf z 38 0 = 0 := z8
  have g : ∀ j : Nat, j ≠ 20 → j ≠ 37 → j ≠ 40 → j ≠ 41 → q1 j = qOf z j := fun j a a3 a4 a5 => by rw [r2 j a, ur_ne a5, ur_ne a4, ur_ne a3]
  refine ⟨_, m2, t1, t2, (fz.tr k3).tr t3, ⟨?_, ?_, fun i a c => ?_, ?_⟩, d, b, d1, d2, d3, d4, d5, d6, d7, d8, ?_, ?_, ?_⟩
  · simp (disch := omega) only [ur_n, ur_e]
    rw [g 7 (by omega) (by omega) (by omega) (by omega), c7]
    exact ⟨trivial, rfl, trivial, trivial, trivial, trivial, trivial, trivial, trivial⟩
  · simp (disch := omega) only [ur_n]
    rw [g 33 (by omega) (by omega) (by omega) (by omega), g 34 (by omega) (by omega) (by omega) (by omega), g 35 (by omega) (by omega) (by omega) (by omega), g 36 (by omega) (by omega) (by omega) (by omega), g 38 (by omega) (by omega) (by omega) (by omega)]
    exact ⟨c33, c34, c35, c36, c38⟩
  · simp (disch := omega) only [ur_n]
    rw [r3 i a c, if_t a]
  · simp (disch := omega) only [ur_n, ur_e]
  · simp (disch := omega) only [ur_n]
    rw [r2 37 (by omega), ur_n (by omega), ur_n (by omega), ur_e rfl rfl]
  · simp (disch := omega) only [ur_n]
    rw [r2 40 (by omega), ur_n (by omega), ur_e rfl rfl]
  · simp (disch := omega) only [ur_n]
    rw [r2 41 (by omega), ur_e rfl rfl]
end BG
