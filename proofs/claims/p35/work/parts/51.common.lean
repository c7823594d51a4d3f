/-! the class's player beside the reference's play: what they have in common -/
/-- how many signals there are ahead of a place -/
def Cs (c : Int → Int) (hs : Rst) : Prop := c 0 = 0 ∧ ∀ i, 0 ≤ i → c (i + 1) = c i + if hs 0 i = 4 then 1 else 0
def Mk (a v : Int) : Prop := a = v ∧ 0 ≤ v ∧ v < 16
def Sg (c : Int → Int) (hs : Rst) (n : Int) (a s v t : Int → Int) (m : Int) : Prop := m = c n ∧ (∀ i, 0 ≤ i → i < n → hs 0 i = 4 → s (c i) = hs 1 i ∧ v (c i) = hs 2 i ∧ a i = t (c i)) ∧ ∀ i, n ≤ i → i < 80 → a i = 0
def Un (p u : Int) (a a2 k b : Int → Int) (w : Int) : Prop := u = w ∧ 0 ≤ w ∧ 0 ≤ p ∧ ∀ t, 0 ≤ t → w + p - 80 ≤ t → t < w → a (t % 80) = k t ∧ a2 (t % 80) = b t
def Ct (a b d x y z : Int) : Prop := (a = x ∧ b = y ∧ d = z) ∧ (0 ≤ x ∧ x < 2147483648) ∧ (0 ≤ y ∧ y < 2147483648) ∧ (0 ≤ z ∧ z < 2147483648)
def Cm (pg hs : Rst) (c : Int → Int) (B E n p : Int) (q r : Rst) : Prop := q 18 0 = n ∧ q 2 0 = r 41 0 ∧ q 7 0 = r 83 0 ∧ Mk (q 19 0) (r 48 0) ∧ Sg c hs n (q 20) (r 65) (r 66) (r 67) (r 68 0) ∧ Un p (q 15 0) (q 22) (q 23) (r 69) (r 70) (r 71 0) ∧ Ct (q 34 0) (q 35 0) (q 36 0) (r 51 0) (r 52 0) (r 53 0) ∧ Ds hs B E q r
theorem Ds.same {hs : Rst} {B E : Int} {q r q' r' : Rst} (h : Ds hs B E q r) (kq : ∀ j : Nat, j = 33 ∨ j = 37 ∨ j = 38 ∨ (40 ≤ j ∧ j < 45) → q' j = q j) (kr : ∀ j : Nat, (19 ≤ j ∧ j ≤ 21) ∨ (72 ≤ j ∧ j ≤ 74) ∨ j = 76 ∨ (78 ≤ j ∧ j ≤ 80) → r' j = r j) : Ds hs B E q' r' := by
  unfold Ds HsR DsA DsN Mis
  rw [kq 33 (by omega), kq 37 (by omega), kq 38 (by omega), kq 40 (by omega), kq 41 (by omega), kq 42 (by omega), kq 43 (by omega), kq 44 (by omega), kr 19 (by omega), kr 20 (by omega), kr 21 (by omega), kr 72 (by omega), kr 73 (by omega), kr 74 (by omega), kr 76 (by omega), kr 78 (by omega), kr 79 (by omega), kr 80 (by omega)]
  exact h
section CM
variable {pg hs : Rst} {c : Int → Int} {B E n p : Int} {q r : Rst}
theorem Cm.rset (h : Cm pg hs c B E n p q r) {j : Nat} {i v : Int} (hj : 40 ≤ j ∧ j ≠ 41 ∧ j ≠ 48 ∧ j ≠ 51 ∧ j ≠ 52 ∧ j ≠ 53 ∧ (j < 65 ∨ j = 75)) : Cm pg hs c B E n p q (ur r j i v) := by
  obtain ⟨h1, h2, h3, h4, h5, h6, h7, h8⟩ := h
  unfold Cm
  simp (disch := omega) only [ur_ne, ur_n]
  exact ⟨h1, h2, h3, h4, h5, h6, h7, h8.same (fun _ _ => rfl) fun k hk => ur_ne (by omega)⟩
theorem Cm.qset (h : Cm pg hs c B E n p q r) {j : Nat} {i v : Int} (hj : (8 ≤ j ∧ j ≤ 14) ∨ j = 16 ∨ j = 17 ∨ 50 ≤ j) : Cm pg hs c B E n p (ur q j i v) r := by
  obtain ⟨h1, h2, h3, h4, h5, h6, h7, h8⟩ := h
  unfold Cm
  simp (disch := omega) only [ur_ne, ur_n]
  exact ⟨h1, h2, h3, h4, h5, h6, h7, h8.same (fun k hk => ur_ne (by omega)) fun _ _ => rfl⟩
theorem Cm.val (h : Cm pg hs c B E n p q r) {v : Int} : Cm pg hs c B E n p (ur q 2 0 v) (ur r 41 0 v) := by
  obtain ⟨h1, h2, h3, h4, h5, h6, h7, h8⟩ := h
  unfold Cm
  simp (disch := omega) only [ur_ne, ur_n, ur_e]
  exact ⟨h1, trivial, h3, h4, h5, h6, h7, h8.same (fun k hk => ur_ne (by omega)) fun k hk => ur_ne (by omega)⟩
theorem Ds.q40 (h : Ds hs B E q r) : 0 ≤ q 40 0 ∧ 0 ≤ r 76 0 ∧ 0 ≤ q 33 0 ∧ (q 33 0 = 0 ∨ q 33 0 = r 76 0) := by
  rcases h.2 with ⟨a1, a2, a3, a4, a5, a6, a7, a8, a9, h⟩ | ⟨a1, a2, a3, a4, a5, a6, h⟩ <;> omega
theorem hp62_ok2 {k x y s0 s1 : Int} (h1 : iR (s1 + s0)) (h3 : 0 ≤ q 33 0) (h4 : q 33 0 ≤ 1000000) (h5 : 0 ≤ q 40 0) : H_1_put_62 pg hs k x y s0 s1 q = some (0, hp62 hs k x y (s1 + s0) q) := by
  unfold H_1_put_62 H_1_put_112 hp62
  by_cases c1 : q 37 0 = 0
  · by_cases c2 : 80 ≤ q 33 0
    · simp (disch := omega) only [chk_t, stg_e, if_t, if_f, ur_n, ur_e]
    · simp (disch := omega) only [chk_t, stg_e, if_t, if_f, ur_n, ur_e]
  · by_cases c2 : q 40 0 < q 41 0
    · by_cases c3 : q 40 0 < 80
      · by_cases c4 : hs 0 (q 40 0) = k
        · by_cases c5 : hs 1 (q 40 0) = x
          · by_cases c6 : hs 2 (q 40 0) = y
            · simp (disch := omega) only [chk_t, stg_e, if_t, if_f, ur_n, ur_e]
            · simp (disch := omega) only [chk_t, stg_e, if_t, if_f, ur_n, ur_e]
          · simp (disch := omega) only [chk_t, stg_e, if_t, if_f, ur_n, ur_e]
        · simp (disch := omega) only [chk_t, stg_e, if_t, if_f, ur_n, ur_e]
      · simp (disch := omega) only [chk_t, stg_e, if_t, if_f, ur_n, ur_e]
    · simp (disch := omega) only [chk_t, stg_e, if_t, if_f, ur_n, ur_e]
theorem hput_ok2 {k x y : Int} (a1 : 0 ≤ q 34 0) (a2 : q 34 0 + (if k = 8 ∨ k = 15 then 1 else 0) < 2147483648) (b1 : 0 ≤ q 35 0) (b2 : q 35 0 + (if k = 10 then 1 else 0) < 2147483648) (d1 : 0 ≤ q 36 0) (d2 : q 36 0 + (if k = 12 then 1 else 0) < 2147483648) (h3 : 0 ≤ q 33 0) (h4 : q 33 0 ≤ 900000) (h5 : 0 ≤ q 40 0) : H_1_put pg hs k x y q = some (0, hput hs k x y q) := by
  unfold H_1_put H_1_put_0 H_1_put_22 H_1_put_42 hput
  by_cases c1 : k = 8
  · (simp (disch := omega) only [chk_t, stg_e, if_t, if_f, ur_n, ur_e] at *; refine hp62_ok2 (by omega) ?_ ?_ ?_ <;> (simp (disch := omega) only [ur_n]; omega))
  · by_cases c2 : k = 15
    · (simp (disch := omega) only [chk_t, stg_e, if_t, if_f, ur_n, ur_e] at *; refine hp62_ok2 (by omega) ?_ ?_ ?_ <;> (simp (disch := omega) only [ur_n]; omega))
    · by_cases c3 : k = 10
      · (simp (disch := omega) only [chk_t, stg_e, if_t, if_f, ur_n, ur_e] at *; refine hp62_ok2 (by omega) ?_ ?_ ?_ <;> (simp (disch := omega) only [ur_n]; omega))
      · by_cases c4 : k = 12
        · (simp (disch := omega) only [chk_t, stg_e, if_t, if_f, ur_n, ur_e] at *; refine hp62_ok2 (by omega) ?_ ?_ ?_ <;> (simp (disch := omega) only [ur_n]; omega))
        · (simp (disch := omega) only [chk_t, stg_e, if_t, if_f, ur_n, ur_e] at *; refine hp62_ok2 (by omega) ?_ ?_ ?_ <;> (simp (disch := omega) only [ur_n]; omega))
/-- what is decided and counts nothing -/
theorem cm_put {k x y : Int} (h : Cm pg hs c B E n p q r) (h7 : r 76 0 < 5200) (hk : k ≠ 8 ∧ k ≠ 15 ∧ k ≠ 10 ∧ k ≠ 12) : H_1_put pg hs k x y q = some (0, hput hs k x y q) ∧ Cm pg hs c B E n p (hput hs k x y q) (gdec k x y r) := by
  obtain ⟨h1, h2, h3, h4, h5, h6, h7', h8⟩ := h
  have e1 : (if k = 8 ∨ k = 15 then (1 : Int) else 0) = 0 := if_f (by omega)
  have e2 : (if k = 10 then (1 : Int) else 0) = 0 := if_f (by omega)
  have e3 : (if k = 12 then (1 : Int) else 0) = 0 := if_f (by omega)
  have d := h8.q40
  obtain ⟨⟨t1, t2, t3⟩, t4, t5, t6⟩ := h7'
  refine ⟨hput_ok2 (by omega) (by omega) (by omega) (by omega) (by omega) (by omega) (by omega) (by omega) (by omega), ?_⟩
  have hc := hput_c (hs := hs) (k := k) (x := x) (y := y) (q := q)
  rw [e1, e2, e3] at hc
  unfold Cm
  rw [hc.1, hc.2.1, hc.2.2, hput_n (j := 18) (by omega), hput_n (j := 2) (by omega), hput_n (j := 7) (by omega), hput_n (j := 19) (by omega), hput_n (j := 20) (by omega), hput_n (j := 15) (by omega), hput_n (j := 22) (by omega), hput_n (j := 23) (by omega)]
  simp (disch := omega) only [gdec_n]
  exact ⟨h1, h2, h3, h4, h5, h6, ⟨⟨by omega, by omega, by omega⟩, t4, t5, t6⟩, ds_put h8 h7⟩
theorem cm_put51 {k x y : Int} (h : Cm pg hs c B E n p q r) (h7 : r 76 0 < 5200) (hk : k = 8 ∨ k = 15) (hi : iR (r 51 0 + 1)) : H_1_put pg hs k x y q = some (0, hput hs k x y q) ∧ Cm pg hs c B E n p (hput hs k x y q) (gdec k x y (ur r 51 0 (r 51 0 + 1))) := by
  obtain ⟨h1, h2, h3, h4, h5, h6, h7', h8⟩ := h
  have e1 : (if k = 8 ∨ k = 15 then (1 : Int) else 0) = 1 := if_t (by omega)
  have e2 : (if k = 10 then (1 : Int) else 0) = 0 := if_f (by omega)
  have e3 : (if k = 12 then (1 : Int) else 0) = 0 := if_f (by omega)
  have d := h8.q40
  obtain ⟨⟨t1, t2, t3⟩, t4, t5, t6⟩ := h7'
  refine ⟨hput_ok2 (by omega) (by omega) (by omega) (by omega) (by omega) (by omega) (by omega) (by omega) (by omega), ?_⟩
  have hc := hput_c (hs := hs) (k := k) (x := x) (y := y) (q := q)
  rw [e1, e2, e3] at hc
  unfold Cm
  rw [hc.1, hc.2.1, hc.2.2, hput_n (j := 18) (by omega), hput_n (j := 2) (by omega), hput_n (j := 7) (by omega), hput_n (j := 19) (by omega), hput_n (j := 20) (by omega), hput_n (j := 15) (by omega), hput_n (j := 22) (by omega), hput_n (j := 23) (by omega)]
  simp (disch := omega) only [gdec_n, ur_ne, ur_n, ur_e]
  refine ⟨h1, h2, h3, h4, h5, h6, ⟨⟨by omega, by omega, by omega⟩, by omega, t5, t6⟩, ds_put (h8.same (fun _ _ => rfl) fun k hk => ur_ne (by omega)) ?_⟩
  rw [ur_n (by omega)]; exact h7
theorem cm_put52 {x y : Int} (h : Cm pg hs c B E n p q r) (h7 : r 76 0 < 5200) (hi : iR (r 52 0 + 1)) : H_1_put pg hs 10 x y q = some (0, hput hs 10 x y q) ∧ Cm pg hs c B E n p (hput hs 10 x y q) (gdec 10 x y (ur r 52 0 (r 52 0 + 1))) := by
  obtain ⟨h1, h2, h3, h4, h5, h6, h7', h8⟩ := h
  have e1 : (if (10 : Int) = 8 ∨ (10 : Int) = 15 then (1 : Int) else 0) = 0 := if_f (by omega)
  have e2 : (if (10 : Int) = 10 then (1 : Int) else 0) = 1 := if_t (by omega)
  have e3 : (if (10 : Int) = 12 then (1 : Int) else 0) = 0 := if_f (by omega)
  have d := h8.q40
  obtain ⟨⟨t1, t2, t3⟩, t4, t5, t6⟩ := h7'
  refine ⟨hput_ok2 (by omega) (by omega) (by omega) (by omega) (by omega) (by omega) (by omega) (by omega) (by omega), ?_⟩
  have hc := hput_c (hs := hs) (k := 10) (x := x) (y := y) (q := q)
  rw [e1, e2, e3] at hc
  unfold Cm
  rw [hc.1, hc.2.1, hc.2.2, hput_n (j := 18) (by omega), hput_n (j := 2) (by omega), hput_n (j := 7) (by omega), hput_n (j := 19) (by omega), hput_n (j := 20) (by omega), hput_n (j := 15) (by omega), hput_n (j := 22) (by omega), hput_n (j := 23) (by omega)]
  simp (disch := omega) only [gdec_n, ur_ne, ur_n, ur_e]
  refine ⟨h1, h2, h3, h4, h5, h6, ⟨⟨by omega, by omega, by omega⟩, t4, by omega, t6⟩, ds_put (h8.same (fun _ _ => rfl) fun k hk => ur_ne (by omega)) ?_⟩
  rw [ur_n (by omega)]; exact h7
theorem cm_put53 {x y : Int} (h : Cm pg hs c B E n p q r) (h7 : r 76 0 < 5200) (hi : iR (r 53 0 + 1)) : H_1_put pg hs 12 x y q = some (0, hput hs 12 x y q) ∧ Cm pg hs c B E n p (hput hs 12 x y q) (gdec 12 x y (ur r 53 0 (r 53 0 + 1))) := by
  obtain ⟨h1, h2, h3, h4, h5, h6, h7', h8⟩ := h
  have e1 : (if (12 : Int) = 8 ∨ (12 : Int) = 15 then (1 : Int) else 0) = 0 := if_f (by omega)
  have e2 : (if (12 : Int) = 10 then (1 : Int) else 0) = 0 := if_f (by omega)
  have e3 : (if (12 : Int) = 12 then (1 : Int) else 0) = 1 := if_t (by omega)
  have d := h8.q40
  obtain ⟨⟨t1, t2, t3⟩, t4, t5, t6⟩ := h7'
  refine ⟨hput_ok2 (by omega) (by omega) (by omega) (by omega) (by omega) (by omega) (by omega) (by omega) (by omega), ?_⟩
  have hc := hput_c (hs := hs) (k := 12) (x := x) (y := y) (q := q)
  rw [e1, e2, e3] at hc
  unfold Cm
  rw [hc.1, hc.2.1, hc.2.2, hput_n (j := 18) (by omega), hput_n (j := 2) (by omega), hput_n (j := 7) (by omega), hput_n (j := 19) (by omega), hput_n (j := 20) (by omega), hput_n (j := 15) (by omega), hput_n (j := 22) (by omega), hput_n (j := 23) (by omega)]
  simp (disch := omega) only [gdec_n, ur_ne, ur_n, ur_e]
  refine ⟨h1, h2, h3, h4, h5, h6, ⟨⟨by omega, by omega, by omega⟩, t4, t5, by omega⟩, ds_put (h8.same (fun _ _ => rfl) fun k hk => ur_ne (by omega)) ?_⟩
  rw [ur_n (by omega)]; exact h7
end CM
