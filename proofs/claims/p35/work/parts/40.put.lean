/-! what is decided: the class's Decisions against the reference's rows of what it decided -/
def hp62 (hs : Rst) (k x y a : Int) (q : Rst) : Rst :=
  if q 37 0 = 0 then (if 80 ≤ q 33 0 then ur (ur q 36 0 a) 33 0 (q 33 0 + 1) else ur (ur (ur (ur (ur q 36 0 a) 42 (q 33 0) k) 43 (q 33 0) x) 44 (q 33 0) y) 33 0 (q 33 0 + 1))
  else if q 40 0 < q 41 0 ∧ q 40 0 < 80 ∧ hs 0 (q 40 0) = k ∧ hs 1 (q 40 0) = x ∧ hs 2 (q 40 0) = y then ur (ur q 36 0 a) 40 0 (q 40 0 + 1) else ur (ur q 36 0 a) 38 0 1
theorem hp62_ok {pg hs : Rst} {k x y s0 s1 : Int} {q : Rst} (h1 : -1000000 ≤ s1 + s0) (h2 : s1 + s0 ≤ 1000000) (h3 : 0 ≤ q 33 0) (h4 : q 33 0 ≤ 1000000) (h5 : 0 ≤ q 40 0) : H_1_put_62 pg hs k x y s0 s1 q = some (0, hp62 hs k x y (s1 + s0) q) := by
  unfold H_1_put_62 H_1_put_112 hp62
  by_cases c1 : q 37 0 = 0
  · by_cases c2 : 80 ≤ q 33 0
    · simp (disch := omega) only [chk_t, stg_e, if_t, if_f, ur_n, ur_e]
    · simp (disch := omega) only [chk_t, stg_e, if_t, if_f, ur_n, ur_e]
  · by_cases c2 : q 40 0 < q 41 0
    · by_cases c3 : q 40 0 < 80
      · by_cases c4 : hs 0 (q 40 0) = k
        · by_cases c5 : hs 1 (q 40 0) = x
          · by_cases c6 : hs 2 (q 40 0) = y
            · simp (disch := omega) only [chk_t, stg_e, if_t, if_f, ur_n, ur_e]
            · simp (disch := omega) only [chk_t, stg_e, if_t, if_f, ur_n, ur_e]
          · simp (disch := omega) only [chk_t, stg_e, if_t, if_f, ur_n, ur_e]
        · simp (disch := omega) only [chk_t, stg_e, if_t, if_f, ur_n, ur_e]
      · simp (disch := omega) only [chk_t, stg_e, if_t, if_f, ur_n, ur_e]
    · simp (disch := omega) only [chk_t, stg_e, if_t, if_f, ur_n, ur_e]
def hput (hs : Rst) (k x y : Int) (q : Rst) : Rst :=
  hp62 hs k x y (q 36 0 + if k = 12 then 1 else 0) (ur (ur q 34 0 (q 34 0 + if k = 8 ∨ k = 15 then 1 else 0)) 35 0 (q 35 0 + if k = 10 then 1 else 0))
theorem hput_ok {pg hs : Rst} {k x y : Int} {q : Rst} (a1 : 0 ≤ q 34 0) (a2 : q 34 0 ≤ 900000) (b1 : 0 ≤ q 35 0) (b2 : q 35 0 ≤ 900000) (d1 : 0 ≤ q 36 0) (d2 : q 36 0 ≤ 900000) (h3 : 0 ≤ q 33 0) (h4 : q 33 0 ≤ 900000) (h5 : 0 ≤ q 40 0) : H_1_put pg hs k x y q = some (0, hput hs k x y q) := by
  unfold H_1_put H_1_put_0 H_1_put_22 H_1_put_42 hput
  by_cases c1 : k = 8
  · (simp (disch := omega) only [chk_t, stg_e, if_t, if_f, ur_n, ur_e]; refine hp62_ok (by omega) (by omega) ?_ ?_ ?_ <;> (simp (disch := omega) only [ur_n]; omega))
  · by_cases c2 : k = 15
    · (simp (disch := omega) only [chk_t, stg_e, if_t, if_f, ur_n, ur_e]; refine hp62_ok (by omega) (by omega) ?_ ?_ ?_ <;> (simp (disch := omega) only [ur_n]; omega))
    · by_cases c3 : k = 10
      · (simp (disch := omega) only [chk_t, stg_e, if_t, if_f, ur_n, ur_e]; refine hp62_ok (by omega) (by omega) ?_ ?_ ?_ <;> (simp (disch := omega) only [ur_n]; omega))
      · by_cases c4 : k = 12
        · (simp (disch := omega) only [chk_t, stg_e, if_t, if_f, ur_n, ur_e]; refine hp62_ok (by omega) (by omega) ?_ ?_ ?_ <;> (simp (disch := omega) only [ur_n]; omega))
        · (simp (disch := omega) only [chk_t, stg_e, if_t, if_f, ur_n, ur_e]; refine hp62_ok (by omega) (by omega) ?_ ?_ ?_ <;> (simp (disch := omega) only [ur_n]; omega))
def gdec (k x y : Int) (r : Rst) : Rst := ur (ur (ur (ur (ur r 72 (r 76 0) k) 73 (r 76 0) x) 74 (r 76 0) y) 75 (r 76 0) (r 41 0)) 76 0 (r 76 0 + 1)
theorem gdec_ok {k x y : Int} {r : Rst} (h0 : 0 ≤ r 76 0) (h1 : r 76 0 < 5200) : G_decides k x y r = some (0, gdec k x y r) := by
  unfold G_decides G_decides_0 gdec
  simp (disch := omega) only [chk_t, stg_e, ur_n, ur_e]
