/-! the class's player beside the reference's play: how they hang together -/
/-- what the class decided differs from what is told, or there is more of it -/
def Mis (r : Rst) : Prop := r 80 0 = 0 ∧ ∃ k, 0 ≤ k ∧ k < r 76 0 ∧ (r 79 0 - r 78 0 ≤ k ∨ ¬ (r 72 k = r 19 (r 78 0 + k) ∧ r 73 k = r 20 (r 78 0 + k) ∧ r 74 k = r 21 (r 78 0 + k)))
theorem Mis.keep {r r' : Rst} (h : Mis r) (hm : Made r r') (e19 : r' 19 = r 19) (e20 : r' 20 = r 20) (e21 : r' 21 = r 21) (e78 : r' 78 = r 78) (e79 : r' 79 = r 79) (e80 : r' 80 = r 80) : Mis r' := by
  obtain ⟨h80, k, h0, h1, h2⟩ := h
  have hk := hm.2 k h1
  refine ⟨by rw [e80]; exact h80, k, h0, Int.lt_of_lt_of_le h1 hm.1, ?_⟩
  rw [hk.1, hk.2.1, hk.2.2, e19, e20, e21, e78, e79]
  exact h2
/-- the part of the decisions that says what is decided -/
def DsA (hs : Rst) (B E : Int) (q r : Rst) : Prop := r 80 0 = 0 ∧ q 37 0 = 1 ∧ q 33 0 = 0 ∧ B ≤ r 78 0 ∧ q 41 0 = r 79 0 - B ∧ q 41 0 ≤ E ∧ E ≤ 80 ∧ 0 ≤ q 40 0 ∧ 0 ≤ r 76 0 ∧
  (q 38 0 = 0 ∧ q 40 0 = r 78 0 - B + r 76 0 ∧ q 40 0 ≤ q 41 0 ∧ (∀ k, 0 ≤ k → k < r 76 0 → r 72 k = r 19 (r 78 0 + k) ∧ r 73 k = r 20 (r 78 0 + k) ∧ r 74 k = r 21 (r 78 0 + k)) ∨ q 38 0 = 1 ∧ Mis r)
def DsN (q r : Rst) : Prop := r 80 0 = 1 ∧ q 37 0 = 0 ∧ q 38 0 = 0 ∧ 0 ≤ r 76 0 ∧ q 33 0 = r 76 0 ∧ 0 ≤ q 40 0 ∧ ∀ k, 0 ≤ k → k < r 76 0 → k < 80 → q 42 k = r 72 k ∧ q 43 k = r 73 k ∧ q 44 k = r 74 k
/-- the history as the class holds it -/
def HsR (hs : Rst) (B E : Int) (r : Rst) : Prop := hs 3 0 = E ∧ ∀ i, 0 ≤ i → i < E → hs 0 i = r 19 (B + i) ∧ hs 1 i = r 20 (B + i) ∧ hs 2 i = r 21 (B + i)
def Ds (hs : Rst) (B E : Int) (q r : Rst) : Prop := HsR hs B E r ∧ (DsA hs B E q r ∨ DsN q r)
theorem hput_n {hs : Rst} {k x y : Int} {q : Rst} {j : Nat} (h : j ≠ 33 ∧ j ≠ 34 ∧ j ≠ 35 ∧ j ≠ 36 ∧ j ≠ 38 ∧ j ≠ 40 ∧ j ≠ 42 ∧ j ≠ 43 ∧ j ≠ 44) : hput hs k x y q j = q j := by
  unfold hput hp62
  generalize (if k = 8 ∨ k = 15 then (1 : Int) else 0) = s8
  generalize (if k = 10 then (1 : Int) else 0) = s10
  generalize (if k = 12 then (1 : Int) else 0) = s12
  split
  · split
    · simp (disch := omega) only [ur_ne]
    · simp (disch := omega) only [ur_ne]
  · split
    · simp (disch := omega) only [ur_ne]
    · simp (disch := omega) only [ur_ne]
theorem hput_c {hs : Rst} {k x y : Int} {q : Rst} : hput hs k x y q 34 0 = (q 34 0 + if k = 8 ∨ k = 15 then 1 else 0) ∧ hput hs k x y q 35 0 = (q 35 0 + if k = 10 then 1 else 0) ∧ hput hs k x y q 36 0 = (q 36 0 + if k = 12 then 1 else 0) := by
  unfold hput hp62
  generalize (if k = 8 ∨ k = 15 then (1 : Int) else 0) = s8
  generalize (if k = 10 then (1 : Int) else 0) = s10
  generalize (if k = 12 then (1 : Int) else 0) = s12
  split
  · split
    · simp (disch := omega) only [ur_n, ur_e, and_self]
    · simp (disch := omega) only [ur_n, ur_e, and_self]
  · split
    · simp (disch := omega) only [ur_n, ur_e, and_self]
    · simp (disch := omega) only [ur_n, ur_e, and_self]
theorem gdec_n {k x y : Int} {r : Rst} {j : Nat} (h : j < 72 ∨ 76 < j) : gdec k x y r j = r j := by
  unfold gdec
  rw [ur_ne (by omega), ur_ne (by omega), ur_ne (by omega), ur_ne (by omega), ur_ne (by omega)]
theorem gdec_made {k x y : Int} {r : Rst} : Made r (gdec k x y r) := by
  unfold gdec Made
  refine ⟨by simp (disch := omega) only [ur_e]; omega, fun a ha => ?_⟩
  simp (disch := omega) only [ur_n]
  exact ⟨trivial, trivial, trivial⟩
theorem gdec_76 {k x y : Int} {r : Rst} : gdec k x y r 76 0 = r 76 0 + 1 := by
  unfold gdec; rw [ur_e rfl rfl]
theorem gdec_v {k x y a : Int} {r : Rst} : gdec k x y r 72 a = (if a = r 76 0 then k else r 72 a) ∧ gdec k x y r 73 a = (if a = r 76 0 then x else r 73 a) ∧ gdec k x y r 74 a = (if a = r 76 0 then y else r 74 a) := by
  unfold gdec
  by_cases c : a = r 76 0
  · subst c
    simp (disch := omega) only [ur_n, ur_e, if_true, and_self]
  · simp (disch := omega) only [ur_n, if_f, and_self]
theorem dec_inv {k x y v : Int} {r r' : Rst} (h : G_decides k x y r = some (v, r')) : (0 ≤ r 76 0 ∧ r 76 0 < 5200) ∧ v = 0 ∧ r' = gdec k x y r := by
  have h2 := h
  unfold G_decides G_decides_0 at h2
  have hc := (chk_some h2).1
  rw [gdec_ok hc.1 hc.2] at h
  cases h
  exact ⟨hc, rfl, rfl⟩
theorem HsR.dec {hs : Rst} {B E k x y : Int} {r : Rst} (h : HsR hs B E r) : HsR hs B E (gdec k x y r) := by
  unfold HsR
  rw [gdec_n (by omega), gdec_n (by omega), gdec_n (by omega)]
  exact h
theorem ds_put {hs : Rst} {B E k x y : Int} {q r : Rst} (h : Ds hs B E q r) (h7 : r 76 0 < 5200) : Ds hs B E (hput hs k x y q) (gdec k x y r) := by
  obtain ⟨hh, h⟩ := h
  refine ⟨hh.dec, ?_⟩
  rcases h with ⟨a1, a2, a3, a4, a5, a6, a7, a8, a9, h⟩ | ⟨a1, a2, a3, a4, a5, a6, h⟩
  · refine Or.inl ?_
    have e37 : hput hs k x y q 37 = q 37 := hput_n (by omega)
    have e41 : hput hs k x y q 41 = q 41 := hput_n (by omega)
    unfold DsA
    rw [e37, e41, gdec_n (j := 80) (by omega), gdec_n (j := 78) (by omega), gdec_n (j := 79) (by omega), gdec_n (j := 19) (by omega), gdec_n (j := 20) (by omega), gdec_n (j := 21) (by omega), gdec_76]
    have e33 : hput hs k x y q 33 0 = q 33 0 := by
      unfold hput hp62
      generalize (if k = 8 ∨ k = 15 then (1 : Int) else 0) = s8
      generalize (if k = 10 then (1 : Int) else 0) = s10
      generalize (if k = 12 then (1 : Int) else 0) = s12
      rw [ur_ne (a := 37) (by omega), ur_ne (a := 37) (by omega), if_f (by omega)]
      split
      · simp (disch := omega) only [ur_n]
      · simp (disch := omega) only [ur_n]
    rw [e33]
    have mis : q 38 0 = 1 ∧ Mis r → Mis (gdec k x y r) := fun hm => hm.2.keep gdec_made (gdec_n (by omega)) (gdec_n (by omega)) (gdec_n (by omega)) (gdec_n (by omega)) (gdec_n (by omega)) (gdec_n (by omega))
    by_cases c : q 40 0 < q 41 0 ∧ q 40 0 < 80 ∧ hs 0 (q 40 0) = k ∧ hs 1 (q 40 0) = x ∧ hs 2 (q 40 0) = y
    · have e : hput hs k x y q 40 0 = q 40 0 + 1 ∧ hput hs k x y q 38 0 = q 38 0 := by
        unfold hput hp62
        generalize (if k = 8 ∨ k = 15 then (1 : Int) else 0) = s8
        generalize (if k = 10 then (1 : Int) else 0) = s10
        generalize (if k = 12 then (1 : Int) else 0) = s12
        simp (disch := omega) only [ur_n, if_f]
        rw [if_t c]
        simp (disch := omega) only [ur_n, ur_e, and_self]
      rw [e.1, e.2]
      refine ⟨a1, a2, a3, a4, a5, a6, a7, by omega, by omega, ?_⟩
      rcases h with ⟨h1, h2, h3, h4⟩ | h
      · refine Or.inl ⟨h1, by omega, by omega, fun i hi hi2 => ?_⟩
        have ev := gdec_v (k := k) (x := x) (y := y) (a := i) (r := r)
        rw [ev.1, ev.2.1, ev.2.2]
        by_cases ci : i = r 76 0
        · simp only [if_t ci]
          have hx := hh.2 (q 40 0) a8 (by omega)
          rw [show r 78 0 + i = B + q 40 0 by omega, ← hx.1, ← hx.2.1, ← hx.2.2]
          exact ⟨c.2.2.1.symm, c.2.2.2.1.symm, c.2.2.2.2.symm⟩
        · simp only [if_f ci]
          exact h4 i hi (by omega)
      · exact Or.inr ⟨h.1, mis h⟩
    · have e : hput hs k x y q 40 0 = q 40 0 ∧ hput hs k x y q 38 0 = 1 := by
        unfold hput hp62
        generalize (if k = 8 ∨ k = 15 then (1 : Int) else 0) = s8
        generalize (if k = 10 then (1 : Int) else 0) = s10
        generalize (if k = 12 then (1 : Int) else 0) = s12
        simp (disch := omega) only [ur_n, if_f]
        exact ⟨trivial, ur_e rfl rfl⟩
      rw [e.1, e.2]
      refine ⟨a1, a2, a3, a4, a5, a6, a7, a8, by omega, Or.inr ⟨rfl, ?_⟩⟩
      rcases h with ⟨h1, h2, h3, h4⟩ | h
      · refine ⟨by rw [gdec_n (by omega)]; exact a1, r 76 0, a9, by rw [gdec_76]; omega, ?_⟩
        rw [gdec_n (j := 78) (by omega), gdec_n (j := 79) (by omega), gdec_n (j := 19) (by omega), gdec_n (j := 20) (by omega), gdec_n (j := 21) (by omega)]
        have ev := gdec_v (k := k) (x := x) (y := y) (a := r 76 0) (r := r)
        rw [ev.1, ev.2.1, ev.2.2, if_t rfl, if_t rfl, if_t rfl]
        by_cases cl : q 40 0 < q 41 0
        · refine Or.inr fun hn => c ?_
          have hx := hh.2 (q 40 0) a8 (by omega)
          rw [show r 78 0 + r 76 0 = B + q 40 0 by omega, ← hx.1, ← hx.2.1, ← hx.2.2] at hn
          exact ⟨cl, by omega, hn.1.symm, hn.2.1.symm, hn.2.2.symm⟩
        · exact Or.inl (by omega)
      · exact mis h
  · refine Or.inr ?_
    have e37 : hput hs k x y q 37 = q 37 := hput_n (by omega)
    have e38 : hput hs k x y q 38 0 = q 38 0 ∧ hput hs k x y q 40 0 = q 40 0 ∧ hput hs k x y q 33 0 = q 33 0 + 1 := by
      unfold hput hp62
      generalize (if k = 8 ∨ k = 15 then (1 : Int) else 0) = s8
      generalize (if k = 10 then (1 : Int) else 0) = s10
      generalize (if k = 12 then (1 : Int) else 0) = s12
      simp (disch := omega) only [ur_n, if_t]
      split
      · simp (disch := omega) only [ur_n, ur_e, and_self]
      · simp (disch := omega) only [ur_n, ur_e, and_self]
    have ek : ∀ i, 0 ≤ i → i < 80 → hput hs k x y q 42 i = (if i = q 33 0 then k else q 42 i) ∧ hput hs k x y q 43 i = (if i = q 33 0 then x else q 43 i) ∧ hput hs k x y q 44 i = (if i = q 33 0 then y else q 44 i) := fun i hi hi2 => by
      unfold hput hp62
      generalize (if k = 8 ∨ k = 15 then (1 : Int) else 0) = s8
      generalize (if k = 10 then (1 : Int) else 0) = s10
      generalize (if k = 12 then (1 : Int) else 0) = s12
      simp (disch := omega) only [ur_n, if_t]
      split
      · simp (disch := omega) only [ur_n, if_f, and_self]
      · by_cases ci : i = q 33 0
        · subst ci
          simp (disch := omega) only [ur_n, ur_e, if_true, and_self]
        · simp (disch := omega) only [ur_n, if_f, and_self]
    unfold DsN
    rw [e37, e38.1, e38.2.1, e38.2.2, gdec_n (j := 80) (by omega), gdec_76]
    refine ⟨a1, a2, a3, by omega, by omega, a6, fun i hi hi2 hi3 => ?_⟩
    have e := ek i hi hi3
    have ev := gdec_v (k := k) (x := x) (y := y) (a := i) (r := r)
    rw [e.1, e.2.1, e.2.2, ev.1, ev.2.1, ev.2.2, a5]
    by_cases ci : i = r 76 0
    · simp only [if_t ci, and_self]
    · simp only [if_f ci]
      exact h i hi (by omega) hi3
