/-! reading behind writing, and what the combinators do -/
theorem upd9_n {m : Mem} {i j v a b : Int} (h : a ≠ i ∨ b ≠ j) : upd9 m i j v a b = m a b := by
  unfold upd9
  rw [if_neg (fun hh => h.elim (fun k => k hh.1) (fun k => k hh.2))]
theorem upd9_e {m : Mem} {i j v a b : Int} (h : a = i) (h2 : b = j) : upd9 m i j v a b = v := by
  unfold upd9
  rw [if_pos ⟨h, h2⟩]
theorem ur_n {r : Rst} {j a : Nat} {i v b : Int} (h : a ≠ j ∨ b ≠ i) : ur r j i v a b = r a b := by
  unfold ur
  rw [if_neg (fun hh => h.elim (fun k => k hh.1) (fun k => k hh.2))]
theorem ur_e {r : Rst} {j a : Nat} {i v b : Int} (h : a = j) (h2 : b = i) : ur r j i v a b = v := by
  unfold ur
  rw [if_pos ⟨h, h2⟩]
theorem chk_t {α : Type} {c : Prop} [Decidable c] {a : Option α} (h : c) : chk9 c a = a := by
  unfold chk9
  rw [if_pos h]
theorem st_e {α : Type} {m : Mem} {k : Mem → Option α} : st9 m k = k m := rfl
theorem stg_e {α : Type} {r : Rst} {k : Rst → Option α} : stg r k = k r := rfl
theorem vl_e {α : Type} {v : Int} {k : Int → Option α} : vl9 v k = k v := rfl
theorem cal_e {α : Type} {v : Int} {m : Mem} {k : Int → Mem → Option α} : cal (some (v, m)) k = k v m := rfl
theorem cag_e {α : Type} {v : Int} {r : Rst} {k : Int → Rst → Option α} : cag (some (v, r)) k = k v r := rfl
theorem calX_0 {v : Int} {m : Mem} {k : Int → Mem → Option R3} : calX (some (0, v, m)) k = k v m := rfl
theorem calX_e {e v : Int} {m : Mem} {k : Int → Mem → Option R3} (h : e ≠ 0) : calX (some (e, v, m)) k = some (e, 0, m) := if_neg h
theorem boolR_e {v : Int} {m : Mem} (h : v = 0 ∨ v = 1) : boolR (some (v, m)) = some (v, m) := if_pos h
theorem boolX_e {e v : Int} {m : Mem} (h : e ≠ 0 ∨ v = 0 ∨ v = 1) : boolX (some (e, v, m)) = some (e, v, m) := if_pos h
theorem boolG_e {v : Int} {r : Rst} (h : v = 0 ∨ v = 1) : boolG (some (v, r)) = some (v, r) := if_pos h
theorem if_t {α : Type} {c : Prop} [Decidable c] {a b : α} (h : c) : (if c then a else b) = a := if_pos h
theorem if_f {α : Type} {c : Prop} [Decidable c] {a b : α} (h : ¬ c) : (if c then a else b) = b := if_neg h
/-- a history's own writing -/
def put9 (h k x y : Int) (m : Mem) : Mem := upd9 (upd9 (upd9 (upd9 m (h + 1) (m h 3) k) (h + 2) (m h 3) x) (h + 3) (m h 3) y) h 3 (m h 3 + 1)
theorem put_ok {h k x y : Int} {m : Mem} (h0 : 0 < h) (p0 : m h 0 = h + 1) (p1 : m h 1 = h + 2) (p2 : m h 2 = h + 3) (s0 : 0 ≤ m h 3) (s1 : m h 3 < 80) : X3_put h k x y m = some (0, put9 h k x y m) := by
  unfold X3_put X3_put_0 put9
  simp (disch := omega) only [chk_t, if_f, st_e, p0, p1, p2, upd9_n, upd9_e]
theorem happen_ok {R k x y : Int} {m : Mem} (h0 : 0 < R) (q0 : m R 0 = R + 1) (p0 : m (R + 1) 0 = R + 1 + 1) (p1 : m (R + 1) 1 = R + 1 + 2) (p2 : m (R + 1) 2 = R + 1 + 3) (s0 : 0 ≤ m (R + 1) 3) : X7_happen R k x y m = some (if m R 7 = 20 ∧ m (R + 1) 3 < 78 then (1, put9 (R + 1) k x y m) else (0, m)) := by
  unfold X7_happen X7_happen_0
  by_cases h1 : m R 7 = 20
  · by_cases h2 : m (R + 1) 3 < 78
    · simp (disch := omega) only [chk_t, if_t, q0, put_ok, cal_e, boolR_e]
    · simp (disch := omega) only [chk_t, if_t, if_f, q0, cal_e, boolR_e]
  · simp (disch := omega) only [chk_t, if_f, cal_e, boolR_e]
