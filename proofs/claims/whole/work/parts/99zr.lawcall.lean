/-! the law: one call on both sides -/
section LA
variable {cd : Int → Int} {N N' : Int} {r r' : Rst} {m m' : Mem} {o : Option R3} {g : Option G2}
noncomputable def kI9 : Int → Mem → Option R2 := fun v2 m3 => chk9 (0 < (8 : Int)) <| st9 (upd9 m3 8 0 v2) fun m6 => some (0, m6)
noncomputable def kB9 : Int → Mem → Option R2 := fun v2 m3 => if v2 = 0 then (chk9 (0 < (8 : Int)) <| st9 (upd9 m3 8 0 0) fun m7 => some (0, m7)) else chk9 (0 < (8 : Int)) <| st9 (upd9 m3 8 0 1) fun m9 => some (0, m9)
def hA9 : Int → Mem → Option R2 := fun e m3 => if e = 1 then some (1, m3) else none
def hB9 : Int → Mem → Option R2 := fun e m3 => if e = 1 then some (1, m3) else if e = 2 then some (2, m3) else if e = 3 then some (3, m3) else none
def hC9 : Int → Mem → Option R2 := fun e m3 => if e = 1 then some (1, m3) else if e = 3 then some (2, m3) else none
def hD9 : Int → Mem → Option R2 := fun e m3 => if e = 1 then some (1, m3) else if e = 2 then some (2, m3) else none
def hE9 : Int → Mem → Option R2 := fun e m3 => if e = 2 then some (1, m3) else none
/-- which exceptions there may be, and how the law counts them -/
def okE9 (s : List Int) (e : Int) : Bool := decide (e ∈ s)
theorem rp_fr (h : Rp r m) (e : ∀ i, 10 ≤ i → i ≤ 94 → m' i = m i) : Rp r m' := fun j hj => by
  have k := h j hj
  refine ⟨fun hb => ?_, fun hb => ?_⟩
  · rw [e 10 (by omega) (by omega), e (10 + j) (by omega) (by omega)]
    exact k.1 hb
  · rw [e 10 (by omega) (by omega)]
    exact k.2 hb
theorem law_out {v : Int} (h : RelC N r m) : RelC N r (upd9 m 8 0 v) := h.fr (h.1.2.1.rows fun i a b => upd9_row (by omega)) (fun i hi => upd9_row (by omega)) fun _ _ => rfl
theorem CallR.law {ok : Int → Bool} {hnd kk : Int → Mem → Option R2} {Q : Int → Prop} (hc : ∀ cd' : Int → Int, (∀ e, ok e = true → cd' e = cd e) → CallR cd' N r m o g) (hh : ∀ e m3, ok e = true → e ≠ 0 → hnd e m3 = some (cd e, m3)) (ok0 : ok 0 = true) (c0 : cd 0 = 0) (cp : ∀ e, ok e = true → e ≠ 0 → cd e ≠ 0) (hp : Rp r m) (hQ : ∀ v m', o = some (0, v, m') → Q v) (hk : ∀ v m3, Q v → kk v m3 = some (0, upd9 m3 8 0 v)) : ∃ k m3 v' r', calT o kk hnd = some (k, m3) ∧ g = some (v', r') ∧ r' 0 0 = k ∧ (k = 0 → m3 8 0 = v' ∧ Q v') ∧ RelC (N + 1) r' m3 ∧ GT r' ∧ Rp r m3 ∧ (m3 (-3) = m (-3) ∧ m3 (-4) = m (-4)) ∧ m3 (-2) 0 ≤ m (-2) 0 + 100 + 10 * (r' 16 0 - r 16 0) ∧ m3 (-2) 1 ≤ m (-2) 1 + 2000 + 700 * (r' 16 0 - r 16 0) := by
  obtain ⟨e, v, m1, v', r', x1, x2, x3, x4, x5, x6, x7, x8, x9, y1, y2, y3⟩ := hc (fun e => if ok e = true then cd e else 1000) fun e he => if_t he
  have hok : ok e = true := by
    by_cases c : ok e = true
    · exact c
    · obtain ⟨e', v2, m2, v2', r2', z1, z2, z3, z4, -⟩ := hc (fun e => if ok e = true then cd e else 1001) fun e he => if_t he
      rw [x1] at z1
      rw [x2] at z2
      injection z1 with z1
      injection z1 with z1 _
      injection z2 with z2
      injection z2 with _ z2
      rw [← z1, ← z2] at z4
      have x4' : r' 0 0 = if ok e = true then cd e else 1000 := x4
      have z4' : r' 0 0 = if ok e = true then cd e else 1001 := z4
      rw [if_f c] at x4' z4'
      omega
  have x4' : r' 0 0 = if ok e = true then cd e else 1000 := x4
  rw [if_t hok] at x4'
  by_cases c : e = 0
  · subst c
    have q := hQ v m1 x1
    refine ⟨0, upd9 m1 8 0 v, v', r', ?_, x2, by rw [x4', c0], fun _ => ⟨by rw [x5 rfl]; exact upd9_e rfl rfl, by rw [x5 rfl]; exact q⟩, law_out x6, x7, rp_fr hp fun i a b => by rw [upd9_row (by omega), x8 i a b], ⟨by rw [upd9_row (by omega), x9], by rw [upd9_row (by omega), y1]⟩, by rw [upd9_n (by omega)]; exact y2, by rw [upd9_n (by omega)]; exact y3⟩
    rw [x1, calT, if_t rfl, hk v m1 q]
  · refine ⟨cd e, m1, v', r', ?_, x2, x4', fun hh => absurd hh (cp e hok c), x6, x7, rp_fr hp fun i a b => x8 i a b, ⟨x9, y1⟩, y2, y3⟩
    rw [x1, calT, if_f c, hh e m1 hok c]
/-- and then the reference -/
theorem law_one {ok : Int → Bool} {hnd kk : Int → Mem → Option R2} {Q : Int → Prop} {xo : Mem → Option R2} (hc : ∀ cd' : Int → Int, (∀ e, ok e = true → cd' e = cd e) → CallR cd' N r m o g) (hh : ∀ e m3, ok e = true → e ≠ 0 → hnd e m3 = some (cd e, m3)) (ok0 : ok 0 = true) (c0 : cd 0 = 0) (cp : ∀ e, ok e = true → e ≠ 0 → cd e ≠ 0) (hp : Rp r m) (hQ : ∀ v m', o = some (0, v, m') → Q v) (hk : ∀ v m3, Q v → kk v m3 = some (0, upd9 m3 8 0 v)) (li : ∀ m3, Rp r m3 → LiR g (xo m3) m3) : ∃ k v' m3 m4 m5 r', calT o kk hnd = some (k, m3) ∧ xo m3 = some (v', m4) ∧ X12_thrown 10 m4 = some (k, m5) ∧ (k = 0 → m5 8 0 = v' ∧ Q v') ∧ m3 (-3) = m (-3) ∧ m3 (-4) = m (-4) ∧ RelC (N + 1) r' m5 ∧ GT r' ∧ Rp r' m5 ∧ m5 (-3) = m (-3) ∧ m5 (-4) = m (-4) ∧ m5 (-2) 0 ≤ m (-2) 0 + 100 + 10 * (r' 16 0 - r 16 0) ∧ m5 (-2) 1 ≤ m (-2) 1 + 2000 + 700 * (r' 16 0 - r 16 0) := by
  obtain ⟨k, m3, v', r', x1, x2, x3, x4, x5, x6, x7, x8, x9, y1⟩ := CallR.law hc hh ok0 c0 cp hp hQ hk
  obtain ⟨m4, z1, z2, z3⟩ := li m3 x7 v' r' x2
  obtain ⟨m5, w1, w2, w3⟩ := li_X12_thrown z2 (r' 0 0) r' rfl
  have em : ∀ i, i < 10 ∨ 94 < i → m5 i = m3 i := fun i hi => by
    funext j
    rw [w3 i hi j, z3 i hi j]
  refine ⟨k, v', m3, m4, m5, r', x1, z1, by rw [w1, x3], fun hk0 => by rw [em 8 (by omega)]; exact x4 hk0, x8.1, x8.2, x5.fr (x5.1.2.1.rows fun i a b => em i (by omega)) (fun i hi => em i (by omega)) (fun _ _ => rfl), x6, w2, by rw [em _ (by omega), x8.1], by rw [em _ (by omega), x8.2], by rw [em _ (by omega)]; exact x9, by rw [em _ (by omega)]; exact y1⟩
theorem boolX_01 {v : Int} (h : boolX o = some (0, v, m')) : v = 0 ∨ v = 1 := by
  unfold boolX at h
  split at h
  · split at h
    · rename_i hc
      injection h with h
      injection h with h1 h2
      injection h2 with h2 h3
      subst h1 h2
      omega
    · cases h
  · cases h
theorem kI_e {v : Int} {m3 : Mem} : kI9 v m3 = some (0, upd9 m3 8 0 v) := by
  unfold kI9
  rw [chk_t (by decide), st_e]
theorem kB_e {v : Int} {m3 : Mem} (h : v = 0 ∨ v = 1) : kB9 v m3 = some (0, upd9 m3 8 0 v) := by
  unfold kB9
  rcases h with rfl | rfl
  · rw [if_t rfl, chk_t (by decide), st_e]
  · rw [if_f (by decide), chk_t (by decide), st_e]
end LA
