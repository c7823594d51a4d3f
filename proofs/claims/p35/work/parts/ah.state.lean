/-! p35's law: what stands between two of its calls; what it asks of workers, of a workflow, of a history -/
def Sw (N K b0 b1 : Int) (s3 s4 : Int → Int) (r : Rst) (m : Mem) : Prop := RelC N r m ∧ GT r ∧ Px nob nob nob r ∧ Fz0 r ∧ (m (-3) = s3 ∧ m (-4) = s4) ∧ m (-2) 0 ≤ b0 + 100 * K + 10 * r 16 0 ∧ m (-2) 1 ≤ b1 + 2000 * K + 700 * r 16 0
section SWS
variable {N K N' K' b0 b1 a b c d : Int} {s3 s4 : Int → Int} {r r' : Rst} {m m' : Mem} {w k n e v ver : Int} {cd : Int → Int} {o : Option R3} {g : Option G2}
theorem Sw.mono (h : Sw N K b0 b1 s3 s4 r m) (hN : N ≤ N') (hK : K ≤ K') : Sw N' K' b0 b1 s3 s4 r m := by
  obtain ⟨h1, h2, h3, h4, h5, h6, h7⟩ := h
  exact ⟨h1.mono hN, h2, h3, h4, h5, by omega, by omega⟩
theorem zr_fz : Fz0 (zr r) := fun j hj => zr_hi hj
theorem Sw.call (h : Sw N K b0 b1 s3 s4 r m) (cl : CallR cd N r m o g) (hp : ∀ v r', g = some (v, r') → Px nob nob nob r') : ∃ e v m' v' r', o = some (e, v, m') ∧ g = some (v', r') ∧ (e = 0 ∨ e = 1 ∨ e = 2 ∨ e = 3) ∧ r' 0 0 = cd e ∧ (e = 0 → v' = v) ∧ Sw (N + 1) (K + 1) b0 b1 s3 s4 (zr r') m' := by
  obtain ⟨h1, h2, h3, h4, h5, h6, h7⟩ := h
  obtain ⟨e, v, m', v', r', x1, x2, x3, x4, x5, x6, x7, x8, x9, y1, y2, y3⟩ := cl
  have z16 : zr r' 16 = r' 16 := zr_lo (by omega)
  refine ⟨e, v, m', v', r', x1, x2, x3, x4, x5, x6.toZ, x7.fr fun j hj => zr_lo (by omega), (hp v' r' x2).fr fun j hj => zr_lo (by omega), zr_fz, ⟨by rw [x9]; exact h5.1, by rw [y1]; exact h5.2⟩, ?_, ?_⟩
  · rw [z16]; omega
  · rw [z16]; omega
/-- how the exceptions are told -/
def onV (e v : Int) : Int := if e = 0 then v else -90000 - e
theorem on_out {x : Option R3} (he : e = 0 ∨ e = 1 ∨ e = 2 ∨ e = 3) (hx : x = some (e, v, m')) : calT x (fun v1 m2 => some (v1, m2)) (fun e5 m2 => if e5 = 1 then (some ((-90001), m2)) else if e5 = 2 then (some ((-90002), m2)) else if e5 = 3 then (some ((-90003), m2)) else (none : Option R2)) = some (onV e v, m') := by
  rw [hx]
  unfold calT onV
  rcases he with rfl | rfl | rfl | rfl <;> rfl
theorem calX_id (he : e = 0 ∨ e = 1 ∨ e = 2 ∨ e = 3) : ∃ v2, calX (some (e, v, m')) (fun v1 m2 => some (0, v1, m2)) = some (e, v2, m') ∧ (e = 0 → v2 = v) := by
  rcases he with rfl | rfl | rfl | rfl
  · exact ⟨v, rfl, fun _ => rfl⟩
  · exact ⟨0, rfl, fun h => by omega⟩
  · exact ⟨0, rfl, fun h => by omega⟩
  · exact ⟨0, rfl, fun h => by omega⟩
theorem onV_eq {v2 : Int} (h : e = 0 → v2 = v) : onV e v2 = onV e v := by
  unfold onV
  by_cases c : e = 0
  · rw [if_t c, if_t c, h c]
  · rw [if_f c, if_f c]
theorem on_0 (he : e = 0 ∨ e = 1 ∨ e = 2 ∨ e = 3) (hx : X11_step 1 a b c d m = some (e, v, m')) : L_on 1 0 a b c d m = some (onV e v, m') := by
  obtain ⟨v2, y, z⟩ := calX_id (v := v) (m' := m') he
  unfold L_on L_on_0
  rw [← onV_eq z]
  refine on_out he ?_
  unfold L_asks L_asks_0
  rw [if_t rfl, chk_t (by omega), hx]
  exact y
theorem on_1 (he : e = 0 ∨ e = 1 ∨ e = 2 ∨ e = 3) (hx : X11_release 1 a m = some (e, v, m')) : L_on 1 1 a b c d m = some (onV e v, m') := by
  obtain ⟨v2, y, z⟩ := calX_id (v := v) (m' := m') he
  unfold L_on L_on_0
  rw [← onV_eq z]
  refine on_out he ?_
  unfold L_asks L_asks_0
  rw [if_f (by decide), if_t rfl, chk_t (by omega), hx]
  exact y
theorem on_2 (he : e = 0 ∨ e = 1 ∨ e = 2 ∨ e = 3) (hx : X11_start 1 a b c m = some (e, v, m')) : L_on 1 2 a b c d m = some (onV e v, m') := by
  obtain ⟨v2, y, z⟩ := calX_id (v := v) (m' := m') he
  unfold L_on L_on_0
  rw [← onV_eq z]
  refine on_out he ?_
  unfold L_asks L_asks_0
  rw [if_f (by decide), if_f (by decide), if_t rfl, chk_t (by omega), hx]
  exact y
theorem on_3 (he : e = 0 ∨ e = 1 ∨ e = 2 ∨ e = 3) (hx : X11_decide 1 a b m = some (e, v, m')) : L_on 1 3 a b c d m = some (onV e v, m') := by
  obtain ⟨v2, y, z⟩ := calX_id (v := v) (m' := m') he
  unfold L_on L_on_0
  rw [← onV_eq z]
  refine on_out he ?_
  unfold L_asks L_asks_0
  rw [if_f (by decide), if_f (by decide), if_f (by decide), if_t rfl, chk_t (by omega), hx]
  exact y
theorem on_4 (he : e = 0 ∨ e = 1 ∨ e = 2 ∨ e = 3) (hx : X11_take 1 a b m = some (e, v, m')) : L_on 1 4 a b c d m = some (onV e v, m') := by
  obtain ⟨v2, y, z⟩ := calX_id (v := v) (m' := m') he
  unfold L_on L_on_0
  rw [← onV_eq z]
  refine on_out he ?_
  unfold L_asks L_asks_0
  rw [if_f (by decide), if_f (by decide), if_f (by decide), if_f (by decide), if_t rfl, chk_t (by omega), hx]
  exact y
theorem on_5 (he : e = 0 ∨ e = 1 ∨ e = 2 ∨ e = 3) (hx : X11_beat 1 a m = some (e, v, m')) : L_on 1 5 a b c d m = some (onV e v, m') := by
  obtain ⟨v2, y, z⟩ := calX_id (v := v) (m' := m') he
  unfold L_on L_on_0
  rw [← onV_eq z]
  refine on_out he ?_
  unfold L_asks L_asks_0
  rw [if_f (by decide), if_f (by decide), if_f (by decide), if_f (by decide), if_f (by decide), if_t rfl, chk_t (by omega), hx]
  exact y
theorem on_6 (he : e = 0 ∨ e = 1 ∨ e = 2 ∨ e = 3) (hx : X11_end 1 a b m = some (e, v, m')) : L_on 1 6 a b c d m = some (onV e (if v = 0 then 0 else 1), m') := by
  unfold L_on L_on_0
  have y : ∃ v2, calX (some (e, v, m')) (fun v22 m23 => if v22 = 0 then some (0, 0, m23) else some (0, 1, m23)) = some (e, v2, m') ∧ (e = 0 → v2 = if v = 0 then 0 else 1) := by
    rcases he with rfl | rfl | rfl | rfl
    · refine ⟨if v = 0 then 0 else 1, ?_, fun _ => rfl⟩
      rw [calX_0]
      by_cases c : v = 0
      · rw [if_t c, if_t c]
      · rw [if_f c, if_f c]
    · exact ⟨0, rfl, fun h => by omega⟩
    · exact ⟨0, rfl, fun h => by omega⟩
    · exact ⟨0, rfl, fun h => by omega⟩
  obtain ⟨v2, y, z⟩ := y
  rw [← onV_eq z]
  refine on_out he ?_
  unfold L_asks L_asks_0
  rw [if_f (by decide), if_f (by decide), if_f (by decide), if_f (by decide), if_f (by decide), if_f (by decide), if_t rfl, chk_t (by omega), hx]
  exact y
theorem on_7 (he : e = 0 ∨ e = 1 ∨ e = 2 ∨ e = 3) (hx : X11_fail 1 a m = some (e, v, m')) : L_on 1 7 a b c d m = some (onV e v, m') := by
  obtain ⟨v2, y, z⟩ := calX_id (v := v) (m' := m') he
  unfold L_on L_on_0
  rw [← onV_eq z]
  refine on_out he ?_
  unfold L_asks L_asks_0
  rw [if_f (by decide), if_f (by decide), if_f (by decide), if_f (by decide), if_f (by decide), if_f (by decide), if_f (by decide), if_t rfl, chk_t (by omega), hx]
  exact y
theorem on_8 (he : e = 0 ∨ e = 1 ∨ e = 2 ∨ e = 3) (hx : X11_registerAnew 1 a b m = some (e, v, m')) : L_on 1 8 a b c d m = some (onV e v, m') := by
  obtain ⟨v2, y, z⟩ := calX_id (v := v) (m' := m') he
  unfold L_on L_on_0
  rw [← onV_eq z]
  refine on_out he ?_
  unfold L_asks L_asks_0
  rw [if_f (by decide), if_f (by decide), if_f (by decide), if_f (by decide), if_f (by decide), if_f (by decide), if_f (by decide), if_f (by decide), chk_t (by omega), hx]
  exact y
/-! what the law asks of the workers -/
theorem hasV_of (h : r 39 k = 80 * w + n) (w0 : 0 ≤ w) (n0 : 0 ≤ n) (n8 : n < 80) : hasV r k = 1000 * w + 100 * r 12 w + n := by
  unfold hasV
  rw [h, if_f (by omega), show (80 * w + n) / 80 = w by omega, show (80 * w + n) % 80 = n by omega]
theorem has_ne (h : RelC N r m) (hd : Dk r) (a0 : 0 ≤ a) (ab : a < b) (b1 : b < 4) (hb : hasV r b ≠ -1) : hasV r a ≠ hasV r b := fun e => by
  rcases h.hand (k := b) (by omega) b1 with h1 | ⟨w, n, c1, c2, c3, c4, c5, c6, c7⟩
  · unfold hasV at hb
    rw [if_t h1] at hb
    exact hb rfl
  · rcases h.hand (k := a) a0 (by omega) with h1 | ⟨w', n', d1, d2, d3, d4, d5, d6, d7⟩
    · have : hasV r a = -1 := by unfold hasV; rw [if_t h1]
      omega
    · rw [hasV_of c6 c1 c3 c5, hasV_of d6 d1 d3 d5] at e
      have s := h.2.2.rg.2.2 w c1 c2
      have s' := h.2.2.rg.2.2 w' d1 d2
      have p1 := s.1
      have p2 := s.2.1
      have p3 := s'.1
      have p4 := s'.2.1
      have ew : w' = w := by omega
      subst ew
      have := hd a b a0 ab b1 (by omega)
      omega
theorem l_work18 {k55 : Int → Int → Int → Int → Mem → Option R2} (h : RelC N r m) (hd : Dk r) (b0 : 0 ≤ b) (b4 : b < 4) : ∀ (d t : Nat) (l : Int), b - l = d → 0 ≤ l → d < t → L_areWorkers_18 k55 t 1 1 b (hasV r b) l m = k55 1 1 b (hasV r b) m := by
  intro d
  induction d with
  | zero =>
    intro t l h1 h2 h3
    obtain ⟨t, rfl⟩ : ∃ k, t = k + 1 := ⟨t - 1, by omega⟩
    rw [L_areWorkers_18, if_t (by omega)]
  | succ d ih =>
    intro t l h1 h2 h3
    obtain ⟨t, rfl⟩ : ∃ k, t = k + 1 := ⟨t - 1, by omega⟩
    rw [L_areWorkers_18, if_f (by omega), if_f (by decide)]
    by_cases c : hasV r b = -1
    · rw [if_t c, chk_t (by omega)]
      exact ih t (l + 1) (by omega) (by omega) (by omega)
    · rw [if_f c, chk_t (by omega), q_has h h2 (by omega), cal0_e, if_f (has_ne h hd h2 (by omega) b4 c), chk_t (by omega)]
      exact ih t (l + 1) (by omega) (by omega) (by omega)
theorem q_workflows (h : RelC N r m) : X11_workflows 1 m = some (r 16 0, m) := (c_workflows h).1
theorem q_clock (h : RelC N r m) : X11_clock 1 m = some (r 1 0, m) := (c_clock h).1
theorem l_work55 {k4 : Int → Int → Int → Mem → Option R2} (h : RelC N r m) (hp : Px nob nob nob r) (b0 : 0 ≤ b) (b4 : b < 4) : L_areWorkers_55 k4 1 1 b (hasV r b) m = k4 1 1 (b + 1) m := by
  have b10 := h.2.2.1
  unfold L_areWorkers_55
  rcases h.hand (k := b) b0 b4 with h1 | ⟨w, n, c1, c2, c3, c4, c5, c6, c7⟩
  · have e : hasV r b = -1 := by unfold hasV; rw [if_t h1]
    rw [e, chk_t (by decide), if_f (by decide), if_t rfl, chk_t (by omega)]
  · have e := hasV_of c6 c1 c3 c5
    have s := h.2.2.rg.2.2 w c1 c2
    have p1 := s.1
    have p2 := s.2.1
    have bs := hp.busy c1 c2 c3 c5 c4 (by omega)
    have er : rw9 r w = 9 * w + r 12 w - 1 := rfl
    have e1 : hasV r b / 1000 = w := by omega
    have e2 : hasV r b / 100 % 10 = r 12 w := by omega
    rw [chk_t (by omega), if_f (by decide), if_f (by omega), chk_t (by omega), q_workflows h, cal_e, if_f (show ¬ hasV r b < 0 by omega), e1, if_f (show ¬ r 16 0 ≤ w by omega), q_runs h c1 c2, cal0_e, q_state h c1 c2 p1 (Int.le_refl _), cal0_e, ← er, if_t bs, chk_t (by omega), chk_t (by omega), q_runs h c1 c2, cal0_e, e2, if_t rfl, chk_t (by omega)]
theorem l_work4 {k125 : Int → Int → Mem → Option R2} (h : RelC N r m) (hp : Px nob nob nob r) : ∀ (d t : Nat) (l : Int), 4 - l = d → 0 ≤ l → d < t → L_areWorkers_4 k125 t 1 1 l m = k125 1 1 m := by
  have f9 := fuel9_ge
  intro d
  induction d with
  | zero =>
    intro t l h1 h2 h3
    obtain ⟨t, rfl⟩ : ∃ k, t = k + 1 := ⟨t - 1, by omega⟩
    rw [L_areWorkers_4, if_t (by omega)]
  | succ d ih =>
    intro t l h1 h2 h3
    obtain ⟨t, rfl⟩ : ∃ k, t = k + 1 := ⟨t - 1, by omega⟩
    rw [L_areWorkers_4, if_f (by omega), chk_t (by omega), q_has h h2 (by omega), cal0_e, l_work18 h hp.2.2.2.2 h2 (by omega) l.toNat fuel9 0 (by omega) (by omega) (by omega), l_work55 h hp h2 (by omega)]
    exact ih t (l + 1) (by omega) (by omega) (by omega)
theorem l_workers (h : RelC N r m) (hp : Px nob nob nob r) : L_areWorkers 1 m = some (1, m) := by
  have f9 := fuel9_ge
  have b10 := h.2.2.1
  have r0 := rdS_ok (r := r) (q := 0) (n := (r 16 0).toNat)
  have r1 := rdS_ok (r := r) (q := 1) (n := (r 16 0).toNat)
  unfold L_areWorkers L_areWorkers_0
  rw [l_work4 h hp 4 fuel9 0 (by omega) (by omega) (by omega)]
  unfold L_areWorkers_125
  rw [if_f (by decide), chk_t (by omega), q_ready h (by decide) (by decide), cal0_e, if_f (by omega), q_ready h (by decide) (by decide), cal0_e, if_f (by omega)]
  exact boolR_e (Or.inr rfl)
/-! what it asks of a workflow -/
theorem dueV_01 : dueV r w = 0 ∨ dueV r w = 1 := by
  unfold dueV
  split
  · exact Or.inr rfl
  · exact Or.inl rfl
theorem l_flow (h : RelC N r m) (hp : Px nob nob nob r) (w0 : 0 ≤ w) (w1 : w < r 16 0) : L_isFlow 1 w m = some (1, m) := by
  obtain ⟨q1, q2, q3, q4, q5, q6, q7, q8, q9⟩ := hp.pw w0 w1
  have er : rw9 r w = 9 * w + r 12 w - 1 := rfl
  have s := q5 (fun a => a)
  have n1 := q3.n
  have b3 := q6.1
  unfold B3 at b3
  have par : r 9 w = -1 ∨ r 9 w < w := by
    by_cases c : r 9 w = -1
    · exact Or.inl c
    · exact Or.inr (q8 c).2.1
  have f126 : L_isFlow_126 1 w (r 12 w) 1 m = some (1, m) := by
    unfold L_isFlow_126
    rw [if_f (by decide), chk_t (by omega), q_due h w0 w1, cal0_e]
    unfold dueV
    by_cases c : r 17 (rw9 r w) = 20 ∧ hk r w (r 18 (rw9 r w) - 1) < 7
    · rw [if_t c, if_f (by decide), q_events h w0 w1 q1.1 (Int.le_refl _), cal0_e, chk_t (by rw [← er]; omega), q_kind h w0 w1 q1.1 (Int.le_refl _) (by rw [← er]; omega) (by omega), cal0_e, ← er, if_f (by have := c.2; unfold hk at this; omega)]
    · rw [if_f c, if_t rfl]
  have f111 : L_isFlow_111 1 w (r 12 w) m = some (1, m) := by
    unfold L_isFlow_111
    rw [chk_t (by omega), q_place h w0 w1, cal0_e, if_f (by have := q6.2.1; omega)]
    exact f126
  have f81 : L_isFlow_81 1 w (r 12 w) (r 17 (rw9 r w)) 1 m = some (1, m) := by
    unfold L_isFlow_81
    rw [if_f (by decide)]
    by_cases c : r 17 (rw9 r w) = 20
    · rw [if_t c]; exact f111
    · have d0 : dueV r w = 0 := by
        unfold dueV
        rw [if_f (fun hh => c hh.1)]
      rw [if_f c, chk_t (by omega), q_place h w0 w1, cal0_e, if_t (q6.2.2 c), q_due h w0 w1, cal0_e, if_t d0]
      exact f111
  unfold L_isFlow L_isFlow_0
  rw [chk_t (by omega), q_runs h w0 w1, cal0_e, q_state h w0 w1 q1.1 (Int.le_refl _), cal0_e, q_register h w0 w1, cal0_e, ← er, if_f (by omega), if_f (by omega), if_f (by omega), if_f (by omega), if_f (by omega), if_f (by omega), q_parent h w0 w1, cal0_e]
  rcases par with c | c
  · rw [if_t c, f81]; exact boolR_e (Or.inr rfl)
  · by_cases d : r 9 w = -1
    · rw [if_t d, f81]; exact boolR_e (Or.inr rfl)
    · rw [if_f d, q_parent h w0 w1, cal0_e, if_f (by omega), f81]; exact boolR_e (Or.inr rfl)
end SWS
