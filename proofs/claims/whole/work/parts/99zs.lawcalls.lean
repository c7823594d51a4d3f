/-! the law: what each call gives -/
section LB
variable {N : Int} {r : Rst} {m : Mem} {p0 p1 p2 p3 : Int}
theorem hhA : ∀ e (m3 : Mem), okE9 [0, 1] e = true → e ≠ 0 → hA9 e m3 = some ((fun e => e : Int → Int) e, m3) := fun e m3 he h0 => by
  have h : e ∈ ([0, 1] : List Int) := of_decide_eq_true he
  simp only [List.mem_cons, List.not_mem_nil, or_false] at h
  unfold hA9
  rcases h with h | h
  · exact absurd h h0
  · subst h; rfl
theorem cpA : ∀ e, okE9 [0, 1] e = true → e ≠ 0 → (fun e => e : Int → Int) e ≠ 0 := fun e he h0 => by
  have h : e ∈ ([0, 1] : List Int) := of_decide_eq_true he
  simp only [List.mem_cons, List.not_mem_nil, or_false] at h
  rcases h with h | h
  · exact absurd h h0
  · subst h; decide
theorem hhB : ∀ e (m3 : Mem), okE9 [0, 1, 2, 3] e = true → e ≠ 0 → hB9 e m3 = some ((fun e => e : Int → Int) e, m3) := fun e m3 he h0 => by
  have h : e ∈ ([0, 1, 2, 3] : List Int) := of_decide_eq_true he
  simp only [List.mem_cons, List.not_mem_nil, or_false] at h
  unfold hB9
  rcases h with h | h | h | h
  · exact absurd h h0
  · subst h; rfl
  · subst h; rfl
  · subst h; rfl
theorem cpB : ∀ e, okE9 [0, 1, 2, 3] e = true → e ≠ 0 → (fun e => e : Int → Int) e ≠ 0 := fun e he h0 => by
  have h : e ∈ ([0, 1, 2, 3] : List Int) := of_decide_eq_true he
  simp only [List.mem_cons, List.not_mem_nil, or_false] at h
  rcases h with h | h | h | h
  · exact absurd h h0
  · subst h; decide
  · subst h; decide
  · subst h; decide
theorem hhC : ∀ e (m3 : Mem), okE9 [0, 1, 3] e = true → e ≠ 0 → hC9 e m3 = some ((fun e => if e = 3 then 2 else e : Int → Int) e, m3) := fun e m3 he h0 => by
  have h : e ∈ ([0, 1, 3] : List Int) := of_decide_eq_true he
  simp only [List.mem_cons, List.not_mem_nil, or_false] at h
  unfold hC9
  rcases h with h | h | h
  · exact absurd h h0
  · subst h; rfl
  · subst h; rfl
theorem cpC : ∀ e, okE9 [0, 1, 3] e = true → e ≠ 0 → (fun e => if e = 3 then 2 else e : Int → Int) e ≠ 0 := fun e he h0 => by
  have h : e ∈ ([0, 1, 3] : List Int) := of_decide_eq_true he
  simp only [List.mem_cons, List.not_mem_nil, or_false] at h
  rcases h with h | h | h
  · exact absurd h h0
  · subst h; decide
  · subst h; decide
theorem hhD : ∀ e (m3 : Mem), okE9 [0, 1, 2] e = true → e ≠ 0 → hD9 e m3 = some ((fun e => e : Int → Int) e, m3) := fun e m3 he h0 => by
  have h : e ∈ ([0, 1, 2] : List Int) := of_decide_eq_true he
  simp only [List.mem_cons, List.not_mem_nil, or_false] at h
  unfold hD9
  rcases h with h | h | h
  · exact absurd h h0
  · subst h; rfl
  · subst h; rfl
theorem cpD : ∀ e, okE9 [0, 1, 2] e = true → e ≠ 0 → (fun e => e : Int → Int) e ≠ 0 := fun e he h0 => by
  have h : e ∈ ([0, 1, 2] : List Int) := of_decide_eq_true he
  simp only [List.mem_cons, List.not_mem_nil, or_false] at h
  rcases h with h | h | h
  · exact absurd h h0
  · subst h; decide
  · subst h; decide
theorem hhE : ∀ e (m3 : Mem), okE9 [0, 2] e = true → e ≠ 0 → hE9 e m3 = some ((fun e => if e = 2 then 1 else e : Int → Int) e, m3) := fun e m3 he h0 => by
  have h : e ∈ ([0, 2] : List Int) := of_decide_eq_true he
  simp only [List.mem_cons, List.not_mem_nil, or_false] at h
  unfold hE9
  rcases h with h | h
  · exact absurd h h0
  · subst h; rfl
theorem cpE : ∀ e, okE9 [0, 2] e = true → e ≠ 0 → (fun e => if e = 2 then 1 else e : Int → Int) e ≠ 0 := fun e he h0 => by
  have h : e ∈ ([0, 2] : List Int) := of_decide_eq_true he
  simp only [List.mem_cons, List.not_mem_nil, or_false] at h
  rcases h with h | h
  · exact absurd h h0
  · subst h; decide
theorem w_step (h : RelC N r m) (tt : GT r) (hp : Rp r m) (hN : N ≤ 599) : ∃ k v' m3 m4 m5 r', L_step 1 p0 p1 p2 p3 8 m = some (k, m3) ∧ X12_step 10 p0 p1 p2 p3 m3 = some (v', m4) ∧ X12_thrown 10 m4 = some (k, m5) ∧ (k = 0 → m5 8 0 = v' ∧ (fun _ => True) v') ∧ m3 (-3) = m (-3) ∧ m3 (-4) = m (-4) ∧ RelC (N + 1) r' m5 ∧ GT r' ∧ Rp r' m5 ∧ m5 (-3) = m (-3) ∧ m5 (-4) = m (-4) ∧ m5 (-2) 0 ≤ m (-2) 0 + 100 + 10 * (r' 16 0 - r 16 0) ∧ m5 (-2) 1 ≤ m (-2) 1 + 2000 + 700 * (r' 16 0 - r 16 0) := by
  have e : L_step 1 p0 p1 p2 p3 8 m = calT (X11_step 1 p0 p1 p2 p3 m) kI9 hB9 := by
    unfold L_step L_step_0
    rw [chk_t (by decide)]
    rfl
  rw [e]
  exact law_one (cd := fun e => e) (ok := okE9 [0, 1, 2, 3]) (xo := fun m3 => X12_step 10 p0 p1 p2 p3 m3) (g := G_step p0 p1 p2 p3 r) (Q := fun _ => True) (fun cd' hcd => c_step h tt ((hcd 0 rfl).trans (by decide)) ((hcd 1 rfl).trans (by decide)) ((hcd 2 rfl).trans (by decide)) ((hcd 3 rfl).trans (by decide))) hhB rfl rfl cpB hp (fun _ _ _ => trivial) (fun v m3 _ => kI_e) (fun m3 q => li_X12_step q)
theorem w_forget (h : RelC N r m) (tt : GT r) (hp : Rp r m) (hN : N ≤ 599) : ∃ k v' m3 m4 m5 r', L_forget 1 p0 8 m = some (k, m3) ∧ X12_forget 10 p0 m3 = some (v', m4) ∧ X12_thrown 10 m4 = some (k, m5) ∧ (k = 0 → m5 8 0 = v' ∧ (fun _ => True) v') ∧ m3 (-3) = m (-3) ∧ m3 (-4) = m (-4) ∧ RelC (N + 1) r' m5 ∧ GT r' ∧ Rp r' m5 ∧ m5 (-3) = m (-3) ∧ m5 (-4) = m (-4) ∧ m5 (-2) 0 ≤ m (-2) 0 + 100 + 10 * (r' 16 0 - r 16 0) ∧ m5 (-2) 1 ≤ m (-2) 1 + 2000 + 700 * (r' 16 0 - r 16 0) := by
  have e : L_forget 1 p0 8 m = calT (X11_forget 1 p0 m) kI9 hA9 := by
    unfold L_forget L_forget_0
    rw [chk_t (by decide)]
    rfl
  rw [e]
  exact law_one (cd := fun e => e) (ok := okE9 [0, 1]) (xo := fun m3 => X12_forget 10 p0 m3) (g := G_forget p0 r) (Q := fun _ => True) (fun cd' hcd => c_forget h tt ((hcd 0 rfl).trans (by decide)) ((hcd 1 rfl).trans (by decide))) hhA rfl rfl cpA hp (fun _ _ _ => trivial) (fun v m3 _ => kI_e) (fun m3 q => li_X12_forget q)
theorem w_release (h : RelC N r m) (tt : GT r) (hp : Rp r m) (hN : N ≤ 599) : ∃ k v' m3 m4 m5 r', L_release 1 p0 8 m = some (k, m3) ∧ X12_release 10 p0 m3 = some (v', m4) ∧ X12_thrown 10 m4 = some (k, m5) ∧ (k = 0 → m5 8 0 = v' ∧ (fun _ => True) v') ∧ m3 (-3) = m (-3) ∧ m3 (-4) = m (-4) ∧ RelC (N + 1) r' m5 ∧ GT r' ∧ Rp r' m5 ∧ m5 (-3) = m (-3) ∧ m5 (-4) = m (-4) ∧ m5 (-2) 0 ≤ m (-2) 0 + 100 + 10 * (r' 16 0 - r 16 0) ∧ m5 (-2) 1 ≤ m (-2) 1 + 2000 + 700 * (r' 16 0 - r 16 0) := by
  have e : L_release 1 p0 8 m = calT (X11_release 1 p0 m) kI9 hC9 := by
    unfold L_release L_release_0
    rw [chk_t (by decide)]
    rfl
  rw [e]
  exact law_one (cd := fun e => if e = 3 then 2 else e) (ok := okE9 [0, 1, 3]) (xo := fun m3 => X12_release 10 p0 m3) (g := G_release p0 r) (Q := fun _ => True) (fun cd' hcd => c_release h tt ((hcd 0 rfl).trans (by decide)) ((hcd 1 rfl).trans (by decide)) ((hcd 3 rfl).trans (by decide))) hhC rfl rfl cpC hp (fun _ _ _ => trivial) (fun v m3 _ => kI_e) (fun m3 q => li_X12_release q)
theorem w_versions (h : RelC N r m) (tt : GT r) (hp : Rp r m) (hN : N ≤ 599) : ∃ k v' m3 m4 m5 r', L_versions 1 p0 8 m = some (k, m3) ∧ X12_versions 10 p0 m3 = some (v', m4) ∧ X12_thrown 10 m4 = some (k, m5) ∧ (k = 0 → m5 8 0 = v' ∧ (fun _ => True) v') ∧ m3 (-3) = m (-3) ∧ m3 (-4) = m (-4) ∧ RelC (N + 1) r' m5 ∧ GT r' ∧ Rp r' m5 ∧ m5 (-3) = m (-3) ∧ m5 (-4) = m (-4) ∧ m5 (-2) 0 ≤ m (-2) 0 + 100 + 10 * (r' 16 0 - r 16 0) ∧ m5 (-2) 1 ≤ m (-2) 1 + 2000 + 700 * (r' 16 0 - r 16 0) := by
  have e : L_versions 1 p0 8 m = calT (X11_versions 1 p0 m) kI9 hA9 := by
    unfold L_versions L_versions_0
    rw [chk_t (by decide)]
    rfl
  rw [e]
  exact law_one (cd := fun e => e) (ok := okE9 [0, 1]) (xo := fun m3 => X12_versions 10 p0 m3) (g := G_versions p0 r) (Q := fun _ => True) (fun cd' hcd => c_versions h tt ((hcd 0 rfl).trans (by decide)) ((hcd 1 rfl).trans (by decide))) hhA rfl rfl cpA hp (fun _ _ _ => trivial) (fun v m3 _ => kI_e) (fun m3 q => li_X12_versions q)
theorem w_start (h : RelC N r m) (tt : GT r) (hp : Rp r m) (hN : N ≤ 599) : ∃ k v' m3 m4 m5 r', L_start 1 p0 p1 p2 8 m = some (k, m3) ∧ X12_start 10 p0 p1 p2 m3 = some (v', m4) ∧ X12_thrown 10 m4 = some (k, m5) ∧ (k = 0 → m5 8 0 = v' ∧ (fun _ => True) v') ∧ m3 (-3) = m (-3) ∧ m3 (-4) = m (-4) ∧ RelC (N + 1) r' m5 ∧ GT r' ∧ Rp r' m5 ∧ m5 (-3) = m (-3) ∧ m5 (-4) = m (-4) ∧ m5 (-2) 0 ≤ m (-2) 0 + 100 + 10 * (r' 16 0 - r 16 0) ∧ m5 (-2) 1 ≤ m (-2) 1 + 2000 + 700 * (r' 16 0 - r 16 0) := by
  have e : L_start 1 p0 p1 p2 8 m = calT (X11_start 1 p0 p1 p2 m) kI9 hB9 := by
    unfold L_start L_start_0
    rw [chk_t (by decide)]
    rfl
  rw [e]
  exact law_one (cd := fun e => e) (ok := okE9 [0, 1, 2, 3]) (xo := fun m3 => X12_start 10 p0 p1 p2 m3) (g := G_start p0 p1 p2 r) (Q := fun _ => True) (fun cd' hcd => c_start h tt ((hcd 0 rfl).trans (by decide)) ((hcd 1 rfl).trans (by decide)) ((hcd 2 rfl).trans (by decide)) ((hcd 3 rfl).trans (by decide))) hhB rfl rfl cpB hp (fun _ _ _ => trivial) (fun v m3 _ => kI_e) (fun m3 q => li_X12_start q)
theorem w_signal (h : RelC N r m) (tt : GT r) (hp : Rp r m) (hN : N ≤ 599) : ∃ k v' m3 m4 m5 r', L_signal 1 p0 p1 p2 8 m = some (k, m3) ∧ X12_signal 10 p0 p1 p2 m3 = some (v', m4) ∧ X12_thrown 10 m4 = some (k, m5) ∧ (k = 0 → m5 8 0 = v' ∧ (fun v => v = 0 ∨ v = 1) v') ∧ m3 (-3) = m (-3) ∧ m3 (-4) = m (-4) ∧ RelC (N + 1) r' m5 ∧ GT r' ∧ Rp r' m5 ∧ m5 (-3) = m (-3) ∧ m5 (-4) = m (-4) ∧ m5 (-2) 0 ≤ m (-2) 0 + 100 + 10 * (r' 16 0 - r 16 0) ∧ m5 (-2) 1 ≤ m (-2) 1 + 2000 + 700 * (r' 16 0 - r 16 0) := by
  have e : L_signal 1 p0 p1 p2 8 m = calT (X11_signal 1 p0 p1 p2 m) kB9 hD9 := by
    unfold L_signal L_signal_0
    rw [chk_t (by decide)]
    rfl
  rw [e]
  exact law_one (cd := fun e => e) (ok := okE9 [0, 1, 2]) (xo := fun m3 => X12_signal 10 p0 p1 p2 m3) (g := G_signal p0 p1 p2 r) (Q := fun v => v = 0 ∨ v = 1) (fun cd' hcd => c_signal h tt ((hcd 0 rfl).trans (by decide)) ((hcd 1 rfl).trans (by decide)) ((hcd 2 rfl).trans (by decide))) hhD rfl rfl cpD hp (fun v m' e => boolX_01 (o := X11_signal_0 1 p0 p1 p2 m) e) (fun v m3 q => kB_e q) (fun m3 q => li_X12_signal q)
theorem w_cancel (h : RelC N r m) (tt : GT r) (hp : Rp r m) (hN : N ≤ 599) : ∃ k v' m3 m4 m5 r', L_cancel 1 p0 8 m = some (k, m3) ∧ X12_cancel 10 p0 m3 = some (v', m4) ∧ X12_thrown 10 m4 = some (k, m5) ∧ (k = 0 → m5 8 0 = v' ∧ (fun v => v = 0 ∨ v = 1) v') ∧ m3 (-3) = m (-3) ∧ m3 (-4) = m (-4) ∧ RelC (N + 1) r' m5 ∧ GT r' ∧ Rp r' m5 ∧ m5 (-3) = m (-3) ∧ m5 (-4) = m (-4) ∧ m5 (-2) 0 ≤ m (-2) 0 + 100 + 10 * (r' 16 0 - r 16 0) ∧ m5 (-2) 1 ≤ m (-2) 1 + 2000 + 700 * (r' 16 0 - r 16 0) := by
  have e : L_cancel 1 p0 8 m = calT (X11_cancel 1 p0 m) kB9 hA9 := by
    unfold L_cancel L_cancel_0
    rw [chk_t (by decide)]
    rfl
  rw [e]
  exact law_one (cd := fun e => e) (ok := okE9 [0, 1]) (xo := fun m3 => X12_cancel 10 p0 m3) (g := G_cancel p0 r) (Q := fun v => v = 0 ∨ v = 1) (fun cd' hcd => c_cancel h tt ((hcd 0 rfl).trans (by decide)) ((hcd 1 rfl).trans (by decide))) hhA rfl rfl cpA hp (fun v m' e => boolX_01 (o := X11_cancel_0 1 p0 m) e) (fun v m3 q => kB_e q) (fun m3 q => li_X12_cancel q)
theorem w_decide (h : RelC N r m) (tt : GT r) (hp : Rp r m) (hN : N ≤ 599) : ∃ k v' m3 m4 m5 r', L_decide 1 p0 p1 8 m = some (k, m3) ∧ X12_decide 10 p0 p1 m3 = some (v', m4) ∧ X12_thrown 10 m4 = some (k, m5) ∧ (k = 0 → m5 8 0 = v' ∧ (fun _ => True) v') ∧ m3 (-3) = m (-3) ∧ m3 (-4) = m (-4) ∧ RelC (N + 1) r' m5 ∧ GT r' ∧ Rp r' m5 ∧ m5 (-3) = m (-3) ∧ m5 (-4) = m (-4) ∧ m5 (-2) 0 ≤ m (-2) 0 + 100 + 10 * (r' 16 0 - r 16 0) ∧ m5 (-2) 1 ≤ m (-2) 1 + 2000 + 700 * (r' 16 0 - r 16 0) := by
  have e : L_decide 1 p0 p1 8 m = calT (X11_decide 1 p0 p1 m) kI9 hC9 := by
    unfold L_decide L_decide_0
    rw [chk_t (by decide)]
    rfl
  rw [e]
  exact law_one (cd := fun e => if e = 3 then 2 else e) (ok := okE9 [0, 1, 3]) (xo := fun m3 => X12_decide 10 p0 p1 m3) (g := G_decide p0 p1 r) (Q := fun _ => True) (fun cd' hcd => c_decide h tt (by omega) ((hcd 0 rfl).trans (by decide)) ((hcd 1 rfl).trans (by decide)) ((hcd 3 rfl).trans (by decide))) hhC rfl rfl cpC hp (fun _ _ _ => trivial) (fun v m3 _ => kI_e) (fun m3 q => li_X12_decide q)
theorem w_setRate (h : RelC N r m) (tt : GT r) (hp : Rp r m) (hN : N ≤ 599) : ∃ k v' m3 m4 m5 r', L_setRate 1 p0 p1 8 m = some (k, m3) ∧ X12_setRate 10 p0 p1 m3 = some (v', m4) ∧ X12_thrown 10 m4 = some (k, m5) ∧ (k = 0 → m5 8 0 = v' ∧ (fun _ => True) v') ∧ m3 (-3) = m (-3) ∧ m3 (-4) = m (-4) ∧ RelC (N + 1) r' m5 ∧ GT r' ∧ Rp r' m5 ∧ m5 (-3) = m (-3) ∧ m5 (-4) = m (-4) ∧ m5 (-2) 0 ≤ m (-2) 0 + 100 + 10 * (r' 16 0 - r 16 0) ∧ m5 (-2) 1 ≤ m (-2) 1 + 2000 + 700 * (r' 16 0 - r 16 0) := by
  have e : L_setRate 1 p0 p1 8 m = calT (X11_setRate 1 p0 p1 m) kI9 hD9 := by
    unfold L_setRate L_setRate_0
    rw [chk_t (by decide)]
    rfl
  rw [e]
  exact law_one (cd := fun e => e) (ok := okE9 [0, 1, 2]) (xo := fun m3 => X12_setRate 10 p0 p1 m3) (g := G_setRate p0 p1 r) (Q := fun _ => True) (fun cd' hcd => c_setRate h tt ((hcd 0 rfl).trans (by decide)) ((hcd 1 rfl).trans (by decide)) ((hcd 2 rfl).trans (by decide))) hhD rfl rfl cpD hp (fun _ _ _ => trivial) (fun v m3 _ => kI_e) (fun m3 q => li_X12_setRate q)
theorem w_take (h : RelC N r m) (tt : GT r) (hp : Rp r m) (hN : N ≤ 599) : ∃ k v' m3 m4 m5 r', L_take 1 p0 p1 8 m = some (k, m3) ∧ X12_take 10 p0 p1 m3 = some (v', m4) ∧ X12_thrown 10 m4 = some (k, m5) ∧ (k = 0 → m5 8 0 = v' ∧ (fun _ => True) v') ∧ m3 (-3) = m (-3) ∧ m3 (-4) = m (-4) ∧ RelC (N + 1) r' m5 ∧ GT r' ∧ Rp r' m5 ∧ m5 (-3) = m (-3) ∧ m5 (-4) = m (-4) ∧ m5 (-2) 0 ≤ m (-2) 0 + 100 + 10 * (r' 16 0 - r 16 0) ∧ m5 (-2) 1 ≤ m (-2) 1 + 2000 + 700 * (r' 16 0 - r 16 0) := by
  have e : L_take 1 p0 p1 8 m = calT (X11_take 1 p0 p1 m) kI9 hC9 := by
    unfold L_take L_take_0
    rw [chk_t (by decide)]
    rfl
  rw [e]
  exact law_one (cd := fun e => if e = 3 then 2 else e) (ok := okE9 [0, 1, 3]) (xo := fun m3 => X12_take 10 p0 p1 m3) (g := G_take p0 p1 r) (Q := fun _ => True) (fun cd' hcd => c_take h tt (by omega) ((hcd 0 rfl).trans (by decide)) ((hcd 1 rfl).trans (by decide)) ((hcd 3 rfl).trans (by decide))) hhC rfl rfl cpC hp (fun _ _ _ => trivial) (fun v m3 _ => kI_e) (fun m3 q => li_X12_take q)
theorem w_has (h : RelC N r m) (tt : GT r) (hp : Rp r m) (hN : N ≤ 599) : ∃ k v' m3 m4 m5 r', L_has 1 p0 8 m = some (k, m3) ∧ X12_has 10 p0 m3 = some (v', m4) ∧ X12_thrown 10 m4 = some (k, m5) ∧ (k = 0 → m5 8 0 = v' ∧ (fun _ => True) v') ∧ m3 (-3) = m (-3) ∧ m3 (-4) = m (-4) ∧ RelC (N + 1) r' m5 ∧ GT r' ∧ Rp r' m5 ∧ m5 (-3) = m (-3) ∧ m5 (-4) = m (-4) ∧ m5 (-2) 0 ≤ m (-2) 0 + 100 + 10 * (r' 16 0 - r 16 0) ∧ m5 (-2) 1 ≤ m (-2) 1 + 2000 + 700 * (r' 16 0 - r 16 0) := by
  have e : L_has 1 p0 8 m = calT (X11_has 1 p0 m) kI9 hA9 := by
    unfold L_has L_has_0
    rw [chk_t (by decide)]
    rfl
  rw [e]
  exact law_one (cd := fun e => e) (ok := okE9 [0, 1]) (xo := fun m3 => X12_has 10 p0 m3) (g := G_has p0 r) (Q := fun _ => True) (fun cd' hcd => c_has h tt ((hcd 0 rfl).trans (by decide)) ((hcd 1 rfl).trans (by decide))) hhA rfl rfl cpA hp (fun _ _ _ => trivial) (fun v m3 _ => kI_e) (fun m3 q => li_X12_has q)
theorem w_beat (h : RelC N r m) (tt : GT r) (hp : Rp r m) (hN : N ≤ 599) : ∃ k v' m3 m4 m5 r', L_beat 1 p0 8 m = some (k, m3) ∧ X12_beat 10 p0 m3 = some (v', m4) ∧ X12_thrown 10 m4 = some (k, m5) ∧ (k = 0 → m5 8 0 = v' ∧ (fun _ => True) v') ∧ m3 (-3) = m (-3) ∧ m3 (-4) = m (-4) ∧ RelC (N + 1) r' m5 ∧ GT r' ∧ Rp r' m5 ∧ m5 (-3) = m (-3) ∧ m5 (-4) = m (-4) ∧ m5 (-2) 0 ≤ m (-2) 0 + 100 + 10 * (r' 16 0 - r 16 0) ∧ m5 (-2) 1 ≤ m (-2) 1 + 2000 + 700 * (r' 16 0 - r 16 0) := by
  have e : L_beat 1 p0 8 m = calT (X11_beat 1 p0 m) kI9 hC9 := by
    unfold L_beat L_beat_0
    rw [chk_t (by decide)]
    rfl
  rw [e]
  exact law_one (cd := fun e => if e = 3 then 2 else e) (ok := okE9 [0, 1, 3]) (xo := fun m3 => X12_beat 10 p0 m3) (g := G_beat p0 r) (Q := fun _ => True) (fun cd' hcd => c_beat h tt (by omega) ((hcd 0 rfl).trans (by decide)) ((hcd 1 rfl).trans (by decide)) ((hcd 3 rfl).trans (by decide))) hhC rfl rfl cpC hp (fun _ _ _ => trivial) (fun v m3 _ => kI_e) (fun m3 q => li_X12_beat q)
theorem w_end (h : RelC N r m) (tt : GT r) (hp : Rp r m) (hN : N ≤ 599) : ∃ k v' m3 m4 m5 r', L_end 1 p0 p1 8 m = some (k, m3) ∧ X12_end 10 p0 p1 m3 = some (v', m4) ∧ X12_thrown 10 m4 = some (k, m5) ∧ (k = 0 → m5 8 0 = v' ∧ (fun v => v = 0 ∨ v = 1) v') ∧ m3 (-3) = m (-3) ∧ m3 (-4) = m (-4) ∧ RelC (N + 1) r' m5 ∧ GT r' ∧ Rp r' m5 ∧ m5 (-3) = m (-3) ∧ m5 (-4) = m (-4) ∧ m5 (-2) 0 ≤ m (-2) 0 + 100 + 10 * (r' 16 0 - r 16 0) ∧ m5 (-2) 1 ≤ m (-2) 1 + 2000 + 700 * (r' 16 0 - r 16 0) := by
  have e : L_end 1 p0 p1 8 m = calT (X11_end 1 p0 p1 m) kB9 hB9 := by
    unfold L_end L_end_0
    rw [chk_t (by decide)]
    rfl
  rw [e]
  exact law_one (cd := fun e => e) (ok := okE9 [0, 1, 2, 3]) (xo := fun m3 => X12_end 10 p0 p1 m3) (g := G_end p0 p1 r) (Q := fun v => v = 0 ∨ v = 1) (fun cd' hcd => c_end h tt ((hcd 0 rfl).trans (by decide)) ((hcd 1 rfl).trans (by decide)) ((hcd 2 rfl).trans (by decide)) ((hcd 3 rfl).trans (by decide))) hhB rfl rfl cpB hp (fun v m' e => boolX_01 (o := X11_end_0 1 p0 p1 m) e) (fun v m3 q => kB_e q) (fun m3 q => li_X12_end q)
theorem w_fail (h : RelC N r m) (tt : GT r) (hp : Rp r m) (hN : N ≤ 599) : ∃ k v' m3 m4 m5 r', L_fail 1 p0 8 m = some (k, m3) ∧ X12_fail 10 p0 m3 = some (v', m4) ∧ X12_thrown 10 m4 = some (k, m5) ∧ (k = 0 → m5 8 0 = v' ∧ (fun _ => True) v') ∧ m3 (-3) = m (-3) ∧ m3 (-4) = m (-4) ∧ RelC (N + 1) r' m5 ∧ GT r' ∧ Rp r' m5 ∧ m5 (-3) = m (-3) ∧ m5 (-4) = m (-4) ∧ m5 (-2) 0 ≤ m (-2) 0 + 100 + 10 * (r' 16 0 - r 16 0) ∧ m5 (-2) 1 ≤ m (-2) 1 + 2000 + 700 * (r' 16 0 - r 16 0) := by
  have e : L_fail 1 p0 8 m = calT (X11_fail 1 p0 m) kI9 hC9 := by
    unfold L_fail L_fail_0
    rw [chk_t (by decide)]
    rfl
  rw [e]
  exact law_one (cd := fun e => if e = 3 then 2 else e) (ok := okE9 [0, 1, 3]) (xo := fun m3 => X12_fail 10 p0 m3) (g := G_fail p0 r) (Q := fun _ => True) (fun cd' hcd => c_fail h tt (by omega) ((hcd 0 rfl).trans (by decide)) ((hcd 1 rfl).trans (by decide)) ((hcd 3 rfl).trans (by decide))) hhC rfl rfl cpC hp (fun _ _ _ => trivial) (fun v m3 _ => kI_e) (fun m3 q => li_X12_fail q)
theorem w_run (h : RelC N r m) (tt : GT r) (hp : Rp r m) (hN : N ≤ 599) (hx : p1 = 0 ∨ p1 = 1) : ∃ k v' m3 m4 m5 r', L_run 1 p0 p1 8 m = some (k, m3) ∧ X12_run 10 p0 p1 m3 = some (v', m4) ∧ X12_thrown 10 m4 = some (k, m5) ∧ (k = 0 → m5 8 0 = v' ∧ (fun v => v = 0 ∨ v = 1) v') ∧ m3 (-3) = m (-3) ∧ m3 (-4) = m (-4) ∧ RelC (N + 1) r' m5 ∧ GT r' ∧ Rp r' m5 ∧ m5 (-3) = m (-3) ∧ m5 (-4) = m (-4) ∧ m5 (-2) 0 ≤ m (-2) 0 + 100 + 10 * (r' 16 0 - r 16 0) ∧ m5 (-2) 1 ≤ m (-2) 1 + 2000 + 700 * (r' 16 0 - r 16 0) := by
  have e : L_run 1 p0 p1 8 m = calT (X11_run 1 p0 p1 m) kB9 hA9 := by
    unfold L_run L_run_0
    rw [chk_t (by decide)]
    rfl
  rw [e]
  exact law_one (cd := fun e => e) (ok := okE9 [0, 1]) (xo := fun m3 => X12_run 10 p0 p1 m3) (g := G_run p0 p1 r) (Q := fun v => v = 0 ∨ v = 1) (fun cd' hcd => c_run h tt ((hcd 0 rfl).trans (by decide)) ((hcd 1 rfl).trans (by decide)) hx) hhA rfl rfl cpA hp (fun v m' e => boolX_01 (o := X11_run_0 1 p0 p1 m) e) (fun v m3 q => kB_e q) (fun m3 q => li_X12_run q)
theorem w_ready (h : RelC N r m) (tt : GT r) (hp : Rp r m) (hN : N ≤ 599) : ∃ k v' m3 m4 m5 r', L_ready 1 p0 8 m = some (k, m3) ∧ X12_ready 10 p0 m3 = some (v', m4) ∧ X12_thrown 10 m4 = some (k, m5) ∧ (k = 0 → m5 8 0 = v' ∧ (fun _ => True) v') ∧ m3 (-3) = m (-3) ∧ m3 (-4) = m (-4) ∧ RelC (N + 1) r' m5 ∧ GT r' ∧ Rp r' m5 ∧ m5 (-3) = m (-3) ∧ m5 (-4) = m (-4) ∧ m5 (-2) 0 ≤ m (-2) 0 + 100 + 10 * (r' 16 0 - r 16 0) ∧ m5 (-2) 1 ≤ m (-2) 1 + 2000 + 700 * (r' 16 0 - r 16 0) := by
  have e : L_ready 1 p0 8 m = calT (X11_ready 1 p0 m) kI9 hA9 := by
    unfold L_ready L_ready_0
    rw [chk_t (by decide)]
    rfl
  rw [e]
  exact law_one (cd := fun e => e) (ok := okE9 [0, 1]) (xo := fun m3 => X12_ready 10 p0 m3) (g := G_ready p0 r) (Q := fun _ => True) (fun cd' hcd => c_ready h tt ((hcd 0 rfl).trans (by decide)) ((hcd 1 rfl).trans (by decide))) hhA rfl rfl cpA hp (fun _ _ _ => trivial) (fun v m3 _ => kI_e) (fun m3 q => li_X12_ready q)
theorem w_taken (h : RelC N r m) (tt : GT r) (hp : Rp r m) (hN : N ≤ 599) : ∃ k v' m3 m4 m5 r', L_taken 1 p0 p1 8 m = some (k, m3) ∧ X12_taken 10 p0 p1 m3 = some (v', m4) ∧ X12_thrown 10 m4 = some (k, m5) ∧ (k = 0 → m5 8 0 = v' ∧ (fun _ => True) v') ∧ m3 (-3) = m (-3) ∧ m3 (-4) = m (-4) ∧ RelC (N + 1) r' m5 ∧ GT r' ∧ Rp r' m5 ∧ m5 (-3) = m (-3) ∧ m5 (-4) = m (-4) ∧ m5 (-2) 0 ≤ m (-2) 0 + 100 + 10 * (r' 16 0 - r 16 0) ∧ m5 (-2) 1 ≤ m (-2) 1 + 2000 + 700 * (r' 16 0 - r 16 0) := by
  have e : L_taken 1 p0 p1 8 m = calT (X11_taken 1 p0 p1 m) kI9 hA9 := by
    unfold L_taken L_taken_0
    rw [chk_t (by decide)]
    rfl
  rw [e]
  exact law_one (cd := fun e => e) (ok := okE9 [0, 1]) (xo := fun m3 => X12_taken 10 p0 p1 m3) (g := G_taken p0 p1 r) (Q := fun _ => True) (fun cd' hcd => c_taken h tt ((hcd 0 rfl).trans (by decide)) ((hcd 1 rfl).trans (by decide))) hhA rfl rfl cpA hp (fun _ _ _ => trivial) (fun v m3 _ => kI_e) (fun m3 q => li_X12_taken q)
theorem w_tick (h : RelC N r m) (tt : GT r) (hp : Rp r m) (hN : N ≤ 599) : ∃ k v' m3 m4 m5 r', L_tick 1 p0 8 m = some (k, m3) ∧ X12_tick 10 p0 m3 = some (v', m4) ∧ X12_thrown 10 m4 = some (k, m5) ∧ (k = 0 → m5 8 0 = v' ∧ (fun _ => True) v') ∧ m3 (-3) = m (-3) ∧ m3 (-4) = m (-4) ∧ RelC (N + 1) r' m5 ∧ GT r' ∧ Rp r' m5 ∧ m5 (-3) = m (-3) ∧ m5 (-4) = m (-4) ∧ m5 (-2) 0 ≤ m (-2) 0 + 100 + 10 * (r' 16 0 - r 16 0) ∧ m5 (-2) 1 ≤ m (-2) 1 + 2000 + 700 * (r' 16 0 - r 16 0) := by
  have e : L_tick 1 p0 8 m = calT (X11_tick 1 p0 m) kI9 hE9 := by
    unfold L_tick L_tick_0
    rw [chk_t (by decide)]
    rfl
  rw [e]
  exact law_one (cd := fun e => if e = 2 then 1 else e) (ok := okE9 [0, 2]) (xo := fun m3 => X12_tick 10 p0 m3) (g := G_tick p0 r) (Q := fun _ => True) (fun cd' hcd => c_tick h tt (by omega) ((hcd 0 rfl).trans (by decide)) ((hcd 2 rfl).trans (by decide))) hhE rfl rfl cpE hp (fun _ _ _ => trivial) (fun v m3 _ => kI_e) (fun m3 q => li_X12_tick q)
theorem w_parent (h : RelC N r m) (tt : GT r) (hp : Rp r m) (hN : N ≤ 599) : ∃ k v' m3 m4 m5 r', L_parent 1 p0 8 m = some (k, m3) ∧ X12_parent 10 p0 m3 = some (v', m4) ∧ X12_thrown 10 m4 = some (k, m5) ∧ (k = 0 → m5 8 0 = v' ∧ (fun _ => True) v') ∧ m3 (-3) = m (-3) ∧ m3 (-4) = m (-4) ∧ RelC (N + 1) r' m5 ∧ GT r' ∧ Rp r' m5 ∧ m5 (-3) = m (-3) ∧ m5 (-4) = m (-4) ∧ m5 (-2) 0 ≤ m (-2) 0 + 100 + 10 * (r' 16 0 - r 16 0) ∧ m5 (-2) 1 ≤ m (-2) 1 + 2000 + 700 * (r' 16 0 - r 16 0) := by
  have e : L_parent 1 p0 8 m = calT (X11_parent 1 p0 m) kI9 hA9 := by
    unfold L_parent L_parent_0
    rw [chk_t (by decide)]
    rfl
  rw [e]
  exact law_one (cd := fun e => e) (ok := okE9 [0, 1]) (xo := fun m3 => X12_parent 10 p0 m3) (g := G_parent p0 r) (Q := fun _ => True) (fun cd' hcd => c_parent h tt ((hcd 0 rfl).trans (by decide)) ((hcd 1 rfl).trans (by decide))) hhA rfl rfl cpA hp (fun _ _ _ => trivial) (fun v m3 _ => kI_e) (fun m3 q => li_X12_parent q)
theorem w_runs (h : RelC N r m) (tt : GT r) (hp : Rp r m) (hN : N ≤ 599) : ∃ k v' m3 m4 m5 r', L_runs 1 p0 8 m = some (k, m3) ∧ X12_runs 10 p0 m3 = some (v', m4) ∧ X12_thrown 10 m4 = some (k, m5) ∧ (k = 0 → m5 8 0 = v' ∧ (fun _ => True) v') ∧ m3 (-3) = m (-3) ∧ m3 (-4) = m (-4) ∧ RelC (N + 1) r' m5 ∧ GT r' ∧ Rp r' m5 ∧ m5 (-3) = m (-3) ∧ m5 (-4) = m (-4) ∧ m5 (-2) 0 ≤ m (-2) 0 + 100 + 10 * (r' 16 0 - r 16 0) ∧ m5 (-2) 1 ≤ m (-2) 1 + 2000 + 700 * (r' 16 0 - r 16 0) := by
  have e : L_runs 1 p0 8 m = calT (X11_runs 1 p0 m) kI9 hA9 := by
    unfold L_runs L_runs_0
    rw [chk_t (by decide)]
    rfl
  rw [e]
  exact law_one (cd := fun e => e) (ok := okE9 [0, 1]) (xo := fun m3 => X12_runs 10 p0 m3) (g := G_runs p0 r) (Q := fun _ => True) (fun cd' hcd => c_runs h tt ((hcd 0 rfl).trans (by decide)) ((hcd 1 rfl).trans (by decide))) hhA rfl rfl cpA hp (fun _ _ _ => trivial) (fun v m3 _ => kI_e) (fun m3 q => li_X12_runs q)
theorem w_state (h : RelC N r m) (tt : GT r) (hp : Rp r m) (hN : N ≤ 599) : ∃ k v' m3 m4 m5 r', L_state 1 p0 p1 8 m = some (k, m3) ∧ X12_state 10 p0 p1 m3 = some (v', m4) ∧ X12_thrown 10 m4 = some (k, m5) ∧ (k = 0 → m5 8 0 = v' ∧ (fun _ => True) v') ∧ m3 (-3) = m (-3) ∧ m3 (-4) = m (-4) ∧ RelC (N + 1) r' m5 ∧ GT r' ∧ Rp r' m5 ∧ m5 (-3) = m (-3) ∧ m5 (-4) = m (-4) ∧ m5 (-2) 0 ≤ m (-2) 0 + 100 + 10 * (r' 16 0 - r 16 0) ∧ m5 (-2) 1 ≤ m (-2) 1 + 2000 + 700 * (r' 16 0 - r 16 0) := by
  have e : L_state 1 p0 p1 8 m = calT (X11_state 1 p0 p1 m) kI9 hA9 := by
    unfold L_state L_state_0
    rw [chk_t (by decide)]
    rfl
  rw [e]
  exact law_one (cd := fun e => e) (ok := okE9 [0, 1]) (xo := fun m3 => X12_state 10 p0 p1 m3) (g := G_state p0 p1 r) (Q := fun _ => True) (fun cd' hcd => c_state h tt ((hcd 0 rfl).trans (by decide)) ((hcd 1 rfl).trans (by decide))) hhA rfl rfl cpA hp (fun _ _ _ => trivial) (fun v m3 _ => kI_e) (fun m3 q => li_X12_state q)
theorem w_events (h : RelC N r m) (tt : GT r) (hp : Rp r m) (hN : N ≤ 599) : ∃ k v' m3 m4 m5 r', L_events 1 p0 p1 8 m = some (k, m3) ∧ X12_events 10 p0 p1 m3 = some (v', m4) ∧ X12_thrown 10 m4 = some (k, m5) ∧ (k = 0 → m5 8 0 = v' ∧ (fun _ => True) v') ∧ m3 (-3) = m (-3) ∧ m3 (-4) = m (-4) ∧ RelC (N + 1) r' m5 ∧ GT r' ∧ Rp r' m5 ∧ m5 (-3) = m (-3) ∧ m5 (-4) = m (-4) ∧ m5 (-2) 0 ≤ m (-2) 0 + 100 + 10 * (r' 16 0 - r 16 0) ∧ m5 (-2) 1 ≤ m (-2) 1 + 2000 + 700 * (r' 16 0 - r 16 0) := by
  have e : L_events 1 p0 p1 8 m = calT (X11_events 1 p0 p1 m) kI9 hA9 := by
    unfold L_events L_events_0
    rw [chk_t (by decide)]
    rfl
  rw [e]
  exact law_one (cd := fun e => e) (ok := okE9 [0, 1]) (xo := fun m3 => X12_events 10 p0 p1 m3) (g := G_events p0 p1 r) (Q := fun _ => True) (fun cd' hcd => c_events h tt ((hcd 0 rfl).trans (by decide)) ((hcd 1 rfl).trans (by decide))) hhA rfl rfl cpA hp (fun _ _ _ => trivial) (fun v m3 _ => kI_e) (fun m3 q => li_X12_events q)
theorem w_eventKind (h : RelC N r m) (tt : GT r) (hp : Rp r m) (hN : N ≤ 599) : ∃ k v' m3 m4 m5 r', L_eventKind 1 p0 p1 p2 8 m = some (k, m3) ∧ X12_eventKind 10 p0 p1 p2 m3 = some (v', m4) ∧ X12_thrown 10 m4 = some (k, m5) ∧ (k = 0 → m5 8 0 = v' ∧ (fun _ => True) v') ∧ m3 (-3) = m (-3) ∧ m3 (-4) = m (-4) ∧ RelC (N + 1) r' m5 ∧ GT r' ∧ Rp r' m5 ∧ m5 (-3) = m (-3) ∧ m5 (-4) = m (-4) ∧ m5 (-2) 0 ≤ m (-2) 0 + 100 + 10 * (r' 16 0 - r 16 0) ∧ m5 (-2) 1 ≤ m (-2) 1 + 2000 + 700 * (r' 16 0 - r 16 0) := by
  have e : L_eventKind 1 p0 p1 p2 8 m = calT (X11_eventKind 1 p0 p1 p2 m) kI9 hA9 := by
    unfold L_eventKind L_eventKind_0
    rw [chk_t (by decide)]
    rfl
  rw [e]
  exact law_one (cd := fun e => e) (ok := okE9 [0, 1]) (xo := fun m3 => X12_eventKind 10 p0 p1 p2 m3) (g := G_eventKind p0 p1 p2 r) (Q := fun _ => True) (fun cd' hcd => c_eventKind h tt ((hcd 0 rfl).trans (by decide)) ((hcd 1 rfl).trans (by decide))) hhA rfl rfl cpA hp (fun _ _ _ => trivial) (fun v m3 _ => kI_e) (fun m3 q => li_X12_eventKind q)
theorem w_eventNumber (h : RelC N r m) (tt : GT r) (hp : Rp r m) (hN : N ≤ 599) : ∃ k v' m3 m4 m5 r', L_eventNumber 1 p0 p1 p2 p3 8 m = some (k, m3) ∧ X12_eventNumber 10 p0 p1 p2 p3 m3 = some (v', m4) ∧ X12_thrown 10 m4 = some (k, m5) ∧ (k = 0 → m5 8 0 = v' ∧ (fun _ => True) v') ∧ m3 (-3) = m (-3) ∧ m3 (-4) = m (-4) ∧ RelC (N + 1) r' m5 ∧ GT r' ∧ Rp r' m5 ∧ m5 (-3) = m (-3) ∧ m5 (-4) = m (-4) ∧ m5 (-2) 0 ≤ m (-2) 0 + 100 + 10 * (r' 16 0 - r 16 0) ∧ m5 (-2) 1 ≤ m (-2) 1 + 2000 + 700 * (r' 16 0 - r 16 0) := by
  have e : L_eventNumber 1 p0 p1 p2 p3 8 m = calT (X11_eventNumber 1 p0 p1 p2 p3 m) kI9 hA9 := by
    unfold L_eventNumber L_eventNumber_0
    rw [chk_t (by decide)]
    rfl
  rw [e]
  exact law_one (cd := fun e => e) (ok := okE9 [0, 1]) (xo := fun m3 => X12_eventNumber 10 p0 p1 p2 p3 m3) (g := G_eventNumber p0 p1 p2 p3 r) (Q := fun _ => True) (fun cd' hcd => c_eventNumber h tt ((hcd 0 rfl).trans (by decide)) ((hcd 1 rfl).trans (by decide))) hhA rfl rfl cpA hp (fun _ _ _ => trivial) (fun v m3 _ => kI_e) (fun m3 q => li_X12_eventNumber q)
theorem w_property (h : RelC N r m) (tt : GT r) (hp : Rp r m) (hN : N ≤ 599) : ∃ k v' m3 m4 m5 r', L_property 1 p0 p1 8 m = some (k, m3) ∧ X12_property 10 p0 p1 m3 = some (v', m4) ∧ X12_thrown 10 m4 = some (k, m5) ∧ (k = 0 → m5 8 0 = v' ∧ (fun _ => True) v') ∧ m3 (-3) = m (-3) ∧ m3 (-4) = m (-4) ∧ RelC (N + 1) r' m5 ∧ GT r' ∧ Rp r' m5 ∧ m5 (-3) = m (-3) ∧ m5 (-4) = m (-4) ∧ m5 (-2) 0 ≤ m (-2) 0 + 100 + 10 * (r' 16 0 - r 16 0) ∧ m5 (-2) 1 ≤ m (-2) 1 + 2000 + 700 * (r' 16 0 - r 16 0) := by
  have e : L_property 1 p0 p1 8 m = calT (X11_property 1 p0 p1 m) kI9 hD9 := by
    unfold L_property L_property_0
    rw [chk_t (by decide)]
    rfl
  rw [e]
  exact law_one (cd := fun e => e) (ok := okE9 [0, 1, 2]) (xo := fun m3 => X12_property 10 p0 p1 m3) (g := G_property p0 p1 r) (Q := fun _ => True) (fun cd' hcd => c_property h tt ((hcd 0 rfl).trans (by decide)) ((hcd 1 rfl).trans (by decide)) ((hcd 2 rfl).trans (by decide))) hhD rfl rfl cpD hp (fun _ _ _ => trivial) (fun v m3 _ => kI_e) (fun m3 q => li_X12_property q)
theorem w_found (h : RelC N r m) (tt : GT r) (hp : Rp r m) (hN : N ≤ 599) : ∃ k v' m3 m4 m5 r', L_found 1 p0 p1 p2 8 m = some (k, m3) ∧ X12_found 10 p0 p1 p2 m3 = some (v', m4) ∧ X12_thrown 10 m4 = some (k, m5) ∧ (k = 0 → m5 8 0 = v' ∧ (fun _ => True) v') ∧ m3 (-3) = m (-3) ∧ m3 (-4) = m (-4) ∧ RelC (N + 1) r' m5 ∧ GT r' ∧ Rp r' m5 ∧ m5 (-3) = m (-3) ∧ m5 (-4) = m (-4) ∧ m5 (-2) 0 ≤ m (-2) 0 + 100 + 10 * (r' 16 0 - r 16 0) ∧ m5 (-2) 1 ≤ m (-2) 1 + 2000 + 700 * (r' 16 0 - r 16 0) := by
  have e : L_found 1 p0 p1 p2 8 m = calT (X11_found 1 p0 p1 p2 m) kI9 hE9 := by
    unfold L_found L_found_0
    rw [chk_t (by decide)]
    rfl
  rw [e]
  exact law_one (cd := fun e => if e = 2 then 1 else e) (ok := okE9 [0, 2]) (xo := fun m3 => X12_found 10 p0 p1 p2 m3) (g := G_found p0 p1 p2 r) (Q := fun _ => True) (fun cd' hcd => c_found h tt ((hcd 0 rfl).trans (by decide)) ((hcd 2 rfl).trans (by decide))) hhE rfl rfl cpE hp (fun _ _ _ => trivial) (fun v m3 _ => kI_e) (fun m3 q => li_X12_found q)
theorem w_isDue (h : RelC N r m) (tt : GT r) (hp : Rp r m) (hN : N ≤ 599) : ∃ k v' m3 m4 m5 r', L_isDue 1 p0 8 m = some (k, m3) ∧ X12_isDue 10 p0 m3 = some (v', m4) ∧ X12_thrown 10 m4 = some (k, m5) ∧ (k = 0 → m5 8 0 = v' ∧ (fun v => v = 0 ∨ v = 1) v') ∧ m3 (-3) = m (-3) ∧ m3 (-4) = m (-4) ∧ RelC (N + 1) r' m5 ∧ GT r' ∧ Rp r' m5 ∧ m5 (-3) = m (-3) ∧ m5 (-4) = m (-4) ∧ m5 (-2) 0 ≤ m (-2) 0 + 100 + 10 * (r' 16 0 - r 16 0) ∧ m5 (-2) 1 ≤ m (-2) 1 + 2000 + 700 * (r' 16 0 - r 16 0) := by
  have e : L_isDue 1 p0 8 m = calT (X11_isDue 1 p0 m) kB9 hA9 := by
    unfold L_isDue L_isDue_0
    rw [chk_t (by decide)]
    rfl
  rw [e]
  exact law_one (cd := fun e => e) (ok := okE9 [0, 1]) (xo := fun m3 => X12_isDue 10 p0 m3) (g := G_isDue p0 r) (Q := fun v => v = 0 ∨ v = 1) (fun cd' hcd => c_isDue h tt ((hcd 0 rfl).trans (by decide)) ((hcd 1 rfl).trans (by decide))) hhA rfl rfl cpA hp (fun v m' e => boolX_01 (o := X11_isDue_0 1 p0 m) e) (fun v m3 q => kB_e q) (fun m3 q => li_X12_isDue q)
theorem w_register (h : RelC N r m) (tt : GT r) (hp : Rp r m) (hN : N ≤ 599) : ∃ k v' m3 m4 m5 r', L_register 1 p0 8 m = some (k, m3) ∧ X12_register 10 p0 m3 = some (v', m4) ∧ X12_thrown 10 m4 = some (k, m5) ∧ (k = 0 → m5 8 0 = v' ∧ (fun _ => True) v') ∧ m3 (-3) = m (-3) ∧ m3 (-4) = m (-4) ∧ RelC (N + 1) r' m5 ∧ GT r' ∧ Rp r' m5 ∧ m5 (-3) = m (-3) ∧ m5 (-4) = m (-4) ∧ m5 (-2) 0 ≤ m (-2) 0 + 100 + 10 * (r' 16 0 - r 16 0) ∧ m5 (-2) 1 ≤ m (-2) 1 + 2000 + 700 * (r' 16 0 - r 16 0) := by
  have e : L_register 1 p0 8 m = calT (X11_register 1 p0 m) kI9 hA9 := by
    unfold L_register L_register_0
    rw [chk_t (by decide)]
    rfl
  rw [e]
  exact law_one (cd := fun e => e) (ok := okE9 [0, 1]) (xo := fun m3 => X12_register 10 p0 m3) (g := G_register p0 r) (Q := fun _ => True) (fun cd' hcd => c_register h tt ((hcd 0 rfl).trans (by decide)) ((hcd 1 rfl).trans (by decide))) hhA rfl rfl cpA hp (fun _ _ _ => trivial) (fun v m3 _ => kI_e) (fun m3 q => li_X12_register q)
theorem w_place (h : RelC N r m) (tt : GT r) (hp : Rp r m) (hN : N ≤ 599) : ∃ k v' m3 m4 m5 r', L_place 1 p0 8 m = some (k, m3) ∧ X12_place 10 p0 m3 = some (v', m4) ∧ X12_thrown 10 m4 = some (k, m5) ∧ (k = 0 → m5 8 0 = v' ∧ (fun _ => True) v') ∧ m3 (-3) = m (-3) ∧ m3 (-4) = m (-4) ∧ RelC (N + 1) r' m5 ∧ GT r' ∧ Rp r' m5 ∧ m5 (-3) = m (-3) ∧ m5 (-4) = m (-4) ∧ m5 (-2) 0 ≤ m (-2) 0 + 100 + 10 * (r' 16 0 - r 16 0) ∧ m5 (-2) 1 ≤ m (-2) 1 + 2000 + 700 * (r' 16 0 - r 16 0) := by
  have e : L_place 1 p0 8 m = calT (X11_place 1 p0 m) kI9 hA9 := by
    unfold L_place L_place_0
    rw [chk_t (by decide)]
    rfl
  rw [e]
  exact law_one (cd := fun e => e) (ok := okE9 [0, 1]) (xo := fun m3 => X12_place 10 p0 m3) (g := G_place p0 r) (Q := fun _ => True) (fun cd' hcd => c_place h tt ((hcd 0 rfl).trans (by decide)) ((hcd 1 rfl).trans (by decide))) hhA rfl rfl cpA hp (fun _ _ _ => trivial) (fun v m3 _ => kI_e) (fun m3 q => li_X12_place q)
theorem w_registerAnew (h : RelC N r m) (tt : GT r) (hp : Rp r m) (hN : N ≤ 599) : ∃ k v' m3 m4 m5 r', L_registerAnew 1 p0 p1 8 m = some (k, m3) ∧ X12_registerAnew 10 p0 p1 m3 = some (v', m4) ∧ X12_thrown 10 m4 = some (k, m5) ∧ (k = 0 → m5 8 0 = v' ∧ (fun _ => True) v') ∧ m3 (-3) = m (-3) ∧ m3 (-4) = m (-4) ∧ RelC (N + 1) r' m5 ∧ GT r' ∧ Rp r' m5 ∧ m5 (-3) = m (-3) ∧ m5 (-4) = m (-4) ∧ m5 (-2) 0 ≤ m (-2) 0 + 100 + 10 * (r' 16 0 - r 16 0) ∧ m5 (-2) 1 ≤ m (-2) 1 + 2000 + 700 * (r' 16 0 - r 16 0) := by
  have e : L_registerAnew 1 p0 p1 8 m = calT (X11_registerAnew 1 p0 p1 m) kI9 hA9 := by
    unfold L_registerAnew L_registerAnew_0
    rw [chk_t (by decide)]
    rfl
  rw [e]
  exact law_one (cd := fun e => e) (ok := okE9 [0, 1]) (xo := fun m3 => X12_registerAnew 10 p0 p1 m3) (g := G_registerAnew p0 p1 r) (Q := fun _ => True) (fun cd' hcd => c_registerAnew h tt ((hcd 0 rfl).trans (by decide)) ((hcd 1 rfl).trans (by decide))) hhA rfl rfl cpA hp (fun _ _ _ => trivial) (fun v m3 _ => kI_e) (fun m3 q => li_X12_registerAnew q)
theorem w_clock (h : RelC N r m) (tt : GT r) (hp : Rp r m) : ∃ v m5 r', X11_clock 1 m = some (v, m) ∧ X12_clock 10 m = some (v, m5) ∧ RelC (N + 1) r' m5 ∧ GT r' ∧ Rp r' m5 ∧ m5 (-3) = m (-3) ∧ m5 (-4) = m (-4) ∧ m5 (-2) 0 = m (-2) 0 ∧ m5 (-2) 1 = m (-2) 1 ∧ r' 16 0 = r 16 0 := by
  obtain ⟨x1, x2⟩ := c_clock h
  obtain ⟨m4, z1, z2, z3⟩ := li_X12_clock hp _ _ x2
  have em : ∀ i, i < 10 ∨ 94 < i → m4 i = m i := fun i hi => by
    funext j
    exact z3 i hi j
  have h0 := h.f0 (v := 0)
  exact ⟨_, m4, _, x1, z1, h0.fr (h.1.2.1.rows fun i a b => em i (by omega)) (fun i hi => em i (by omega)) (fun _ _ => rfl), tt.fr fun j hj => ur_ne (by omega), z2, em _ (by omega), em _ (by omega), by rw [em _ (by omega)], by rw [em _ (by omega)], ur_n (by omega)⟩
theorem w_workflows (h : RelC N r m) (tt : GT r) (hp : Rp r m) : ∃ v m5 r', X11_workflows 1 m = some (v, m) ∧ X12_workflows 10 m = some (v, m5) ∧ RelC (N + 1) r' m5 ∧ GT r' ∧ Rp r' m5 ∧ m5 (-3) = m (-3) ∧ m5 (-4) = m (-4) ∧ m5 (-2) 0 = m (-2) 0 ∧ m5 (-2) 1 = m (-2) 1 ∧ r' 16 0 = r 16 0 := by
  obtain ⟨x1, x2⟩ := c_workflows h
  obtain ⟨m4, z1, z2, z3⟩ := li_X12_workflows hp _ _ x2
  have em : ∀ i, i < 10 ∨ 94 < i → m4 i = m i := fun i hi => by
    funext j
    exact z3 i hi j
  have h0 := h.f0 (v := 0)
  exact ⟨_, m4, _, x1, z1, h0.fr (h.1.2.1.rows fun i a b => em i (by omega)) (fun i hi => em i (by omega)) (fun _ _ => rfl), tt.fr fun j hj => ur_ne (by omega), z2, em _ (by omega), em _ (by omega), by rw [em _ (by omega)], by rw [em _ (by omega)], ur_n (by omega)⟩
end LB
