/-! the reference's play within its rows: its small methods -/
def othB (j : Nat) : Bool := decide (j = 40 ∨ j = 42 ∨ j = 64 ∨ j = 43 ∨ j = 44 ∨ j = 46 ∨ j = 47 ∨ j = 49 ∨ j = 50 ∨ j = 54 ∨ (56 ≤ j ∧ j ≤ 59) ∨ j = 63 ∨ j = 65 ∨ j = 67 ∨ j = 69 ∨ j = 70)
theorem Bz.oth {D T U S : Int} {r : Rst} (h : Bz D T U S r) {j : Nat} (hj : othB j = true) {i v : Int} : Bz D T U S (ur r j i v) := by
  have hj2 := of_decide_eq_true hj
  unfold Bz
  rw [ur_ne (a := 76) (by omega), ur_ne (a := 51) (by omega), ur_ne (a := 52) (by omega), ur_ne (a := 53) (by omega), ur_ne (a := 71) (by omega), ur_ne (a := 68) (by omega), ur_ne (a := 48) (by omega), ur_ne (a := 45) (by omega), ur_ne (a := 41) (by omega), ur_ne (a := 55) (by omega), ur_ne (a := 62) (by omega), ur_ne (a := 66) (by omega), ur_ne (a := 60) (by omega), ur_ne (a := 61) (by omega)]
  exact h
theorem all_ur {r : Rst} {j : Nat} {i v : Int} {P : Int → Prop} (h : ∀ k, P (r j k)) (hv : P v) : ∀ k, P (ur r j i v j k) := fun k => by
  unfold ur
  split
  · exact hv
  · exact h k
theorem Bz.v41 {D T U S : Int} {r : Rst} (h : Bz D T U S r) {v : Int} (h1 : -100000 ≤ v) (h2 : v ≤ 100000) : Bz D T U S (ur r 41 0 v) := by
  obtain ⟨a1, a2, a3, a4, a5, a6, a7, a8, a9, a10⟩ := h
  unfold Bz
  simp (disch := omega) only [ur_n, ur_e]
  exact ⟨a1, a2, a3, a4, a5, a6, a7, a8, ⟨h1, h2⟩, a10⟩
theorem Bz.v45 {D T U S : Int} {r : Rst} (h : Bz D T U S r) {v : Int} (h1 : 0 ≤ v) (h2 : v ≤ 11) : Bz D T U S (ur r 45 0 v) := by
  obtain ⟨a1, a2, a3, a4, a5, a6, a7, a8, a9⟩ := h
  unfold Bz
  simp (disch := omega) only [ur_n, ur_e]
  exact ⟨a1, a2, a3, a4, a5, a6, a7, ⟨h1, h2⟩, a9⟩
theorem Bz.v48 {D T U S : Int} {r : Rst} (h : Bz D T U S r) {v : Int} (h1 : 0 ≤ v) (h2 : v < 16) : Bz D T U S (ur r 48 0 v) := by
  obtain ⟨a1, a2, a3, a4, a5, a6, a7, a8⟩ := h
  unfold Bz
  simp (disch := omega) only [ur_n, ur_e]
  exact ⟨a1, a2, a3, a4, a5, a6, ⟨h1, h2⟩, a8⟩
theorem Bz.v51 {D T U S : Int} {r : Rst} (h : Bz D T U S r) : Bz D (T + 1) U S (ur r 51 0 (r 51 0 + 1)) := by
  obtain ⟨a1, a2, a3, a4, a5, a6⟩ := h
  unfold Bz
  simp (disch := omega) only [ur_n, ur_e]
  exact ⟨a1, by omega, by omega, by omega, a5, a6⟩
theorem Bz.v52 {D T U S : Int} {r : Rst} (h : Bz D T U S r) : Bz D (T + 1) U S (ur r 52 0 (r 52 0 + 1)) := by
  obtain ⟨a1, a2, a3, a4, a5, a6⟩ := h
  unfold Bz
  simp (disch := omega) only [ur_n, ur_e]
  exact ⟨a1, by omega, by omega, by omega, a5, a6⟩
theorem Bz.v53 {D T U S : Int} {r : Rst} (h : Bz D T U S r) : Bz D (T + 1) U S (ur r 53 0 (r 53 0 + 1)) := by
  obtain ⟨a1, a2, a3, a4, a5, a6⟩ := h
  unfold Bz
  simp (disch := omega) only [ur_n, ur_e]
  exact ⟨a1, by omega, by omega, by omega, a5, a6⟩
theorem Bz.v71 {D T U S : Int} {r : Rst} (h : Bz D T U S r) {v U2 : Int} (h1 : 0 ≤ v) (h2 : v ≤ U2) : Bz D T U2 S (ur r 71 0 v) := by
  obtain ⟨a1, a2, a3, a4, a5, a6⟩ := h
  unfold Bz
  simp (disch := omega) only [ur_n, ur_e]
  exact ⟨a1, a2, a3, a4, ⟨h1, h2⟩, a6⟩
theorem Bz.v68 {D T U S : Int} {r : Rst} (h : Bz D T U S r) : Bz D T U (S + 1) (ur r 68 0 (r 68 0 + 1)) := by
  obtain ⟨a1, a2, a3, a4, a5, a6, a7⟩ := h
  unfold Bz
  simp (disch := omega) only [ur_n, ur_e]
  exact ⟨a1, a2, a3, a4, a5, by omega, a7⟩
theorem Bz.v60 {D T U S : Int} {r : Rst} (h : Bz D T U S r) {i v : Int} (hv : v = 0 ∨ v = 1) : Bz D T U S (ur r 60 i v) := by
  obtain ⟨a1, a2, a3, a4, a5, a6, a7, a8, a9, a10, a12, a13, a14, a15⟩ := h
  unfold Bz
  simp (disch := omega) only [ur_n]
  exact ⟨a1, a2, a3, a4, a5, a6, a7, a8, a9, a10, a12, a13, all_ur (P := fun x => x = 0 ∨ x = 1) a14 hv, a15⟩
theorem Bz.v61 {D T U S : Int} {r : Rst} (h : Bz D T U S r) {i v : Int} (hv : v = 0 ∨ v = 1) : Bz D T U S (ur r 61 i v) := by
  obtain ⟨a1, a2, a3, a4, a5, a6, a7, a8, a9, a10, a12, a13, a14, a15⟩ := h
  unfold Bz
  simp (disch := omega) only [ur_n]
  exact ⟨a1, a2, a3, a4, a5, a6, a7, a8, a9, a10, a12, a13, a14, all_ur (P := fun x => x = 0 ∨ x = 1) a15 hv⟩
theorem Bz.v62 {D T U S : Int} {r : Rst} (h : Bz D T U S r) {i v : Int} (h1 : -100000 ≤ v) (h2 : v ≤ 100000) : Bz D T U S (ur r 62 i v) := by
  obtain ⟨a1, a2, a3, a4, a5, a6, a7, a8, a9, a10, a12, a13, a14, a15⟩ := h
  unfold Bz
  simp (disch := omega) only [ur_n]
  exact ⟨a1, a2, a3, a4, a5, a6, a7, a8, a9, a10, all_ur (P := fun x => -100000 ≤ x ∧ x ≤ 100000) a12 ⟨h1, h2⟩, a13, a14, a15⟩
theorem Bz.v66 {D T U S : Int} {r : Rst} (h : Bz D T U S r) {i v : Int} (h1 : -100000 ≤ v) (h2 : v ≤ 100000) : Bz D T U S (ur r 66 i v) := by
  obtain ⟨a1, a2, a3, a4, a5, a6, a7, a8, a9, a10, a12, a13, a14, a15⟩ := h
  unfold Bz
  simp (disch := omega) only [ur_n]
  exact ⟨a1, a2, a3, a4, a5, a6, a7, a8, a9, a10, a12, all_ur (P := fun x => -100000 ≤ x ∧ x ≤ 100000) a13 ⟨h1, h2⟩, a14, a15⟩
theorem Bz.v55 {D T U S : Int} {r : Rst} (h : Bz D T U S r) {v : Int} (h1 : 0 ≤ v) (h2 : v ≤ 3) : Bz D T U S (ur r 55 0 v) := by
  obtain ⟨a1, a2, a3, a4, a5, a6, a7, a8, a9, a10, a11⟩ := h
  unfold Bz
  simp (disch := omega) only [ur_n, ur_e]
  exact ⟨a1, a2, a3, a4, a5, a6, a7, a8, a9, ⟨h1, h2⟩, a11⟩
theorem Md.out {r : Rst} (h1 : r 42 0 = 1 ∨ r 42 0 = 2) (h2 : r 55 0 = 0) (h3 : r 42 0 = 1 → -1 ≤ r 43 0 ∧ r 43 0 ≤ 9) (h4 : r 42 0 = 2 → -100000 ≤ r 50 0 ∧ r 50 0 ≤ 100000) : Md r := ⟨by omega, fun h => by omega, fun h => by omega, fun _ => h2, h3, h4⟩
theorem ok_ends {D T U S x y : Int} {r : Rst} (h : Bz D T U S r) (hw : r 55 0 = 0) (hy : -100000 ≤ y ∧ y ≤ 100000) (hD : D < 5200) : Ok (G_ends x y r) r fun _ r' => Bd (D + 1) T U S r' ∧ r' 42 0 = 2 ∧ r' 55 0 = 0 ∧ r' 76 0 = r 76 0 + 1 := by
  unfold G_ends G_ends_0
  refine Ok.st (by decide) (by decide) (by decide) (by decide) (by decide) (by decide) (Ok.st (by decide) (by decide) (by decide) (by decide) (by decide) (by decide) (Ok.st (by decide) (by decide) (by decide) (by decide) (by decide) (by decide) ?_))
  refine Ok.cag (ok_decides (((h.oth (j := 42) rfl).oth (j := 49) rfl).oth (j := 50) rfl) hD) fun v r' _ _ hp => Ok.ret ?_
  have e1 : r' 42 0 = 2 := by rw [hp.2.2 42 (by omega)]; simp (disch := omega) only [ur_n, ur_e]
  have e2 : r' 55 0 = 0 := by rw [hp.2.2 55 (by omega)]; simp (disch := omega) only [ur_n]; exact hw
  have e3 : r' 50 0 = y := by rw [hp.2.2 50 (by omega)]; simp (disch := omega) only [ur_e]
  refine ⟨⟨hp.1, Md.out (Or.inr e1) e2 (fun h => by omega) (fun _ => by omega)⟩, e1, e2, ?_⟩
  rw [hp.2.1]; simp (disch := omega) only [ur_n]
theorem ok_undoesNext {D T U S : Int} {r : Rst} (h : Bz D T U S r) (hw : r 55 0 = 0) (hm : r 42 0 = 1) (hn : -1 ≤ r 43 0 ∧ r 43 0 ≤ 9) (hD : D < 5200) (hU : U ≤ 5200) (hT : T ≤ 1000000) : Ok (G_undoesNext r) r fun _ r' => Bd (D + 1) (T + 1) U S r' ∧ r' 42 0 ≠ 0 ∧ r' 55 0 = 0 ∧ r' 76 0 = r 76 0 + 1 := by
  unfold G_undoesNext G_undoesNext_0
  have h71 := h.2.2.2.2.1
  have h51 := h.2.1
  refine Ok.ite (fun _ => Ok.ite (fun _ => ?_) (fun _ => ?_)) (fun hu => ?_)
  · exact Ok.cag (ok_ends h hw (by omega) hD) fun v r' _ _ hp => Ok.ret ⟨hp.1.mono (by omega) (by omega) (by omega) (by omega), by rw [hp.2.1]; decide, hp.2.2⟩
  · exact Ok.cag (ok_ends h hw (by omega) hD) fun v r' _ _ hp => Ok.ret ⟨hp.1.mono (by omega) (by omega) (by omega) (by omega), by rw [hp.2.1]; decide, hp.2.2⟩
  · refine Ok.chk (by omega) (Ok.st (by decide) (by decide) (by decide) (by decide) (by decide) (by decide) (Ok.st (by decide) (by decide) (by decide) (by decide) (by decide) (by decide) ?_))
    refine Ok.chk (by simp (disch := omega) only [ur_n]; omega) (Ok.st (by decide) (by decide) (by decide) (by decide) (by decide) (by decide) ?_)
    refine Ok.chk (by simp (disch := omega) only [ur_n, ur_e]; omega) (Ok.chk (by simp (disch := omega) only [ur_n, ur_e]; omega) ?_)
    refine Ok.cag (ok_decides ((((h.v71 (v := r 71 0 - 1) (U2 := U) (by omega) (by omega)).oth (j := 54) rfl).v51)) hD) fun v r' _ _ hp => Ok.ret ?_
    have e1 : r' 42 0 = 1 := by rw [hp.2.2 42 (by omega)]; simp (disch := omega) only [ur_n]; exact hm
    have e2 : r' 55 0 = 0 := by rw [hp.2.2 55 (by omega)]; simp (disch := omega) only [ur_n]; exact hw
    have e3 : r' 43 0 = r 43 0 := by rw [hp.2.2 43 (by omega)]; simp (disch := omega) only [ur_n]
    refine ⟨⟨hp.1, Md.out (Or.inl e1) e2 (fun _ => by omega) (fun h => by omega)⟩, by rw [e1]; decide, e2, ?_⟩
    rw [hp.2.1]; simp (disch := omega) only [ur_n]
theorem ok_fails {D T U S x : Int} {r : Rst} (h : Bz D T U S r) (hx : -1 ≤ x ∧ x ≤ 9) (hD : D < 5200) (hU : U ≤ 5200) (hT : T ≤ 1000000) : Ok (G_fails x r) r fun _ r' => Bd (D + 1) (T + 1) U S r' ∧ r' 42 0 ≠ 0 ∧ r' 55 0 = 0 ∧ r' 76 0 = r 76 0 + 1 := by
  unfold G_fails G_fails_0
  refine Ok.st (by decide) (by decide) (by decide) (by decide) (by decide) (by decide) (Ok.st (by decide) (by decide) (by decide) (by decide) (by decide) (by decide) (Ok.st (by decide) (by decide) (by decide) (by decide) (by decide) (by decide) ?_))
  refine Ok.cag (ok_undoesNext (((h.oth (j := 42) rfl).oth (j := 43) rfl).v55 (by omega) (by omega)) (by simp (disch := omega) only [ur_e]) (by simp (disch := omega) only [ur_n, ur_e]) (by simp (disch := omega) only [ur_n, ur_e]; exact hx) hD hU hT) fun v r' _ _ hp => Ok.ret ⟨hp.1, hp.2.1, hp.2.2.1, ?_⟩
  rw [hp.2.2.2]; simp (disch := omega) only [ur_n]
theorem ok_gets {D T U S k v : Int} {r : Rst} (h : Bz D T U S r) (h0 : 0 ≤ k) (h1 : k < 3) (hv : -100000 ≤ v) (hv2 : v ≤ 100000) : Ok (G_gets k v r) r fun _ r' => Bz D T U S r' ∧ r' = ur (ur (ur r 60 k 1) 62 k v) 63 k 1 := by
  unfold G_gets G_gets_0
  refine Ok.chk (by omega) (Ok.st (by decide) (by decide) (by decide) (by decide) (by decide) (by decide) (Ok.chk (by omega) (Ok.st (by decide) (by decide) (by decide) (by decide) (by decide) (by decide) (Ok.chk (by omega) (Ok.st (by decide) (by decide) (by decide) (by decide) (by decide) (by decide) ?_)))))
  exact Ok.ret ⟨((h.v60 (Or.inr rfl)).v62 hv hv2).oth (j := 63) rfl, rfl⟩
theorem ok_setsTimer {D T U S k x : Int} {r : Rst} (h : Bz D T U S r) (h0 : 0 ≤ k) (h1 : k < 3) (hD : D < 5200) (hT : T ≤ 1000000) : Ok (G_setsTimer k x r) r fun _ r' => Bz (D + 1) (T + 1) U S r' ∧ r' 76 0 = r 76 0 + 1 ∧ ∀ j : Nat, (j < 72 ∨ 76 < j) → j ≠ 59 → j ≠ 52 → r' j = r j := by
  unfold G_setsTimer G_setsTimer_0
  have h52 := h.2.2.1
  refine Ok.chk (by omega) (Ok.st (by decide) (by decide) (by decide) (by decide) (by decide) (by decide) (Ok.chk (by simp (disch := omega) only [ur_n]; omega) (Ok.st (by decide) (by decide) (by decide) (by decide) (by decide) (by decide) ?_)))
  refine Ok.cag (ok_decides ((h.oth (j := 59) rfl).v52) hD) fun v r' _ _ hp => Ok.ret ⟨hp.1, ?_, fun j hj h3 h4 => ?_⟩
  · rw [hp.2.1]; simp (disch := omega) only [ur_n]
  · rw [hp.2.2 j hj, ur_ne h4, ur_ne h3]
