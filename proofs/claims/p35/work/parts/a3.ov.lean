/-! a state whose play is the same, but for what the play doesn't look at -/
def spc (j : Nat) : Bool := decide ((j < 40 ∧ ¬ (2 ≤ j ∧ j ≤ 5)) ∨ (78 ≤ j ∧ j ≤ 80))
/-- r, with X's fields where the play doesn't look (the history, what is told of it) -/
def ov (X r : Rst) : Rst := fun j i => if spc j = true then X j i else r j i
def oM (X : Rst) (o : Option G2) : Option G2 := match o with
  | some (v, r) => some (v, ov X r)
  | none => none
section OV
variable {X r : Rst}
theorem spc_f {j : Nat} (h : (40 ≤ j ∨ (2 ≤ j ∧ j ≤ 5)) ∧ (j < 78 ∨ 80 < j)) : spc j = false := decide_eq_false (by omega)
theorem ov_r {j : Nat} (h : (40 ≤ j ∨ (2 ≤ j ∧ j ≤ 5)) ∧ (j < 78 ∨ 80 < j)) : ov X r j = r j := by
  funext i
  unfold ov
  rw [spc_f h]
  exact if_neg Bool.false_ne_true
theorem ov_x {j : Nat} (h : (j < 40 ∧ ¬ (2 ≤ j ∧ j ≤ 5)) ∨ (78 ≤ j ∧ j ≤ 80)) : ov X r j = X j := by
  funext i
  unfold ov spc
  exact if_pos (decide_eq_true h)
theorem ov_ri {j : Nat} {i : Int} (h : (40 ≤ j ∨ (2 ≤ j ∧ j ≤ 5)) ∧ (j < 78 ∨ 80 < j)) : ov X r j i = r j i := by rw [ov_r h]
theorem ov_ur {j : Nat} {i v : Int} (h : (40 ≤ j ∨ (2 ≤ j ∧ j ≤ 5)) ∧ (j < 78 ∨ 80 < j)) : ur (ov X r) j i v = ov X (ur r j i v) := by
  funext a b
  by_cases c : a = j
  · subst c
    rw [ov_r h]
    by_cases d : b = i
    · rw [ur_e rfl d, ur_e rfl d]
    · rw [ur_n (Or.inr d), ur_n (Or.inr d), ov_r h]
  · rw [ur_n (Or.inl c)]
    unfold ov
    rw [ur_n (Or.inl c)]
theorem ov_stg {α : Type} {j : Nat} {i v : Int} {k : Rst → Option α} (h : (40 ≤ j ∨ (2 ≤ j ∧ j ≤ 5)) ∧ (j < 78 ∨ 80 < j)) : stg (ur (ov X r) j i v) k = stg (ur r j i v) (fun z => k (ov X z)) := by
  rw [ov_ur h]
  rfl
theorem oM_some {v : Int} : oM X (some (v, r)) = some (v, ov X r) := rfl
theorem oM_chk {c : Prop} [Decidable c] {a : Option G2} : oM X (chk9 c a) = chk9 c (oM X a) := by
  unfold chk9
  split <;> rfl
theorem oM_ite {c : Prop} [Decidable c] {a b : Option G2} : oM X (if c then a else b) = if c then oM X a else oM X b := by
  split <;> rfl
theorem oM_stg {k : Rst → Option G2} : oM X (stg r k) = stg r (fun z => oM X (k z)) := rfl
theorem oM_cag {o : Option G2} {k : Int → Rst → Option G2} : oM X (cag o k) = cag o (fun v z => oM X (k v z)) := by
  unfold cag
  split <;> rfl
theorem cag_oM {o : Option G2} {k : Int → Rst → Option G2} : cag (oM X o) k = cag o (fun v z => k v (ov X z)) := by
  unfold cag oM
  cases o with
  | none => rfl
  | some q => rfl
theorem oM_bool {o : Option G2} : boolG (oM X o) = oM X (boolG o) := by
  cases o with
  | none => rfl
  | some q =>
    obtain ⟨v, z⟩ := q
    show (if v = 0 ∨ v = 1 then some (v, ov X z) else none) = oM X (if v = 0 ∨ v = 1 then some (v, z) else none)
    split <;> rfl

theorem o_decides {k x y : Int} : G_decides k x y (ov X r) = oM X (G_decides k x y r) := by
  unfold G_decides G_decides_0
  simp (disch := omega) only [ov_stg, ov_ri, cag_oM, oM_cag, oM_stg, oM_chk, oM_ite, oM_some]
theorem o_ends {x y : Int} : G_ends x y (ov X r) = oM X (G_ends x y r) := by
  unfold G_ends G_ends_0
  simp (disch := omega) only [o_decides, ov_stg, ov_ri, cag_oM, oM_cag, oM_stg, oM_chk, oM_ite, oM_some]
theorem o_undoesNext : G_undoesNext (ov X r) = oM X (G_undoesNext r) := by
  unfold G_undoesNext G_undoesNext_0
  simp (disch := omega) only [o_decides, o_ends, ov_stg, ov_ri, cag_oM, oM_cag, oM_stg, oM_chk, oM_ite, oM_some]
theorem o_fails {x : Int} : G_fails x (ov X r) = oM X (G_fails x r) := by
  unfold G_fails G_fails_0
  simp (disch := omega) only [o_undoesNext, ov_stg, ov_ri, cag_oM, oM_cag, oM_stg, oM_chk, oM_ite, oM_some]
theorem o_cuts_127 : G_cuts_127 (ov X r) = oM X (G_cuts_127 r) := by
  unfold G_cuts_127
  simp (disch := omega) only [o_fails, ov_stg, ov_ri, cag_oM, oM_cag, oM_stg, oM_chk, oM_ite, oM_some]
theorem o_cuts_80 {k70 : Int → Rst → Option G2} (hk70 : ∀ (a0 : Int) (r : Rst), k70 a0 (ov X r) = oM X (k70 a0 r)) : ∀ (n : Nat) (l1 l2 : Int) (r : Rst), G_cuts_80 k70 n l1 l2 (ov X r) = oM X (G_cuts_80 k70 n l1 l2 r) := by
  intro n
  induction n with
  | zero => intro l1 l2 r; rfl
  | succ n ih =>
    intro l1 l2 r
    rw [G_cuts_80, G_cuts_80]
    simp (disch := omega) only [ih, hk70, o_decides, ov_stg, ov_ri, cag_oM, oM_cag, oM_stg, oM_chk, oM_ite, oM_some]
theorem o_cuts_70 {k127 : Rst → Option G2} (hk : ∀ r : Rst, k127 (ov X r) = oM X (k127 r)) : ∀ (n : Nat) (l1 : Int) (r : Rst), G_cuts_70 k127 n l1 (ov X r) = oM X (G_cuts_70 k127 n l1 r) := by
  intro n
  induction n with
  | zero => intro l1 r; rfl
  | succ n ih =>
    intro l1 r
    rw [G_cuts_70, G_cuts_70]
    simp (disch := omega) only [hk, o_cuts_80 (k70 := G_cuts_70 k127 n) (fun a r => ih a r), ov_stg, ov_ri, cag_oM, oM_cag, oM_stg, oM_chk, oM_ite, oM_some]
theorem o_cuts_12 {k2 : Int → Rst → Option G2} (hk2 : ∀ (a0 : Int) (r : Rst), k2 a0 (ov X r) = oM X (k2 a0 r)) : ∀ (n : Nat) (l1 l2 : Int) (r : Rst), G_cuts_12 k2 n l1 l2 (ov X r) = oM X (G_cuts_12 k2 n l1 l2 r) := by
  intro n
  induction n with
  | zero => intro l1 l2 r; rfl
  | succ n ih =>
    intro l1 l2 r
    rw [G_cuts_12, G_cuts_12]
    simp (disch := omega) only [ih, hk2, o_decides, ov_stg, ov_ri, cag_oM, oM_cag, oM_stg, oM_chk, oM_ite, oM_some]
theorem o_cuts_2 {k70 : Int → Rst → Option G2} (hk : ∀ (a0 : Int) (r : Rst), k70 a0 (ov X r) = oM X (k70 a0 r)) : ∀ (n : Nat) (l1 : Int) (r : Rst), G_cuts_2 k70 n l1 (ov X r) = oM X (G_cuts_2 k70 n l1 r) := by
  intro n
  induction n with
  | zero => intro l1 r; rfl
  | succ n ih =>
    intro l1 r
    rw [G_cuts_2, G_cuts_2]
    simp (disch := omega) only [hk, o_cuts_12 (k2 := G_cuts_2 k70 n) (fun a r => ih a r), ov_stg, ov_ri, cag_oM, oM_cag, oM_stg, oM_chk, oM_ite, oM_some]
theorem o_cuts : G_cuts (ov X r) = oM X (G_cuts r) := by
  unfold G_cuts G_cuts_0
  exact o_cuts_2 (fun a r => o_cuts_70 (fun r => o_cuts_127) fuel9 a r) fuel9 0 r
theorem o_untaken_9 : ∀ (n : Nat) (l1 l2 l3 : Int) (r : Rst), G_untaken_9 n l1 l2 l3 (ov X r) = oM X (G_untaken_9 n l1 l2 l3 r) := by
  intro n
  induction n with
  | zero => intro l1 l2 l3 r; rfl
  | succ n ih =>
    intro l1 l2 l3 r
    rw [G_untaken_9, G_untaken_9]
    simp (disch := omega) only [ih, ov_stg, ov_ri, cag_oM, oM_cag, oM_stg, oM_chk, oM_ite, oM_some]
theorem o_untaken {x : Int} : G_untaken x (ov X r) = oM X (G_untaken x r) := by
  unfold G_untaken G_untaken_0
  simp (disch := omega) only [o_untaken_9, ov_stg, ov_ri, cag_oM, oM_cag, oM_stg, oM_chk, oM_ite, oM_some]
theorem o_gets {k x : Int} : G_gets k x (ov X r) = oM X (G_gets k x r) := by
  unfold G_gets G_gets_0
  simp (disch := omega) only [ov_stg, ov_ri, cag_oM, oM_cag, oM_stg, oM_chk, oM_ite, oM_some]
theorem o_setsTimer {k x : Int} : G_setsTimer k x (ov X r) = oM X (G_setsTimer k x r) := by
  unfold G_setsTimer G_setsTimer_0
  simp (disch := omega) only [o_decides, ov_stg, ov_ri, cag_oM, oM_cag, oM_stg, oM_chk, oM_ite, oM_some]
theorem o_stepAt {x : Int} : G_stepAt x (ov X r) = oM X (G_stepAt x r) := by
  unfold G_stepAt G_stepAt_0
  simp (disch := omega) only [ov_stg, ov_ri, cag_oM, oM_cag, oM_stg, oM_chk, oM_ite, oM_some]
theorem o_waitsFor {s : Int} : G_waitsFor s (ov X r) = oM X (G_waitsFor s r) := by
  unfold G_waitsFor G_waitsFor_0
  simp (maxSteps := 4000000) (disch := omega) only [o_stepAt, o_decides, o_setsTimer, o_untaken, o_gets, ov_stg, ov_ri, cag_oM, oM_cag, oM_stg, oM_chk, oM_ite, oM_some]
theorem o_areDone_4 : ∀ (n : Nat) (l1 l2 : Int) (r : Rst), G_areDone_4 n l1 l2 (ov X r) = oM X (G_areDone_4 n l1 l2 r) := by
  intro n
  induction n with
  | zero => intro l1 l2 r; rfl
  | succ n ih =>
    intro l1 l2 r
    rw [G_areDone_4, G_areDone_4]
    simp (disch := omega) only [ih, ov_stg, ov_ri, cag_oM, oM_cag, oM_stg, oM_chk, oM_ite, oM_some]
theorem o_areDone : G_areDone (ov X r) = oM X (G_areDone r) := by
  unfold G_areDone G_areDone_0
  rw [o_areDone_4, oM_bool]
theorem o_finishes_63 {x : Int} : G_finishes_63 x (ov X r) = oM X (G_finishes_63 x r) := by
  unfold G_finishes_63
  simp (disch := omega) only [o_fails, ov_stg, ov_ri, cag_oM, oM_cag, oM_stg, oM_chk, oM_ite, oM_some]
theorem o_finishes_4 {k63 : Int → Rst → Option G2} (hk63 : ∀ (a0 : Int) (r : Rst), k63 a0 (ov X r) = oM X (k63 a0 r)) : ∀ (n : Nat) (l1 l2 : Int) (r : Rst), G_finishes_4 k63 n l1 l2 (ov X r) = oM X (G_finishes_4 k63 n l1 l2 r) := by
  intro n
  induction n with
  | zero => intro l1 l2 r; rfl
  | succ n ih =>
    intro l1 l2 r
    rw [G_finishes_4, G_finishes_4]
    unfold G_finishes_35
    simp (disch := omega) only [ih, hk63, ov_stg, ov_ri, cag_oM, oM_cag, oM_stg, oM_chk, oM_ite, oM_some]
theorem o_finishes : G_finishes (ov X r) = oM X (G_finishes r) := by
  unfold G_finishes G_finishes_0
  exact o_finishes_4 (fun a r => o_finishes_63) fuel9 0 0 r
theorem o_waitsAt_62 {a b : Int} : G_waitsAt_62 a b (ov X r) = oM X (G_waitsAt_62 a b r) := by
  unfold G_waitsAt_62
  simp (disch := omega) only [o_areDone, o_finishes, ov_stg, ov_ri, cag_oM, oM_cag, oM_stg, oM_chk, oM_ite, oM_some]
theorem o_waitsAt_44 {k62 : Int → Int → Rst → Option G2} (hk62 : ∀ (a0 a1 : Int) (r : Rst), k62 a0 a1 (ov X r) = oM X (k62 a0 a1 r)) : ∀ (n : Nat) (l1 l2 l3 : Int) (r : Rst), G_waitsAt_44 k62 n l1 l2 l3 (ov X r) = oM X (G_waitsAt_44 k62 n l1 l2 l3 r) := by
  intro n
  induction n with
  | zero => intro l1 l2 l3 r; rfl
  | succ n ih =>
    intro l1 l2 l3 r
    rw [G_waitsAt_44, G_waitsAt_44]
    simp (disch := omega) only [ih, hk62, o_waitsFor, ov_stg, ov_ri, cag_oM, oM_cag, oM_stg, oM_chk, oM_ite, oM_some]
theorem o_waitsAt {s : Int} : G_waitsAt s (ov X r) = oM X (G_waitsAt s r) := by
  unfold G_waitsAt G_waitsAt_0 G_waitsAt_28
  simp (disch := omega) only [o_stepAt, o_waitsAt_44 (k62 := G_waitsAt_62) (fun a b r => o_waitsAt_62), ov_stg, ov_ri, cag_oM, oM_cag, oM_stg, oM_chk, oM_ite, oM_some]
theorem o_held {x : Int} : G_held x (ov X r) = oM X (G_held x r) := by
  unfold G_held G_held_0
  simp (disch := omega) only [ov_stg, ov_ri, cag_oM, oM_cag, oM_stg, oM_chk, oM_ite, oM_some]
theorem o_againOrFails : G_againOrFails (ov X r) = oM X (G_againOrFails r) := by
  unfold G_againOrFails G_againOrFails_0
  simp (disch := omega) only [o_fails, o_ends, ov_stg, ov_ri, cag_oM, oM_cag, oM_stg, oM_chk, oM_ite, oM_some]
theorem o_waiting_5 : ∀ (n : Nat) (l1 l2 l3 l4 : Int) (r : Rst), G_waiting_5 n l1 l2 l3 l4 (ov X r) = oM X (G_waiting_5 n l1 l2 l3 l4 r) := by
  intro n
  induction n with
  | zero => intro l1 l2 l3 l4 r; rfl
  | succ n ih =>
    intro l1 l2 l3 l4 r
    rw [G_waiting_5, G_waiting_5]
    simp (disch := omega) only [ih, ov_stg, ov_ri, cag_oM, oM_cag, oM_stg, oM_chk, oM_ite, oM_some]
theorem o_waiting {a b : Int} : G_waiting a b (ov X r) = oM X (G_waiting a b r) := by
  unfold G_waiting G_waiting_0
  simp (disch := omega) only [o_waiting_5, ov_stg, ov_ri, cag_oM, oM_cag, oM_stg, oM_chk, oM_ite, oM_some]
theorem o_waitingTimer_4 : ∀ (n : Nat) (l1 l2 l3 : Int) (r : Rst), G_waitingTimer_4 n l1 l2 l3 (ov X r) = oM X (G_waitingTimer_4 n l1 l2 l3 r) := by
  intro n
  induction n with
  | zero => intro l1 l2 l3 r; rfl
  | succ n ih =>
    intro l1 l2 l3 r
    rw [G_waitingTimer_4, G_waitingTimer_4]
    simp (disch := omega) only [ih, ov_stg, ov_ri, cag_oM, oM_cag, oM_stg, oM_chk, oM_ite, oM_some]
theorem o_waitingTimer {a : Int} : G_waitingTimer a (ov X r) = oM X (G_waitingTimer a r) := by
  unfold G_waitingTimer G_waitingTimer_0
  simp (disch := omega) only [o_waitingTimer_4, ov_stg, ov_ri, cag_oM, oM_cag, oM_stg, oM_chk, oM_ite, oM_some]
theorem o_waitingSignal_9 : ∀ (n : Nat) (l1 l2 l3 : Int) (r : Rst), G_waitingSignal_9 n l1 l2 l3 (ov X r) = oM X (G_waitingSignal_9 n l1 l2 l3 r) := by
  intro n
  induction n with
  | zero => intro l1 l2 l3 r; rfl
  | succ n ih =>
    intro l1 l2 l3 r
    rw [G_waitingSignal_9, G_waitingSignal_9]
    simp (disch := omega) only [ih, ov_stg, ov_ri, cag_oM, oM_cag, oM_stg, oM_chk, oM_ite, oM_some]
theorem o_waitingSignal {a : Int} : G_waitingSignal a (ov X r) = oM X (G_waitingSignal a r) := by
  unfold G_waitingSignal G_waitingSignal_0
  simp (disch := omega) only [o_waitingSignal_9, ov_stg, ov_ri, cag_oM, oM_cag, oM_stg, oM_chk, oM_ite, oM_some]
theorem o_takesSignal_97 {a b : Int} : G_takesSignal_97 a b (ov X r) = oM X (G_takesSignal_97 a b r) := by
  unfold G_takesSignal_97
  simp (disch := omega) only [o_gets, ov_stg, ov_ri, cag_oM, oM_cag, oM_stg, oM_chk, oM_ite, oM_some]
theorem o_takesSignal_56 {a b : Int} : G_takesSignal_56 a b (ov X r) = oM X (G_takesSignal_56 a b r) := by
  unfold G_takesSignal_56
  simp (disch := omega) only [o_decides, o_takesSignal_97, ov_stg, ov_ri, cag_oM, oM_cag, oM_stg, oM_chk, oM_ite, oM_some]
theorem o_takesSignal {a b : Int} : G_takesSignal a b (ov X r) = oM X (G_takesSignal a b r) := by
  unfold G_takesSignal G_takesSignal_0
  simp (disch := omega) only [o_waitingSignal, o_takesSignal_56, ov_stg, ov_ri, cag_oM, oM_cag, oM_stg, oM_chk, oM_ite, oM_some]
theorem o_takesOver_28 {a b c : Int} : G_takesOver_28 a b c (ov X r) = oM X (G_takesOver_28 a b c r) := by
  unfold G_takesOver_28
  simp (disch := omega) only [o_gets, ov_stg, ov_ri, cag_oM, oM_cag, oM_stg, oM_chk, oM_ite, oM_some]
theorem o_takesOver_24 {a b c d : Int} : G_takesOver_24 a b c d (ov X r) = oM X (G_takesOver_24 a b c d r) := by
  unfold G_takesOver_24
  simp (disch := omega) only [o_waiting, o_takesOver_28, ov_stg, ov_ri, cag_oM, oM_cag, oM_stg, oM_chk, oM_ite, oM_some]
theorem o_takesOver {a b c : Int} : G_takesOver a b c (ov X r) = oM X (G_takesOver a b c r) := by
  unfold G_takesOver G_takesOver_0
  simp (disch := omega) only [o_waitingTimer, o_takesOver_28, o_takesOver_24, ov_stg, ov_ri, cag_oM, oM_cag, oM_stg, oM_chk, oM_ite, oM_some]
end OV
