/-! what the reference's play decided before stays (partial: whatever comes back) -/
def Mg (z : Rst) (o : Option G2) : Prop := ∀ v r', o = some (v, r') → Made z r' ∧ SameQ z r'
theorem Mg.chk {z : Rst} {c : Prop} [Decidable c] {a : Option G2} (h : Mg z a) : Mg z (chk9 c a) := fun v r' e => h v r' (chk_some e).2
theorem Mg.ite {z : Rst} {c : Prop} [Decidable c] {a b : Option G2} (h1 : Mg z a) (h2 : Mg z b) : Mg z (if c then a else b) := by
  split
  · exact h1
  · exact h2
theorem Mg.st {z : Rst} {j : Nat} {i v : Int} {k : Rst → Option G2} (h0 : 40 ≤ j ∧ j ≤ 76) (h1 : j ≠ 72 ∧ j ≠ 73) (h3 : j ≠ 74) (h4 : j ≠ 76) (h : ∀ y, Mg y (k y)) : Mg z (stg (ur z j i v) k) := fun w r' e => ⟨(Made.rf.ur h1.1 h1.2 h3 h4).tr (h _ w r' e).1, SameQ.tr (fun a ha => ur_ne (by omega)) (h _ w r' e).2⟩
theorem Mg.cag {z : Rst} {o : Option G2} {k : Int → Rst → Option G2} (h : Mg z o) (hk : ∀ v r1, Mg r1 (k v r1)) : Mg z (cag o k) := fun v r' e => by
  obtain ⟨v1, r1, e1, e2⟩ := cag_some e
  exact ⟨(h v1 r1 e1).1.tr (hk v1 r1 v r' e2).1, (h v1 r1 e1).2.tr (hk v1 r1 v r' e2).2⟩
theorem Mg.ret {z : Rst} {v : Int} : Mg z (some (v, z)) := fun w r' e => by cases e; exact ⟨Made.rf, SameQ.rf⟩
theorem Mg.no {z : Rst} : Mg z none := fun w r' e => by cases e
theorem Mg.bool {z : Rst} {o : Option G2} (h : Mg z o) : Mg z (boolG o) := fun v r' e => h v r' (boolG_some e)
section MG
variable {z : Rst}
theorem mg_decides {k x y : Int} : Mg z (G_decides k x y z) := fun v r' e => by
  obtain ⟨-, -, rfl⟩ := dec_inv e
  exact ⟨gdec_made, fun j hj => gdec_n (by omega)⟩
theorem mg_ends {x y : Int} : Mg z (G_ends x y z) := by
  unfold G_ends G_ends_0
  repeat first | refine Mg.st (by decide) (by decide) (by decide) (by decide) fun _ => ?_ | exact Mg.ret | refine Mg.cag mg_decides fun _ _ => ?_
theorem mg_undoesNext : Mg z (G_undoesNext z) := by
  unfold G_undoesNext G_undoesNext_0
  repeat first | refine Mg.st (by decide) (by decide) (by decide) (by decide) fun _ => ?_ | exact Mg.ret | refine Mg.chk ?_ | refine Mg.ite ?_ ?_ | refine Mg.cag mg_decides fun _ _ => ?_ | refine Mg.cag mg_ends fun _ _ => ?_
theorem mg_fails {x : Int} : Mg z (G_fails x z) := by
  unfold G_fails G_fails_0
  repeat first | refine Mg.st (by decide) (by decide) (by decide) (by decide) fun _ => ?_ | exact Mg.ret | refine Mg.cag mg_undoesNext fun _ _ => ?_
theorem mg_cuts80 {k70 : Int → Rst → Option G2} (hk : ∀ x y, Mg y (k70 x y)) : ∀ (n : Nat) (l1 l2 : Int) (z : Rst), Mg z (G_cuts_80 k70 n l1 l2 z) := by
  intro n
  induction n with
  | zero => intro l1 l2 z; exact Mg.no
  | succ n ih =>
    intro l1 l2 z
    rw [G_cuts_80]
    repeat first | exact hk _ _ | exact ih _ _ _ | refine Mg.chk ?_ | refine Mg.ite ?_ ?_ | refine Mg.cag mg_decides fun _ _ => ?_
theorem mg_cuts70 {k127 : Rst → Option G2} (hk : ∀ y, Mg y (k127 y)) : ∀ (n : Nat) (l1 : Int) (z : Rst), Mg z (G_cuts_70 k127 n l1 z) := by
  intro n
  induction n with
  | zero => intro l1 z; exact Mg.no
  | succ n ih =>
    intro l1 z
    rw [G_cuts_70]
    exact Mg.ite (hk _) (mg_cuts80 (fun x y => ih x y) _ _ _ _)
theorem mg_cuts12 {k2 : Int → Rst → Option G2} (hk : ∀ x y, Mg y (k2 x y)) : ∀ (n : Nat) (l1 l2 : Int) (z : Rst), Mg z (G_cuts_12 k2 n l1 l2 z) := by
  intro n
  induction n with
  | zero => intro l1 l2 z; exact Mg.no
  | succ n ih =>
    intro l1 l2 z
    rw [G_cuts_12]
    repeat first | exact hk _ _ | exact ih _ _ _ | refine Mg.chk ?_ | refine Mg.ite ?_ ?_ | refine Mg.cag mg_decides fun _ _ => ?_
theorem mg_cuts2 {k70 : Int → Rst → Option G2} (hk : ∀ x y, Mg y (k70 x y)) : ∀ (n : Nat) (l1 : Int) (z : Rst), Mg z (G_cuts_2 k70 n l1 z) := by
  intro n
  induction n with
  | zero => intro l1 z; exact Mg.no
  | succ n ih =>
    intro l1 z
    rw [G_cuts_2]
    exact Mg.ite (hk _ _) (mg_cuts12 (fun x y => ih x y) _ _ _ _)
theorem mg_cuts : Mg z (G_cuts z) := by
  unfold G_cuts G_cuts_0
  refine mg_cuts2 (fun x y => mg_cuts70 (fun y => ?_) _ _ _) _ _ _
  unfold G_cuts_127
  exact Mg.cag mg_fails fun _ _ => Mg.ret
theorem mg_untaken {x : Int} : Mg z (G_untaken x z) := fun v r' e => by
  rw [untaken_inv e]; exact ⟨Made.rf, SameQ.rf⟩
theorem mg_gets {k x : Int} : Mg z (G_gets k x z) := by
  unfold G_gets G_gets_0
  repeat first | refine Mg.st (by decide) (by decide) (by decide) (by decide) fun _ => ?_ | exact Mg.ret | refine Mg.chk ?_
theorem mg_setsTimer {k x : Int} : Mg z (G_setsTimer k x z) := by
  unfold G_setsTimer G_setsTimer_0
  repeat first | refine Mg.st (by decide) (by decide) (by decide) (by decide) fun _ => ?_ | exact Mg.ret | refine Mg.chk ?_ | refine Mg.cag mg_decides fun _ _ => ?_
theorem mg_stepAt {x : Int} : Mg z (G_stepAt x z) := by
  unfold G_stepAt G_stepAt_0
  exact Mg.chk (Mg.chk Mg.ret)
theorem mg_waitsFor {s : Int} : Mg z (G_waitsFor s z) := by
  unfold G_waitsFor G_waitsFor_0
  repeat first | refine Mg.st (by decide) (by decide) (by decide) (by decide) fun _ => ?_ | exact Mg.ret | refine Mg.chk ?_ | refine Mg.ite ?_ ?_ | refine Mg.cag mg_stepAt fun _ _ => ?_ | refine Mg.cag mg_decides fun _ _ => ?_ | refine Mg.cag mg_setsTimer fun _ _ => ?_ | refine Mg.cag mg_untaken fun _ _ => ?_ | refine Mg.cag mg_gets fun _ _ => ?_
theorem mg_areDone : Mg z (G_areDone z) := fun v r' e => by
  rw [(areDone_inv e).1]; exact ⟨Made.rf, SameQ.rf⟩
theorem mg_finishes63 {x : Int} : Mg z (G_finishes_63 x z) := by
  unfold G_finishes_63
  repeat first | refine Mg.st (by decide) (by decide) (by decide) (by decide) fun _ => ?_ | exact Mg.ret | refine Mg.ite ?_ ?_ | refine Mg.cag mg_fails fun _ _ => ?_
theorem mg_finishes4 {k63 : Int → Rst → Option G2} (hk : ∀ x y, Mg y (k63 x y)) : ∀ (n : Nat) (l1 l2 : Int) (z : Rst), Mg z (G_finishes_4 k63 n l1 l2 z) := by
  intro n
  induction n with
  | zero => intro l1 l2 z; exact Mg.no
  | succ n ih =>
    intro l1 l2 z
    rw [G_finishes_4]
    unfold G_finishes_35
    repeat first | refine Mg.st (by decide) (by decide) (by decide) (by decide) fun _ => ?_ | exact hk _ _ | exact ih _ _ _ | refine Mg.chk ?_ | refine Mg.ite ?_ ?_
theorem mg_finishes : Mg z (G_finishes z) := by
  unfold G_finishes G_finishes_0
  exact mg_finishes4 (fun x y => mg_finishes63) _ _ _ _
theorem mg_waitsAt62 {l1 l2 : Int} : Mg z (G_waitsAt_62 l1 l2 z) := by
  unfold G_waitsAt_62
  repeat first | refine Mg.st (by decide) (by decide) (by decide) (by decide) fun _ => ?_ | exact Mg.ret | refine Mg.chk ?_ | refine Mg.ite ?_ ?_ | refine Mg.cag mg_areDone fun _ _ => ?_ | refine Mg.cag mg_finishes fun _ _ => ?_
theorem mg_waitsAt44 {k62 : Int → Int → Rst → Option G2} (hk : ∀ a b y, Mg y (k62 a b y)) : ∀ (n : Nat) (l1 l2 l3 : Int) (z : Rst), Mg z (G_waitsAt_44 k62 n l1 l2 l3 z) := by
  intro n
  induction n with
  | zero => intro l1 l2 l3 z; exact Mg.no
  | succ n ih =>
    intro l1 l2 l3 z
    rw [G_waitsAt_44]
    repeat first | exact hk _ _ _ | exact ih _ _ _ _ | refine Mg.chk ?_ | refine Mg.ite ?_ ?_ | refine Mg.cag mg_waitsFor fun _ _ => ?_
theorem mg_waitsAt {s : Int} : Mg z (G_waitsAt s z) := by
  unfold G_waitsAt G_waitsAt_0 G_waitsAt_28
  repeat first | refine Mg.st (by decide) (by decide) (by decide) (by decide) fun _ => ?_ | exact mg_waitsAt44 (fun a b y => mg_waitsAt62) _ _ _ _ _ | refine Mg.chk ?_ | refine Mg.ite ?_ ?_ | refine Mg.cag mg_stepAt fun _ _ => ?_
theorem mg_isMarked65 {l1 s0 : Int} : Mg z (G_isMarked_65 l1 s0 z) := by
  unfold G_isMarked_65
  repeat first | refine Mg.st (by decide) (by decide) (by decide) (by decide) fun _ => ?_ | exact Mg.ret | refine Mg.ite ?_ ?_ | refine Mg.cag mg_decides fun _ _ => ?_
theorem mg_isMarked {l1 : Int} : Mg z (G_isMarked l1 z) := by
  unfold G_isMarked G_isMarked_0
  refine Mg.bool ?_
  repeat first | exact Mg.ret | exact mg_isMarked65 | refine Mg.chk ?_ | refine Mg.ite ?_ ?_
theorem mg_againOrFails : Mg z (G_againOrFails z) := by
  unfold G_againOrFails G_againOrFails_0
  exact Mg.ite (Mg.cag mg_fails fun _ _ => Mg.ret) (Mg.cag mg_ends fun _ _ => Mg.ret)
theorem mg_held {x : Int} : Mg z (G_held x z) := fun v r' e => by
  rw [(held_inv e).1]; exact ⟨Made.rf, SameQ.rf⟩
theorem mg_passes {s : Int} : Mg z (G_passes s z) := by
  unfold G_passes G_passes_0 G_passes_324
  repeat first | refine Mg.st (by decide) (by decide) (by decide) (by decide) fun _ => ?_ | exact Mg.ret | refine Mg.chk ?_ | refine Mg.ite ?_ ?_ | refine Mg.cag mg_stepAt fun _ _ => ?_ | refine Mg.cag mg_decides fun _ _ => ?_ | refine Mg.cag mg_held fun _ _ => ?_ | refine Mg.cag mg_isMarked fun _ _ => ?_ | refine Mg.cag mg_fails fun _ _ => ?_ | refine Mg.cag mg_againOrFails fun _ _ => ?_ | refine Mg.cag mg_ends fun _ _ => ?_ | refine Mg.cag mg_waitsAt fun _ _ => ?_
theorem mg_goesOn : ∀ (n : Nat) (z : Rst), Mg z (G_goesOn_0 n z) := by
  intro n
  induction n with
  | zero => intro z; exact Mg.no
  | succ n ih =>
    intro z
    rw [G_goesOn_0]
    unfold G_goesOn_36 G_goesOn_106 G_goesOn_126
    repeat first | refine Mg.st (by decide) (by decide) (by decide) (by decide) fun _ => ?_ | exact Mg.ret | exact ih _ | refine Mg.chk ?_ | refine Mg.ite ?_ ?_ | refine Mg.cag mg_fails fun _ _ => ?_ | refine Mg.cag mg_ends fun _ _ => ?_ | refine Mg.cag mg_passes fun _ _ => ?_
theorem mg_waiting {a b : Int} : Mg z (G_waiting a b z) := fun v r' e => by
  rw [(waiting_inv e).1]; exact ⟨Made.rf, SameQ.rf⟩
theorem mg_waitingTimer {a : Int} : Mg z (G_waitingTimer a z) := fun v r' e => by
  rw [(waitingT_inv e).1]; exact ⟨Made.rf, SameQ.rf⟩
theorem mg_waitingSignal {a : Int} : Mg z (G_waitingSignal a z) := fun v r' e => by
  rw [(waitingS_inv e).1]; exact ⟨Made.rf, SameQ.rf⟩
theorem mg_takesSignal {a b : Int} : Mg z (G_takesSignal a b z) := by
  unfold G_takesSignal G_takesSignal_0 G_takesSignal_56 G_takesSignal_97
  repeat first | refine Mg.st (by decide) (by decide) (by decide) (by decide) fun _ => ?_ | exact Mg.ret | refine Mg.chk ?_ | refine Mg.ite ?_ ?_ | refine Mg.cag mg_waitingSignal fun _ _ => ?_ | refine Mg.cag mg_decides fun _ _ => ?_ | refine Mg.cag mg_gets fun _ _ => ?_
theorem mg_takesOver {a b c : Int} : Mg z (G_takesOver a b c z) := by
  unfold G_takesOver G_takesOver_0 G_takesOver_24 G_takesOver_28
  repeat first | refine Mg.st (by decide) (by decide) (by decide) (by decide) fun _ => ?_ | exact Mg.ret | refine Mg.chk ?_ | refine Mg.ite ?_ ?_ | refine Mg.cag mg_waitingTimer fun _ _ => ?_ | refine Mg.cag mg_waiting fun _ _ => ?_ | refine Mg.cag mg_gets fun _ _ => ?_
theorem mg_takes117 : Mg z (G_takes_117 z) := by
  unfold G_takes_117 G_takes_142 G_goesOn
  repeat first | exact Mg.ret | refine Mg.ite ?_ ?_ | refine Mg.cag mg_areDone fun _ _ => ?_ | refine Mg.cag mg_finishes fun _ _ => ?_ | refine Mg.cag (mg_goesOn _ _) fun _ _ => ?_
theorem mg_takes {a b c : Int} : Mg z (G_takes a b c z) := by
  unfold G_takes G_takes_0 G_takes_88 G_takes_103
  repeat first | refine Mg.st (by decide) (by decide) (by decide) (by decide) fun _ => ?_ | exact mg_takes117 | refine Mg.ite ?_ ?_ | refine Mg.cag mg_takesSignal fun _ _ => ?_ | refine Mg.cag mg_cuts fun _ _ => ?_ | refine Mg.cag mg_undoesNext fun _ _ => ?_ | refine Mg.cag mg_takesOver fun _ _ => ?_
theorem mg_takesAll7 : ∀ (n : Nat) (a b : Int) (z : Rst), Mg z (G_takesAll_7 n a b z) := by
  intro n
  induction n with
  | zero => intro a b z; exact Mg.no
  | succ n ih =>
    intro a b z
    rw [G_takesAll_7]
    repeat first | exact Mg.ret | exact ih _ _ _ | refine Mg.chk ?_ | refine Mg.ite ?_ ?_ | refine Mg.cag mg_takes fun _ _ => ?_
end MG
