/-! p35's law: programs are told and released, on the reference's fields -/
section SET
variable {r r' z : Rst} {t k a b v N K b0 b1 : Int} {s3 s4 : Int → Int} {m m' : Mem}
theorem o_step (g : Rg r) (t0 : 0 ≤ t) (t1 : t < 3) (hs : stOk k a b) (h5 : 0 ≤ r 5 (5 * t + 4) ∧ r 5 (5 * t + 4) < 12) (h6 : r 6 t < 4) : ∃ r', G_step t k a b r = some (r 5 (5 * t + 4) + 1, r') ∧ r' 0 0 = 0 ∧ (∀ j : Nat, j = 1 ∨ 6 ≤ j → r' j = r j) ∧ (∀ i, r' 5 i = if i = 5 * t + 4 then r 5 (5 * t + 4) + 1 else r 5 i) ∧ r' 2 (12 * (5 * t + 4) + r 5 (5 * t + 4)) = k := by
  have g6 := g.2.1 t t0 t1
  unfold G_step G_step_0 G_step_20 G_step_73
  rw [g_isType, cag_e, if_t (show 0 ≤ t ∧ t ≤ 2 by omega), if_f (show ¬ (1 : Int) = 0 by decide), g_rowOf t0 (by omega) (by omega) (by omega), cag_e, show 5 * t + 5 - 1 = 5 * t + 4 by omega, if_f (show ¬ (1 : Int) = 0 by decide), g_isStep, cag_e, if_t hs, if_f (show ¬ (1 : Int) = 0 by decide), chk_t (by omega), if_f (show ¬ r 5 (5 * t + 4) = 12 by omega), chk_t (by omega), if_f (show ¬ r 6 t = 4 by omega), g_fine0, cag_e, if_f (show ¬ (1 : Int) = 0 by decide)]
  have e5 : ur r 0 0 0 5 (5 * t + 4) = r 5 (5 * t + 4) := ur_n (by omega)
  simp (disch := omega) only [chk_t, stg_e, ur_n, ur_e, e5]
  refine ⟨_, rfl, ?_, fun j hj => ?_, fun i => ?_, ?_⟩
  · simp (disch := omega) only [ur_n, ur_e]
  · rw [ur_ne (by omega), ur_ne (by omega), ur_ne (by omega), ur_ne (by omega), ur_ne (by omega)]
  · by_cases e : i = 5 * t + 4
    · rw [if_t e, ur_e rfl e]
    · rw [if_f e]
      simp (disch := omega) only [ur_n]
  · simp (disch := omega) only [ur_n, ur_e]
theorem o_forget (g : Rg r) (t0 : 0 ≤ t) (t1 : t < 3) : G_forget t r = some (r 5 (5 * t + 4), ur (ur r 0 0 0) 5 (5 * t + 4) 0) := by
  unfold G_forget G_forget_0 G_forget_13
  rw [g_isType, cag_e, if_t (show 0 ≤ t ∧ t ≤ 2 by omega), if_f (by decide), g_fine0, cag_e, if_f (by decide), g_rowOf t0 (by omega) (by omega) (by omega), cag_e, chk_t (by omega), g_rowOf t0 (by omega) (by omega) (by omega), cag_e, chk_t (by omega), stg_e, show 5 * t + 5 - 1 = 5 * t + 4 by omega, ur_n (by omega)]
theorem leads91_inv : ∀ (n : Nat) (l1 l2 l3 l4 l5 : Int), G_leads_91 n l1 l2 l3 l4 l5 r = some (v, r') → r' = r := by
  intro n
  induction n with
  | zero => intro l1 l2 l3 l4 l5 e; cases e
  | succ n ih =>
    intro l1 l2 l3 l4 l5 e
    rw [G_leads_91] at e
    rcases ite_some (chk_some e).2 with ⟨_, e⟩ | ⟨_, e⟩
    · rcases ite_some (chk_some e).2 with ⟨_, e⟩ | ⟨_, e⟩
      · cases e; rfl
      rcases ite_some e with ⟨_, e⟩ | ⟨_, e⟩
      · cases e; rfl
      rcases ite_some (chk_some (chk_some e).2).2 with ⟨_, e⟩ | ⟨_, e⟩
      · exact ih _ _ _ _ _ (chk_some e).2
      rcases ite_some (chk_some (chk_some e).2).2 with ⟨_, e⟩ | ⟨_, e⟩
      · exact ih _ _ _ _ _ (chk_some e).2
      · exact ih _ _ _ _ _ (chk_some e).2
    · cases e; rfl
theorem leads_inv {l1 l2 : Int} (e : G_leads l1 l2 r = some (v, r')) : r' = r := by
  unfold G_leads at e
  have e := boolG_some e
  unfold G_leads_0 at e
  have e := (chk_some (chk_some (chk_some e).2).2).2
  have c34 : ∀ s0, G_leads_34 l1 l2 (12 * l1 + l2) s0 r = some (v, r') → r' = r := fun s0 e => by
    unfold G_leads_34 G_leads_62 at e
    rcases ite_some e with ⟨_, e⟩ | ⟨_, e⟩
    · exact leads91_inv _ _ _ _ _ _ e
    rcases ite_some (chk_some e).2 with ⟨_, e⟩ | ⟨_, e⟩
    · rcases ite_some (chk_some (chk_some (chk_some (chk_some e).2).2).2).2 with ⟨_, e⟩ | ⟨_, e⟩
      · exact leads91_inv _ _ _ _ _ _ e
      · exact leads91_inv _ _ _ _ _ _ e
    rcases ite_some (chk_some e).2 with ⟨_, e⟩ | ⟨_, e⟩
    · rcases ite_some (chk_some (chk_some (chk_some (chk_some e).2).2).2).2 with ⟨_, e⟩ | ⟨_, e⟩
      · exact leads91_inv _ _ _ _ _ _ e
      · exact leads91_inv _ _ _ _ _ _ e
    · exact leads91_inv _ _ _ _ _ _ e
  rcases ite_some e with ⟨_, e⟩ | ⟨_, e⟩
  · rcases ite_some (chk_some (chk_some e).2).2 with ⟨_, e⟩ | ⟨_, e⟩
    · exact c34 _ e
    · exact c34 _ e
  · exact c34 _ e
/-- a version more -/
def Rel (t v : Int) (r r' : Rst) : Prop := v = r 6 t + 1 ∧ r' 0 0 = 0 ∧ (∀ j : Nat, j = 1 ∨ 7 ≤ j → r' j = r j) ∧ r' 6 t = r 6 t + 1 ∧ (∀ i, i ≠ t → r' 6 i = r 6 i) ∧ r' 5 (5 * t + 4) = 0 ∧ ∀ i, ¬ (5 * t ≤ i ∧ i ≤ 5 * t + 4) → r' 5 i = r 5 i
theorem rel126 {l4 l5 : Int} : ∀ (n : Nat) (l6 : Int) (y : Rst), (∀ j : Nat, j < 2 ∨ 4 < j → y j = z j) → G_release_126 G_release_217 n t l4 l5 l6 y = some (v, r') → v = z 6 t ∧ (∀ j : Nat, j < 2 ∨ 5 < j → r' j = z j) ∧ ∀ i, r' 5 i = if i = l4 then 0 else if i = l5 then z 5 l4 else z 5 i := by
  intro n
  induction n with
  | zero => intro l6 y _ e; cases e
  | succ n ih =>
    intro l6 y hy e
    rw [G_release_126] at e
    rcases ite_some e with ⟨_, e⟩ | ⟨_, e⟩
    · unfold G_release_217 at e
      have e := stg_some (chk_some (chk_some e).2).2
      have e := stg_some (chk_some e).2
      have e := (chk_some e).2
      cases e
      refine ⟨by rw [ur_n (by omega), ur_n (by omega), hy 6 (by omega)], fun j hj => by rw [ur_ne (by omega), ur_ne (by omega), hy j (by omega)], fun i => ?_⟩
      by_cases c : i = l4
      · rw [if_t c, ur_e rfl c]
      · rw [if_f c, ur_n (by omega)]
        by_cases d : i = l5
        · rw [if_t d, ur_e rfl d, hy 5 (by omega)]
        · rw [if_f d, ur_n (by omega), hy 5 (by omega)]
    · have e := stg_some (chk_some (chk_some (chk_some (chk_some (chk_some (chk_some e).2).2).2).2).2).2
      have e := stg_some (chk_some (chk_some (chk_some (chk_some (chk_some (chk_some e).2).2).2).2).2).2
      have e := stg_some (chk_some (chk_some (chk_some (chk_some (chk_some (chk_some e).2).2).2).2).2).2
      exact ih _ _ (fun j hj => by rw [ur_ne (by omega), ur_ne (by omega), ur_ne (by omega), hy j hj]) (chk_some e).2
theorem o_rel86 (g : Rg r) (t0 : 0 ≤ t) (t1 : t < 3) (h6 : r 6 t < 4) (e : G_release_86 t 0 r = some (v, r')) : Rel t v r r' := by
  have g6 := g.2.1 t t0 t1
  unfold G_release_86 at e
  rw [g_fine0, cag_e, if_f (by decide)] at e
  have e := stg_some (chk_some (chk_some (chk_some e).2).2).2
  have e6 : ur r 0 0 0 6 t = r 6 t := ur_n (by omega)
  rw [e6, g_rowOf t0 (by omega) (by omega) (by omega), cag_e, show 5 * t + 5 - 1 = 5 * t + 4 by omega] at e
  have e := (chk_some e).2
  rw [ur_e (j := 6) (a := 6) rfl rfl, g_rowOf t0 (by omega) (by omega) (by omega), cag_e] at e
  obtain ⟨q1, q2, q3⟩ := rel126 (z := ur (ur r 0 0 0) 6 t (r 6 t + 1)) _ _ _ (fun _ _ => rfl) e
  refine ⟨by rw [q1, ur_e rfl rfl], by rw [q2 0 (by omega), ur_n (by omega)]; exact ur_e rfl rfl, fun j hj => by rw [q2 j (by omega), ur_ne (by omega), ur_ne (by omega)], by rw [q2 6 (by omega), ur_e rfl rfl], fun i hi => by rw [q2 6 (by omega), ur_n (by omega), ur_n (by omega)], by rw [q3, if_t rfl], fun i hi => ?_⟩
  rw [q3, if_f (by omega), if_f (by omega), ur_n (by omega), ur_n (by omega)]
theorem o_release (g : Rg r) (t0 : 0 ≤ t) (t1 : t < 3) (h6 : r 6 t < 4) (e : G_release t r = some (v, r')) : r' = ur r 0 0 2 ∨ Rel t v r r' := by
  have c68 : ∀ l3, G_release_68 t 1 l3 r = some (v, r') → r' = ur r 0 0 2 ∨ Rel t v r r' := fun l3 e => by
    unfold G_release_68 at e
    rw [if_f (by decide)] at e
    rcases ite_some e with ⟨_, e⟩ | ⟨_, e⟩
    · unfold G_release_86 at e
      rw [g_fineE (by decide), cag_e, if_t rfl] at e
      cases e
      exact Or.inl rfl
    · exact Or.inr (o_rel86 g t0 t1 h6 e)
  have c31 : ∀ (n : Nat) (l3 l4 : Int), G_release_31 G_release_68 n t 1 l3 l4 r = some (v, r') → r' = ur r 0 0 2 ∨ Rel t v r r' := by
    intro n
    induction n with
    | zero => intro l3 l4 e; cases e
    | succ n ih =>
      intro l3 l4 e
      rw [G_release_31] at e
      rcases ite_some e with ⟨_, e⟩ | ⟨_, e⟩
      · exact c68 _ e
      rw [g_rowOf t0 (by omega) (by omega) (by omega), cag_e] at e
      rcases ite_some (chk_some e).2 with ⟨_, e⟩ | ⟨_, e⟩
      · exact c68 _ e
      rw [g_rowOf t0 (by omega) (by omega) (by omega), cag_e] at e
      obtain ⟨v1, r1, e1, e2⟩ := cag_some e
      clear e
      obtain rfl := leads_inv e1
      exact ih _ _ (chk_some e2).2
  unfold G_release G_release_0 at e
  rw [g_isType, cag_e, if_t (show 0 ≤ t ∧ t ≤ 2 by omega), if_f (by decide), g_rowOf t0 (by omega) (by omega) (by omega), cag_e] at e
  rcases ite_some (chk_some e).2 with ⟨_, e⟩ | ⟨_, e⟩
  · exact c31 _ _ _ e
  · exact c31 _ _ _ e
/-- a program of one ACT is always released -/
theorem o_release1 (g : Rg r) (t0 : 0 ≤ t) (t1 : t < 3) (h6 : r 6 t < 4) (h5 : r 5 (5 * t + 4) = 1) (h2 : r 2 (12 * (5 * t + 4)) = 0) (e : G_release t r = some (v, r')) : Rel t v r r' := by
  have f9 := fuel9_ge
  obtain ⟨n, hn⟩ : ∃ n, fuel9 = n + 2 := ⟨fuel9 - 2, by omega⟩
  unfold G_release G_release_0 at e
  have l1 : G_leads (5 * t + 4) 0 r = some (1, r) := by
    unfold G_leads G_leads_0 G_leads_34
    rw [chk_t (by omega), chk_t (by omega), chk_t (by omega), Int.add_zero, h2, if_f (by decide), if_f (by decide), chk_t (by omega), if_f (by decide), chk_t (by omega), if_f (by decide), hn, G_leads_91, chk_t (by omega), h2, if_f (by decide)]
    exact boolG_e (Or.inr rfl)
  rw [g_isType, cag_e, if_t (show 0 ≤ t ∧ t ≤ 2 by omega), if_f (by decide), g_rowOf t0 (by omega) (by omega) (by omega), cag_e, show 5 * t + 5 - 1 = 5 * t + 4 by omega, h5, chk_t (by omega), if_f (by decide), hn, G_release_31, if_f (by decide), g_rowOf t0 (by omega) (by omega) (by omega), cag_e, show 5 * t + 5 - 1 = 5 * t + 4 by omega, h5, chk_t (by omega), if_f (by decide), g_rowOf t0 (by omega) (by omega) (by omega), cag_e, show 5 * t + 5 - 1 = 5 * t + 4 by omega, l1, cag_e, chk_t (by omega), G_release_31, if_f (by decide), g_rowOf t0 (by omega) (by omega) (by omega), cag_e, show 5 * t + 5 - 1 = 5 * t + 4 by omega, h5, chk_t (by omega), if_t (by decide)] at e
  unfold G_release_68 at e
  rw [if_f (by decide), if_f (by decide)] at e
  exact o_rel86 g t0 t1 h6 e
end SET
