/-! the class's player beside the reference's play: a step for which nothing is waited -/
section PA
variable {pg hs : Rst} {c : Int → Int} {B E n p : Int}
theorem settle_id {q : Rst} (h : q 8 0 ≠ 1) : H_4_settle pg hs q = some (0, q) := by
  unfold H_4_settle H_4_settle_0
  rw [if_f h]
/-- what comes of a turn -/
def Trn (pg hs : Rst) (c : Int → Int) (B E n : Int) (q r : Rst) : Prop := Aft pg hs c B E n q r ∨ (Cm pg hs c B E n 0 q r ∧ P4 q r)
theorem Trn.p0 {q r : Rst} (h : Cm pg hs c B E n 0 q r) (hp : P0 q r) : ∃ q', H_4_settle pg hs q = some (0, q') ∧ Trn pg hs c B E n q' r :=
  ⟨q, settle_id (by unfold P0 at hp; omega), Or.inl (Or.inr (Or.inl ⟨h, hp⟩))⟩
theorem Trn.p4 {q r : Rst} (h : Cm pg hs c B E n 0 q r) (hp : P4 q r) : ∃ q', H_4_settle pg hs q = some (0, q') ∧ Trn pg hs c B E n q' r :=
  ⟨q, settle_id (by unfold P4 at hp; omega), Or.inr ⟨h, hp⟩⟩
theorem Trn.lag {q r : Rst} (h : Lag pg hs c B E n 0 q r) : ∃ q', H_4_settle pg hs q = some (0, q') ∧ Trn pg hs c B E n q' r := by
  refine ⟨q, settle_id ?_, Or.inl (Or.inr (Or.inr h))⟩
  obtain ⟨r1, v, h1, h2, h3⟩ := h
  unfold P2 at h2; omega
theorem held_inv {v w : Int} {r r' : Rst} (h : G_held v r = some (w, r')) : r' = r ∧ w = (if (-999) < (if v < 999 then v else 999) then (if v < 999 then v else 999) else (-999)) := by
  unfold G_held G_held_0 at h
  rcases ite_some h with ⟨c0, h⟩ | ⟨c0, h⟩
  · rcases ite_some h with ⟨c1, h⟩ | ⟨c1, h⟩
    · cases h
      refine ⟨rfl, ?_⟩
      split <;> split <;> omega
    · cases h
      refine ⟨rfl, ?_⟩
      split <;> split <;> omega
  · cases h
    refine ⟨rfl, ?_⟩
    split <;> split <;> omega
theorem bool_some {o : Option G2} {v : Int} {r : Rst} (h : boolG o = some (v, r)) : o = some (v, r) ∧ (v = 0 ∨ v = 1) := by
  unfold boolG at h
  split at h
  · rename_i w r1
    rcases ite_some h with ⟨c0, h⟩ | ⟨c0, h⟩
    · cases h; exact ⟨rfl, c0⟩
    · cases h
  · cases h
/-- a mark: both pass it, or neither -/
theorem mk_bitz0 (a : Fin 16) (b : Fin 4) : (Int32.ofInt (a.val : Int) &&& Int32.ofInt ((Int32.ofInt 1 <<< (Int32.ofInt (b.val : Int) &&& 31)).toInt)).toInt = 0 ↔ a.val.testBit b.val = false := by
  revert a b
  decide +kernel
theorem mk_bitz {v i : Int} (h0 : 0 ≤ v) (h1 : v < 16) (h2 : 0 ≤ i) (h3 : i < 4) : (Int32.ofInt v &&& Int32.ofInt ((Int32.ofInt 1 <<< (Int32.ofInt i &&& 31)).toInt)).toInt = 0 ↔ mkd v i = false := by
  obtain ⟨a, rfl⟩ := Int.eq_ofNat_of_zero_le h0
  obtain ⟨b, rfl⟩ := Int.eq_ofNat_of_zero_le h2
  exact mk_bitz0 ⟨a, by omega⟩ ⟨b, by omega⟩
theorem sy_mark {i v : Int} {q r r' : Rst} (h : Cm pg hs c B E n p q r) (h0 : 0 ≤ i) (h1 : i < 4) (hd : q 38 0 = 0) (e : G_isMarked i r = some (v, r')) : ∃ q', H_4_passesMark pg hs i q = some (v, q') ∧ Cm pg hs c B E n p q' r' ∧ (∀ j : Nat, j < 19 → q' j = q j) ∧ (∀ j : Nat, j < 48 ∨ (48 < j ∧ j < 72) ∨ 76 < j → r' j = r j) := by
  have hm := h.2.2.2.1
  obtain ⟨m1, m2, m3⟩ := hm
  have mb := mk_bit m2 m3 h0 h1
  have mz := mk_bitz m2 m3 h0 h1
  unfold G_isMarked G_isMarked_0 at e
  rw [mb.1] at e
  obtain ⟨e, hv⟩ := bool_some e
  unfold H_4_passesMark H_4_passesMark_0
  rw [m1]
  by_cases cm : mkd (r 48 0) i = true
  · rw [if_t (by rw [if_t cm])] at e
    cases e
    rw [if_f (fun hh => by rw [mz.mp hh] at cm; cases cm), boolG_e (Or.inr rfl)]
    exact ⟨q, rfl, h, fun _ _ => rfl, fun _ _ => rfl⟩
  · rw [if_f (by rw [if_f cm]; decide)] at e
    rw [if_t (mz.mpr (Bool.eq_false_iff.mpr cm))]
    obtain ⟨_, e⟩ := chk_some e
    /- it is decided -/
    have yes : ∀ v r', G_isMarked_65 i 1 r = some (v, r') → v = 1 ∧ ∃ q', H_4_passesMark_40 pg hs i ((Int32.ofInt 1 <<< (Int32.ofInt i &&& 31)).toInt) q = some (1, q') ∧ Cm pg hs c B E n p q' r' ∧ (∀ j : Nat, j < 19 → q' j = q j) ∧ (∀ j : Nat, j < 48 ∨ (48 < j ∧ j < 72) ∨ 76 < j → r' j = r j) := by
      intro v r' e
      unfold G_isMarked_65 at e
      have e := (ite_some e).resolve_left (fun hh => by omega)
      obtain ⟨v1, r1, e1, e2⟩ := cag_some (stg_some e.2)
      obtain ⟨hc, rfl, rfl⟩ := dec_inv e1
      cases e2
      have hb : Cm pg hs c B E n p (ur q 19 0 (Int32.ofInt (r 48 0) ||| Int32.ofInt ((Int32.ofInt 1 <<< (Int32.ofInt i &&& 31)).toInt)).toInt) (ur r 48 0 (Int32.ofInt (r 48 0) ||| Int32.ofInt ((Int32.ofInt 1 <<< (Int32.ofInt i &&& 31)).toInt)).toInt) := by
        obtain ⟨a1, a2, a3, a4, a5, a6, a7, a8⟩ := h
        unfold Cm
        simp (disch := omega) only [ur_ne, ur_n, ur_e]
        exact ⟨a1, a2, a3, ⟨rfl, mb.2.1, mb.2.2.1⟩, a5, a6, a7, a8.same (fun j hj => ur_ne (by omega)) fun j hj => ur_ne (by omega)⟩
      obtain ⟨k1, k2⟩ := cm_put (k := 13) (x := i) (y := 0) hb hc.2 (by omega)
      refine ⟨rfl, _, ?_, k2, fun j hj => ?_, fun j hj => ?_⟩
      · unfold H_4_passesMark_40
        rw [m1, stg_e, k1, cag_e]
      · rw [hput_n (by omega), ur_ne (by omega)]
      · rw [gdec_n (by omega), ur_ne (by omega)]
    have no : ∀ v r', G_isMarked_65 i 0 r = some (v, r') → v = 0 ∧ r' = r := by
      intro v r' e
      unfold G_isMarked_65 at e
      have e := (ite_some e).resolve_right (fun hh => hh.1 rfl)
      cases e.2
      exact ⟨rfl, rfl⟩
    obtain ⟨hh, ds⟩ := h.2.2.2.2.2.2.2
    rcases ds with ⟨b1, b2, b3, b4, b5, b6, b7, b8, b9, ds⟩ | ⟨b1, b2, b3, b4, b5, b6, ds⟩
    · obtain ⟨d1, d2, d3, d4⟩ : q 38 0 = 0 ∧ q 40 0 = r 78 0 - B + r 76 0 ∧ q 40 0 ≤ q 41 0 ∧ _ := ds.resolve_right (fun hx => by omega)
      rw [if_f (by omega)]
      have e := (ite_some e).resolve_right (fun hx => hx.1 b1)
      have e := e.2
      unfold H_1_isNextAgain H_1_isNextAgain_0
      rw [if_f (by omega)]
      rcases ite_some e with ⟨c1, e⟩ | ⟨c1, e⟩
      · obtain ⟨rfl, rfl⟩ := no _ _ e
        rw [if_t (by omega), boolG_e (Or.inl rfl), cag_e, if_t rfl, boolG_e (Or.inl rfl)]
        exact ⟨q, rfl, h, fun _ _ => rfl, fun _ _ => rfl⟩
      · have hx := hh.2 (q 40 0) b8 (by omega)
        have ep : B + q 40 0 = r 78 0 + r 76 0 := by omega
        rw [ep] at hx
        rw [if_f (by omega), if_f (by omega), chk_t (by omega), chk_t (by omega), hx.1, hx.2.1]
        obtain ⟨_, e⟩ := chk_some e
        rcases ite_some e with ⟨c2, e⟩ | ⟨c2, e⟩
        · obtain ⟨_, e⟩ := chk_some e
          rw [if_t c2]
          rcases ite_some e with ⟨c3, e⟩ | ⟨c3, e⟩
          · obtain ⟨rfl, q', k1, k2⟩ := yes _ _ e
            rw [if_t c3, boolG_e (Or.inr rfl), cag_e, if_f (by decide), k1, boolG_e (Or.inr rfl)]
            exact ⟨q', rfl, k2⟩
          · obtain ⟨rfl, rfl⟩ := no _ _ e
            rw [if_f c3, boolG_e (Or.inl rfl), cag_e, if_t rfl, boolG_e (Or.inl rfl)]
            exact ⟨q, rfl, h, fun _ _ => rfl, fun _ _ => rfl⟩
        · obtain ⟨rfl, rfl⟩ := no _ _ e
          rw [if_f c2, boolG_e (Or.inl rfl), cag_e, if_t rfl, boolG_e (Or.inl rfl)]
          exact ⟨q, rfl, h, fun _ _ => rfl, fun _ _ => rfl⟩
    · rw [if_t b2]
      have e := (ite_some e).resolve_left (fun hx => by omega)
      obtain ⟨rfl, q', k1, k2⟩ := yes _ _ e.2
      rw [k1, boolG_e (Or.inr rfl)]
      exact ⟨q', rfl, k2⟩
end PA
