/-! the class's player beside the reference's play: something is heard -/
section HE
variable {pg hs : Rst} {c : Int → Int} {B E n p : Int}
/-- a place becomes over, by the class -/
def bec (k v l : Int) (q : Rst) : Rst := ur (ur (ur q 55 k v) 56 k 1) 57 k l
theorem bec_ok {k v l : Int} {q : Rst} (hl : l = 0 ∨ l = 1) : H_8_become pg hs k v l q = some (0, bec k v l q) := by
  unfold H_8_become H_8_become_0 bec
  rw [stg_e, stg_e, chk_t hl, stg_e]
theorem bec_n {k v l : Int} {q : Rst} {j : Nat} (h : j < 55 ∨ 57 < j) : bec k v l q j = q j := by
  unfold bec
  simp (disch := omega) only [ur_ne]
theorem ha_none {x y l : Int} {q : Rst} (hK : q 11 0 ≤ 3) : ∀ (m : Nat) (j : Int), 0 ≤ j → j ≤ 3 → 3 - j < m → (∀ i, j ≤ i → i < q 11 0 → q 51 i ≠ x) → H_4_hearActivity_24 pg hs m x y l j q = some (0, q) := by
  intro m
  induction m with
  | zero => intro j h0 h1 h2; omega
  | succ m ih =>
    intro j h0 h1 h2 h3
    rw [H_4_hearActivity_24]
    by_cases c0 : q 11 0 ≤ j
    · rw [if_t c0]
    · rw [if_f c0, chk_t (by omega), if_f (h3 j (by omega) (by omega)), chk_t (by omega)]
      exact ih (j + 1) (by omega) (by omega) (by omega) fun i a b => h3 i (by omega) b
theorem ha_one {x y l k : Int} {q : Rst} (hK : q 11 0 ≤ 3) (hk1 : k < q 11 0) (hl : l = 0 ∨ l = 1) (hx : q 51 k = x) (hno : ∀ i, 0 ≤ i → i < q 11 0 → i ≠ k → q 51 i ≠ x) : ∀ (m : Nat) (j : Int), 0 ≤ j → j ≤ k → 3 - j < m → H_4_hearActivity_24 pg hs m x y l j q = some (0, bec k y l q) := by
  intro m
  induction m with
  | zero => intro j h0 h1 h2; omega
  | succ m ih =>
    intro j h0 h1 h2
    rw [H_4_hearActivity_24, if_f (by omega), chk_t (by omega)]
    by_cases e : j = k
    · subst e
      rw [if_t hx, chk_t (by omega), bec_ok hl, cag_e, chk_t (by omega)]
      refine ha_none (by rw [bec_n (by omega)]; exact hK) m (j + 1) (by omega) (by omega) (by omega) fun i a b => ?_
      rw [bec_n (by omega)] at b ⊢
      exact hno i (by omega) b (by omega)
    · rw [if_f (hno j h0 (by omega) e), chk_t (by omega)]
      exact ih (j + 1) (by omega) (by omega) (by omega)
theorem ht_none {x : Int} {q : Rst} (hK : q 11 0 ≤ 3) : ∀ (m : Nat) (j : Int), 0 ≤ j → j ≤ 3 → 3 - j < m → (∀ i, j ≤ i → i < q 11 0 → ¬ (q 52 i = x ∧ q 56 i = 0)) → H_4_hearTimer_2 pg hs m x j q = some (0, q) := by
  intro m
  induction m with
  | zero => intro j h0 h1 h2; omega
  | succ m ih =>
    intro j h0 h1 h2 h3
    rw [H_4_hearTimer_2]
    by_cases c0 : q 11 0 ≤ j
    · rw [if_t c0]
    · have nx := ih (j + 1) (by omega) (by omega) (by omega) fun i a b => h3 i (by omega) b
      rw [if_f c0, chk_t (by omega), chk_t (by omega), chk_t (by omega), chk_t (by omega)]
      by_cases c1 : q 52 j = x
      · rw [if_t c1, if_f (fun c2 => h3 j (by omega) (by omega) ⟨c1, c2⟩)]; exact nx
      · rw [if_f c1]; exact nx
theorem ht_one {x k : Int} {q : Rst} (hK : q 11 0 ≤ 3) (hk1 : k < q 11 0) (hx : q 52 k = x ∧ q 56 k = 0) (hno : ∀ i, 0 ≤ i → i < q 11 0 → i ≠ k → ¬ (q 52 i = x ∧ q 56 i = 0)) : ∀ (m : Nat) (j : Int), 0 ≤ j → j ≤ k → 3 - j < m → H_4_hearTimer_2 pg hs m x j q = some (0, bec k (-1) 0 q) := by
  intro m
  induction m with
  | zero => intro j h0 h1 h2; omega
  | succ m ih =>
    intro j h0 h1 h2
    rw [H_4_hearTimer_2, if_f (by omega), chk_t (by omega)]
    by_cases e : j = k
    · subst e
      rw [if_t hx.1, chk_t (by omega), if_t hx.2, chk_t (by omega), bec_ok (Or.inl rfl), cag_e, chk_t (by omega)]
      refine ht_none (by rw [bec_n (by omega)]; exact hK) m (j + 1) (by omega) (by omega) (by omega) fun i a b => ?_
      rw [bec_n (by omega)] at b
      have h := hno i (by omega) b (by omega)
      unfold bec
      simp (disch := omega) only [ur_n]
      exact h
    · have nx := ih (j + 1) (by omega) (by omega) (by omega)
      rw [chk_t (by omega), chk_t (by omega), chk_t (by omega)]
      by_cases c1 : q 52 j = x
      · rw [if_t c1, if_f (fun c2 => hno j h0 (by omega) e ⟨c1, c2⟩)]; exact nx
      · rw [if_f c1]; exact nx
theorem hc_none {x y : Int} {q : Rst} (hK : q 11 0 ≤ 3) : ∀ (m : Nat) (j : Int), 0 ≤ j → j ≤ 3 → 3 - j < m → (∀ i, j ≤ i → i < q 11 0 → q 53 i ≠ x) → H_4_hearChild_2 pg hs m x y j q = some (0, q) := by
  intro m
  induction m with
  | zero => intro j h0 h1 h2; omega
  | succ m ih =>
    intro j h0 h1 h2 h3
    rw [H_4_hearChild_2]
    by_cases c0 : q 11 0 ≤ j
    · rw [if_t c0]
    · rw [if_f c0, chk_t (by omega), if_f (h3 j (by omega) (by omega)), chk_t (by omega)]
      exact ih (j + 1) (by omega) (by omega) (by omega) fun i a b => h3 i (by omega) b
theorem hc_one {x y k : Int} {q : Rst} (hK : q 11 0 ≤ 3) (hk1 : k < q 11 0) (hx : q 53 k = x) (hno : ∀ i, 0 ≤ i → i < q 11 0 → i ≠ k → q 53 i ≠ x) : ∀ (m : Nat) (j : Int), 0 ≤ j → j ≤ k → 3 - j < m → H_4_hearChild_2 pg hs m x y j q = some (0, bec k y 0 q) := by
  intro m
  induction m with
  | zero => intro j h0 h1 h2; omega
  | succ m ih =>
    intro j h0 h1 h2
    rw [H_4_hearChild_2, if_f (by omega), chk_t (by omega)]
    by_cases e : j = k
    · subst e
      rw [if_t hx, chk_t (by omega), bec_ok (Or.inl rfl), cag_e, chk_t (by omega)]
      refine hc_none (by rw [bec_n (by omega)]; exact hK) m (j + 1) (by omega) (by omega) (by omega) fun i a b => ?_
      rw [bec_n (by omega)] at b ⊢
      exact hno i (by omega) b (by omega)
    · rw [if_f (hno j h0 (by omega) e), chk_t (by omega)]
      exact ih (j + 1) (by omega) (by omega) (by omega)
/-- where the class and the reference stand behind what was heard -/
def Hd (pg hs : Rst) (c : Int → Int) (B E n : Int) (q r : Rst) : Prop := (Cm pg hs c B E n 0 q r ∧ (P1 hs n q r ∨ P0 q r)) ∨ (∃ p, p ≤ n ∧ Cm pg hs c B E n p q r ∧ (P3 q r ∨ P4 q r)) ∨ ∃ p, p + 1 ≤ n ∧ p < 80 ∧ Lag pg hs c B E n p q r
/-- behind what was heard both go on -/
theorem sy_tail {D T U S : Int} {q r r' : Rst} {v : Int} (cs : Cs c hs) (hn0 : 1 ≤ n) (hn2 : n ≤ 80) (hb : Bd D T U S r) (h44 : r 44 0 = 0) (g : PgR r) (pt : Pt r) (pm : PgM pg r) (hr : r 83 0 ≤ 9) (hD : D + 65 ≤ 5200) (hU : U + 61 ≤ 5200) (hT : T ≤ 60000) (hS : S ≤ 80) (hh : Hd pg hs c B E n q r) (e : G_takes_117 r = some (v, r')) : ∃ q', H_4_goOn pg hs q = some (0, q') ∧ Pe pg hs c B E n q' r' := by
  have f9 := fuel9_ge
  unfold H_4_goOn H_4_goOn_0
  unfold G_takes_117 at e
  have still : ∀ m0 : r 42 0 ≠ 0, r' = r := fun m0 => by
    rw [if_f m0] at e
    unfold G_takes_142 G_goesOn at e
    obtain ⟨k, hk⟩ : ∃ k, fuel9 = k + 1 := ⟨fuel9 - 1, by omega⟩
    rw [hk, go_stop (Or.inl m0), cag_e] at e
    cases e
    rfl
  have go : ∀ (q1 r1 : Rst) (v : Int) (D1 T1 : Int), D1 ≤ D + 1 → T1 ≤ T + 1 → Bd D1 T1 U S r1 → r1 44 0 = 0 → PgR r1 → Pt r1 → PgM pg r1 → r1 83 0 ≤ 9 → Trn pg hs c B E n q1 r1 → G_takes_142 r1 = some (v, r') → ∃ q', H_4_goOn_6 pg hs fuel9 0 q1 = some (0, q') ∧ Pe pg hs c B E n q' r' := by
    intro q1 r1 v D1 T1 hD1 hT1 hb1 h44 g pt pm hr ht e
    unfold G_takes_142 G_goesOn at e
    obtain ⟨v1, r2, e1, e2⟩ := cag_some e
    cases e2
    have := sy_goOn0 (D := D1) (T := T1) (U := U) (S := S) cs hn0 hn2 (by omega) (by omega) (by omega) hS fuel9 fuel9 q1 r1 r' v1 (by omega) (by omega) (by omega) (by omega) g pt pm hr (fun _ _ => by rw [h44]; exact hb1.mono (by omega) (by omega) (by omega) (by omega)) (fun _ => hb1.mono (by omega) (by omega) (by omega) (by omega)) ht e1
    rw [h44] at this
    exact this
  obtain ⟨k, hk⟩ : ∃ k, fuel9 = k + 1 := ⟨fuel9 - 1, by omega⟩
  rcases hh with ⟨hc, hp | hp⟩ | ⟨p, hpn, hc, hp⟩ | ⟨p, hpn, hp80, hl⟩
  · have hp' := hp
    obtain ⟨p1, p2, p3, p4, p5, p6, p7, p8, p9, p10, sl, di⟩ := hp'
    rw [if_t p2, if_f (by omega)] at e
    obtain ⟨u, hu, hu0, hu1⟩ := f_areDone0 (r := r) (fun k a b => by have := (sl k a b).bits; omega) p4
    rw [hu, cag_e] at e
    rcases ite_some e with ⟨c0, e⟩ | ⟨c0, e⟩
    · have hx : ∃ k, 0 ≤ k ∧ k < r 55 0 ∧ r 60 k = 0 := by
        by_cases h : ∃ k, 0 ≤ k ∧ k < r 55 0 ∧ r 60 k = 0
        · exact h
        · exfalso
          have : u = 1 := hu1.mpr fun k a b => by
            have := (sl k a b).bits
            have h2 : r 60 k ≠ 0 := fun e => h ⟨k, a, b, e⟩
            omega
          omega
      rw [sy_settle0 (pg := pg) hp hx, cag_e]
      exact go q r v D T (by omega) (by omega) hb h44 g pt pm hr (Or.inl (Or.inl ⟨hc, hp, hx⟩)) e
    · obtain ⟨v1, r1, e1, e2⟩ := cag_some e
      obtain ⟨q', k1, k2⟩ := sy_settle1 hc hp (hu1.mp (by omega)) e1
      rw [k1, cag_e]
      obtain ⟨v2, r2, o1, o2, o3, o4⟩ := ok_finishes hb.1 p2 (hb.bh p2 p3) (by omega) (by omega) (by omega)
      rw [o1] at e1
      cases e1
      exact go q' r1 v (D + 1) (T + 1) (by omega) (by omega) o4.1 (by rw [o2 44 (by omega)]; exact h44) (g.same o2) (pt.same o2) (pm.fr fun j hj => o2 j (by omega)) (by rw [o2 83 (by omega)]; exact hr) (Or.inl (Or.inr k2)) e2
  · rw [if_t hp.2.1, if_t (by have := hp.2.2.1; omega)] at e
    rw [settle_id (by have := hp.1; omega), cag_e]
    exact go q r v D T (by omega) (by omega) hb h44 g pt pm hr (Or.inl (Or.inr (Or.inl ⟨hc, hp⟩))) e
  · have m0 : r 42 0 ≠ 0 := by
      rcases hp with h | h
      · have := h.2.1; omega
      · have := h.2.1; omega
    have m8 : q 8 0 = 3 ∨ q 8 0 = 4 := by
      rcases hp with h | h
      · exact Or.inl h.1
      · exact Or.inr h.1
    rw [still m0, settle_id (by omega), cag_e, hk, go_still k 0 (Or.inr (by omega))]
    exact ⟨q, rfl, Pe.p34 hc hpn hp⟩
  · obtain ⟨l1, l2⟩ := lag_go hl hp80 hpn
    have h8 : q 8 0 ≠ 1 := by
      obtain ⟨r2, v2, y1, y2, y3⟩ := hl
      have := y2.1; omega
    rw [still l1, settle_id h8, cag_e]
    obtain ⟨k2, hk2⟩ : ∃ k, fuel9 = k + 2 := ⟨fuel9 - 2, by omega⟩
    rw [hk2]
    exact l2 k2 0 (by omega) (by omega)
end HE
