/-! the player's own places as a state, and the relation to the memory -/
def plS (j : Nat) : Bool := decide (j = 2 ∨ j = 6 ∨ (8 ≤ j ∧ j ≤ 19))
/-- where the player's field j lies in q: 6 (the marks, bits) at 19, behind the program one place less -/
def qo (j : Nat) : Nat := if j = 2 then 2 else if j = 6 then 19 else j - 1
theorem qo_ne {j k : Nat} (hj : plS j = true) (hk : plS k = true) (h : k ≠ j) : qo k ≠ qo j := by
  have hj2 : j = 2 ∨ j = 6 ∨ (8 ≤ j ∧ j ≤ 19) := of_decide_eq_true hj
  have hk2 : k = 2 ∨ k = 6 ∨ (8 ≤ k ∧ k ≤ 19) := of_decide_eq_true hk
  unfold qo
  split <;> split <;> (try split) <;> (try split) <;> omega
theorem qo_le {j : Nat} (hj : plS j = true) : qo j ≤ 19 := by
  have hj2 : j = 2 ∨ j = 6 ∨ (8 ≤ j ∧ j ≤ 19) := of_decide_eq_true hj
  unfold qo
  split <;> (try split) <;> omega
def deS (j : Nat) : Bool := decide ((3 ≤ j ∧ j ≤ 8) ∨ j = 10 ∨ j = 11)
def Hq (q : Rst) (m : Mem) : Prop := (m 100 0 = 101 ∧ m 100 1 = 110 ∧ m 100 3 = 111 ∧ m 100 4 = 112 ∧ m 100 5 = 113 ∧ m 101 0 = 102 ∧ m 101 1 = 103 ∧ m 101 2 = 104) ∧ (∀ i, 0 ≤ i → i < 3 → m 111 i = 130 + i) ∧ (∀ j : Nat, plS j = true → m 100 j = q (qo j) 0) ∧ (∀ j : Nat, deS j = true → m 101 j = q (30 + j) 0) ∧
  (∀ i, m 110 i = q 20 i) ∧ (∀ i, m 112 i = q 22 i) ∧ (∀ i, m 113 i = q 23 i) ∧ (∀ i, m 102 i = q 42 i) ∧ (∀ i, m 103 i = q 43 i) ∧ (∀ i, m 104 i = q 44 i) ∧ (∀ (i : Int) (j : Nat), 0 ≤ i → i < 3 → j < 8 → m (130 + i) j = q (50 + j) i)
def Ob (x : Rst) (P : Int) (m : Mem) : Prop := 200 < P ∧ m P 0 = P + 1 ∧ m P 1 = P + 2 ∧ m P 2 = P + 3 ∧ m P 3 = x 3 0 ∧ (∀ i, m (P + 1) i = x 0 i) ∧ (∀ i, m (P + 2) i = x 1 i) ∧ (∀ i, m (P + 3) i = x 2 i)
def Hp (q pg hs : Rst) (P H : Int) (m : Mem) : Prop := Hq q m ∧ Ob pg P m ∧ Ob hs H m ∧ m 100 7 = P ∧ m 101 9 = H
/-- only the player's own places differ -/
def FrH (m m' : Mem) : Prop := ∀ i, i < 100 ∨ 139 < i → ∀ j, m' i j = m i j
theorem FrH.rf {m : Mem} : FrH m m := fun _ _ _ => rfl
theorem FrH.tr {m m1 m2 : Mem} (h : FrH m m1) (k : FrH m1 m2) : FrH m m2 := fun i hi j => (k i hi j).trans (h i hi j)
theorem FrH.upd {m : Mem} {x k v : Int} (h0 : 100 ≤ x) (h1 : x ≤ 139) : FrH m (upd9 m x k v) := fun i hi j => upd9_n (by omega)
theorem Ob.upd {x : Rst} {P : Int} {m : Mem} (h : Ob x P m) {y k v : Int} (hy : y < 200) : Ob x P (upd9 m y k v) := by
  obtain ⟨h0, h1, h2, h3, h4, h5, h6, h7⟩ := h
  refine ⟨h0, ?_, ?_, ?_, ?_, fun i => ?_, fun i => ?_, fun i => ?_⟩
  · rw [upd9_n (by omega)]; exact h1
  · rw [upd9_n (by omega)]; exact h2
  · rw [upd9_n (by omega)]; exact h3
  · rw [upd9_n (by omega)]; exact h4
  · rw [upd9_n (by omega)]; exact h5 i
  · rw [upd9_n (by omega)]; exact h6 i
  · rw [upd9_n (by omega)]; exact h7 i
def LiH (pg hs : Rst) (P H : Int) (o : Option G2) (o' : Option R2) (m : Mem) : Prop := ∀ v q', o = some (v, q') → ∃ m', o' = some (v, m') ∧ Hp q' pg hs P H m' ∧ FrH m m'
section LH
variable {pg hs : Rst} {P H : Int}
theorem Lh_none {o' : Option R2} {m : Mem} : LiH pg hs P H none o' m := fun _ _ h => by cases h
theorem Lh_chk {c c' : Prop} [Decidable c] [Decidable c'] {a : Option G2} {a' : Option R2} {m : Mem} (h : c → c') (k : c → LiH pg hs P H a a' m) : LiH pg hs P H (chk9 c a) (chk9 c' a') m := fun v r' e => by
  obtain ⟨hc, e⟩ := chk_some e
  unfold chk9
  rw [if_pos (h hc)]
  exact k hc v r' e
theorem Lh_chkX {c' : Prop} [Decidable c'] {a : Option G2} {a' : Option R2} {m : Mem} (h : c') (k : LiH pg hs P H a a' m) : LiH pg hs P H a (chk9 c' a') m := fun v r' e => by
  unfold chk9
  rw [if_pos h]
  exact k v r' e
theorem Lh_ite {c c' : Prop} [Decidable c] [Decidable c'] {a b : Option G2} {a' b' : Option R2} {m : Mem} (h : c' ↔ c) (k1 : LiH pg hs P H a a' m) (k2 : LiH pg hs P H b b' m) : LiH pg hs P H (if c then a else b) (if c' then a' else b') m := fun v r' e => by
  rcases ite_some e with ⟨hc, e⟩ | ⟨hc, e⟩
  · rw [if_pos (h.mpr hc)]; exact k1 v r' e
  · rw [if_neg (fun h2 => hc (h.mp h2))]; exact k2 v r' e
theorem Lh_ret {q : Rst} {m : Mem} {v v' : Int} (hv : v' = v) (hR : Hp q pg hs P H m) : LiH pg hs P H (some (v, q)) (some (v', m)) m := fun w r' e => by
  cases e
  exact ⟨m, by rw [hv], hR, FrH.rf⟩
theorem Lh_cal {o : Option G2} {o' : Option R2} {m : Mem} {K : Int → Rst → Option G2} {K' : Int → Mem → Option R2} (h : LiH pg hs P H o o' m) (k : ∀ v q1 m1, Hp q1 pg hs P H m1 → LiH pg hs P H (K v q1) (K' v m1) m1) : LiH pg hs P H (cag o K) (cal o' K') m := fun w r' e => by
  unfold cag at e
  split at e
  · rename_i v r1
    obtain ⟨m1, h1, h2, h3⟩ := h v r1 rfl
    obtain ⟨m', k1, k2, k3⟩ := k v r1 m1 h2 w r' e
    refine ⟨m', ?_, k2, h3.tr k3⟩
    rw [h1]; exact k1
  · cases e
theorem Lh_bool {o : Option G2} {o' : Option R2} {m : Mem} (h : LiH pg hs P H o o' m) : LiH pg hs P H (boolG o) (boolR o') m := fun w r' e => by
  unfold boolG at e
  split at e
  · rename_i v r1
    rcases ite_some e with ⟨hc, e⟩ | ⟨hc, e⟩
    · cases e
      obtain ⟨m1, h1, h2, h3⟩ := h _ _ rfl
      refine ⟨m1, ?_, h2, h3⟩
      rw [h1]
      exact if_pos hc
    · cases e
  · cases e

theorem Hq.pl {q : Rst} {m : Mem} (h : Hq q m) {j : Nat} (hj : plS j = true) {v : Int} : Hq (ur q (qo j) 0 v) (upd9 m 100 j v) := by
  obtain ⟨⟨p0, p1, p2, p3, p4, p5, p6, p7⟩, sl, ps, ds, a20, a22, a23, a42, a43, a44, ls⟩ := h
  have hj2 : j = 2 ∨ j = 6 ∨ (8 ≤ j ∧ j ≤ 19) := of_decide_eq_true hj
  have hj3 := qo_le hj
  refine ⟨⟨by rw [upd9_n (by omega)]; exact p0, by rw [upd9_n (by omega)]; exact p1, by rw [upd9_n (by omega)]; exact p2, by rw [upd9_n (by omega)]; exact p3, by rw [upd9_n (by omega)]; exact p4, by rw [upd9_n (by omega)]; exact p5, by rw [upd9_n (by omega)]; exact p6, by rw [upd9_n (by omega)]; exact p7⟩, fun i h0 h1 => by rw [upd9_n (by omega)]; exact sl i h0 h1, fun k hk => ?_, fun k hk => ?_, fun k => ?_, fun k => ?_, fun k => ?_, fun k => ?_, fun k => ?_, fun k => ?_, fun k l h0 h1 h2 => ?_⟩
  · have hk2 : k = 2 ∨ k = 6 ∨ (8 ≤ k ∧ k ≤ 19) := of_decide_eq_true hk
    have hk3 := qo_le hk
    by_cases e : k = j
    · subst e; rw [upd9_e rfl rfl, ur_e rfl rfl]
    · rw [upd9_n (by omega), ur_n (Or.inl (qo_ne hj hk e))]; exact ps k hk
  · have hk2 : (3 ≤ k ∧ k ≤ 8) ∨ k = 10 ∨ k = 11 := of_decide_eq_true hk
    rw [upd9_n (by omega), ur_n (by omega)]; exact ds k hk
  · rw [upd9_n (by omega), ur_n (by omega)]; exact a20 k
  · rw [upd9_n (by omega), ur_n (by omega)]; exact a22 k
  · rw [upd9_n (by omega), ur_n (by omega)]; exact a23 k
  · rw [upd9_n (by omega), ur_n (by omega)]; exact a42 k
  · rw [upd9_n (by omega), ur_n (by omega)]; exact a43 k
  · rw [upd9_n (by omega), ur_n (by omega)]; exact a44 k
  · rw [upd9_n (by omega), ur_n (by omega)]; exact ls k l h0 h1 h2
theorem Hq.de {q : Rst} {m : Mem} (h : Hq q m) {j : Nat} (hj : deS j = true) {v : Int} : Hq (ur q (30 + j) 0 v) (upd9 m 101 j v) := by
  obtain ⟨⟨p0, p1, p2, p3, p4, p5, p6, p7⟩, sl, ps, ds, a20, a22, a23, a42, a43, a44, ls⟩ := h
  have hj2 : (3 ≤ j ∧ j ≤ 8) ∨ j = 10 ∨ j = 11 := of_decide_eq_true hj
  refine ⟨⟨by rw [upd9_n (by omega)]; exact p0, by rw [upd9_n (by omega)]; exact p1, by rw [upd9_n (by omega)]; exact p2, by rw [upd9_n (by omega)]; exact p3, by rw [upd9_n (by omega)]; exact p4, by rw [upd9_n (by omega)]; exact p5, by rw [upd9_n (by omega)]; exact p6, by rw [upd9_n (by omega)]; exact p7⟩, fun i h0 h1 => by rw [upd9_n (by omega)]; exact sl i h0 h1, fun k hk => ?_, fun k hk => ?_, fun k => ?_, fun k => ?_, fun k => ?_, fun k => ?_, fun k => ?_, fun k => ?_, fun k l h0 h1 h2 => ?_⟩
  · have hk2 : k = 2 ∨ k = 6 ∨ (8 ≤ k ∧ k ≤ 19) := of_decide_eq_true hk
    have hk3 := qo_le hk
    rw [upd9_n (by omega), ur_n (by omega)]; exact ps k hk
  · have hk2 : (3 ≤ k ∧ k ≤ 8) ∨ k = 10 ∨ k = 11 := of_decide_eq_true hk
    by_cases e : k = j
    · subst e; rw [upd9_e rfl rfl, ur_e rfl rfl]
    · rw [upd9_n (by omega), ur_n (by omega)]; exact ds k hk
  · rw [upd9_n (by omega), ur_n (by omega)]; exact a20 k
  · rw [upd9_n (by omega), ur_n (by omega)]; exact a22 k
  · rw [upd9_n (by omega), ur_n (by omega)]; exact a23 k
  · rw [upd9_n (by omega), ur_n (by omega)]; exact a42 k
  · rw [upd9_n (by omega), ur_n (by omega)]; exact a43 k
  · rw [upd9_n (by omega), ur_n (by omega)]; exact a44 k
  · rw [upd9_n (by omega), ur_n (by omega)]; exact ls k l h0 h1 h2
theorem Hq.sl {q : Rst} {m : Mem} (h : Hq q m) {i : Int} {j : Nat} (hi : 0 ≤ i) (hi3 : i < 3) (hj : j < 8) {v : Int} : Hq (ur q (50 + j) i v) (upd9 m (130 + i) j v) := by
  obtain ⟨⟨p0, p1, p2, p3, p4, p5, p6, p7⟩, sl, ps, ds, a20, a22, a23, a42, a43, a44, ls⟩ := h
  refine ⟨⟨by rw [upd9_n (by omega)]; exact p0, by rw [upd9_n (by omega)]; exact p1, by rw [upd9_n (by omega)]; exact p2, by rw [upd9_n (by omega)]; exact p3, by rw [upd9_n (by omega)]; exact p4, by rw [upd9_n (by omega)]; exact p5, by rw [upd9_n (by omega)]; exact p6, by rw [upd9_n (by omega)]; exact p7⟩, fun i h0 h1 => by rw [upd9_n (by omega)]; exact sl i h0 h1, fun k hk => ?_, fun k hk => ?_, fun k => ?_, fun k => ?_, fun k => ?_, fun k => ?_, fun k => ?_, fun k => ?_, fun k l h0 h1 h2 => ?_⟩
  · have hk2 : k = 2 ∨ k = 6 ∨ (8 ≤ k ∧ k ≤ 19) := of_decide_eq_true hk
    have hk3 := qo_le hk
    rw [upd9_n (by omega), ur_n (by omega)]; exact ps k hk
  · have hk2 : (3 ≤ k ∧ k ≤ 8) ∨ k = 10 ∨ k = 11 := of_decide_eq_true hk
    rw [upd9_n (by omega), ur_n (by omega)]; exact ds k hk
  · rw [upd9_n (by omega), ur_n (by omega)]; exact a20 k
  · rw [upd9_n (by omega), ur_n (by omega)]; exact a22 k
  · rw [upd9_n (by omega), ur_n (by omega)]; exact a23 k
  · rw [upd9_n (by omega), ur_n (by omega)]; exact a42 k
  · rw [upd9_n (by omega), ur_n (by omega)]; exact a43 k
  · rw [upd9_n (by omega), ur_n (by omega)]; exact a44 k
  · by_cases e : k = i ∧ l = j
    · obtain ⟨e1, e2⟩ := e; subst e1; subst e2; rw [upd9_e rfl rfl, ur_e rfl rfl]
    · rw [upd9_n (by omega), ur_n (by omega)]; exact ls k l h0 h1 h2
theorem Hq.ar20 {q : Rst} {m : Mem} (h : Hq q m) {i : Int} {v : Int} : Hq (ur q 20 i v) (upd9 m 110 i v) := by
  obtain ⟨⟨p0, p1, p2, p3, p4, p5, p6, p7⟩, sl, ps, ds, a20, a22, a23, a42, a43, a44, ls⟩ := h
  refine ⟨⟨by rw [upd9_n (by omega)]; exact p0, by rw [upd9_n (by omega)]; exact p1, by rw [upd9_n (by omega)]; exact p2, by rw [upd9_n (by omega)]; exact p3, by rw [upd9_n (by omega)]; exact p4, by rw [upd9_n (by omega)]; exact p5, by rw [upd9_n (by omega)]; exact p6, by rw [upd9_n (by omega)]; exact p7⟩, fun i h0 h1 => by rw [upd9_n (by omega)]; exact sl i h0 h1, fun k hk => ?_, fun k hk => ?_, fun k => ?_, fun k => ?_, fun k => ?_, fun k => ?_, fun k => ?_, fun k => ?_, fun k l h0 h1 h2 => ?_⟩
  · have hk2 : k = 2 ∨ k = 6 ∨ (8 ≤ k ∧ k ≤ 19) := of_decide_eq_true hk
    have hk3 := qo_le hk
    rw [upd9_n (by omega), ur_n (by omega)]; exact ps k hk
  · have hk2 : (3 ≤ k ∧ k ≤ 8) ∨ k = 10 ∨ k = 11 := of_decide_eq_true hk
    rw [upd9_n (by omega), ur_n (by omega)]; exact ds k hk
  · by_cases e : k = i
    · subst e; rw [upd9_e rfl rfl, ur_e rfl rfl]
    · rw [upd9_n (by omega), ur_n (by omega)]; exact a20 k
  · rw [upd9_n (by omega), ur_n (by omega)]; exact a22 k
  · rw [upd9_n (by omega), ur_n (by omega)]; exact a23 k
  · rw [upd9_n (by omega), ur_n (by omega)]; exact a42 k
  · rw [upd9_n (by omega), ur_n (by omega)]; exact a43 k
  · rw [upd9_n (by omega), ur_n (by omega)]; exact a44 k
  · rw [upd9_n (by omega), ur_n (by omega)]; exact ls k l h0 h1 h2
theorem Hq.ar22 {q : Rst} {m : Mem} (h : Hq q m) {i : Int} {v : Int} : Hq (ur q 22 i v) (upd9 m 112 i v) := by
  obtain ⟨⟨p0, p1, p2, p3, p4, p5, p6, p7⟩, sl, ps, ds, a20, a22, a23, a42, a43, a44, ls⟩ := h
  refine ⟨⟨by rw [upd9_n (by omega)]; exact p0, by rw [upd9_n (by omega)]; exact p1, by rw [upd9_n (by omega)]; exact p2, by rw [upd9_n (by omega)]; exact p3, by rw [upd9_n (by omega)]; exact p4, by rw [upd9_n (by omega)]; exact p5, by rw [upd9_n (by omega)]; exact p6, by rw [upd9_n (by omega)]; exact p7⟩, fun i h0 h1 => by rw [upd9_n (by omega)]; exact sl i h0 h1, fun k hk => ?_, fun k hk => ?_, fun k => ?_, fun k => ?_, fun k => ?_, fun k => ?_, fun k => ?_, fun k => ?_, fun k l h0 h1 h2 => ?_⟩
  · have hk2 : k = 2 ∨ k = 6 ∨ (8 ≤ k ∧ k ≤ 19) := of_decide_eq_true hk
    have hk3 := qo_le hk
    rw [upd9_n (by omega), ur_n (by omega)]; exact ps k hk
  · have hk2 : (3 ≤ k ∧ k ≤ 8) ∨ k = 10 ∨ k = 11 := of_decide_eq_true hk
    rw [upd9_n (by omega), ur_n (by omega)]; exact ds k hk
  · rw [upd9_n (by omega), ur_n (by omega)]; exact a20 k
  · by_cases e : k = i
    · subst e; rw [upd9_e rfl rfl, ur_e rfl rfl]
    · rw [upd9_n (by omega), ur_n (by omega)]; exact a22 k
  · rw [upd9_n (by omega), ur_n (by omega)]; exact a23 k
  · rw [upd9_n (by omega), ur_n (by omega)]; exact a42 k
  · rw [upd9_n (by omega), ur_n (by omega)]; exact a43 k
  · rw [upd9_n (by omega), ur_n (by omega)]; exact a44 k
  · rw [upd9_n (by omega), ur_n (by omega)]; exact ls k l h0 h1 h2
theorem Hq.ar23 {q : Rst} {m : Mem} (h : Hq q m) {i : Int} {v : Int} : Hq (ur q 23 i v) (upd9 m 113 i v) := by
  obtain ⟨⟨p0, p1, p2, p3, p4, p5, p6, p7⟩, sl, ps, ds, a20, a22, a23, a42, a43, a44, ls⟩ := h
  refine ⟨⟨by rw [upd9_n (by omega)]; exact p0, by rw [upd9_n (by omega)]; exact p1, by rw [upd9_n (by omega)]; exact p2, by rw [upd9_n (by omega)]; exact p3, by rw [upd9_n (by omega)]; exact p4, by rw [upd9_n (by omega)]; exact p5, by rw [upd9_n (by omega)]; exact p6, by rw [upd9_n (by omega)]; exact p7⟩, fun i h0 h1 => by rw [upd9_n (by omega)]; exact sl i h0 h1, fun k hk => ?_, fun k hk => ?_, fun k => ?_, fun k => ?_, fun k => ?_, fun k => ?_, fun k => ?_, fun k => ?_, fun k l h0 h1 h2 => ?_⟩
  · have hk2 : k = 2 ∨ k = 6 ∨ (8 ≤ k ∧ k ≤ 19) := of_decide_eq_true hk
    have hk3 := qo_le hk
    rw [upd9_n (by omega), ur_n (by omega)]; exact ps k hk
  · have hk2 : (3 ≤ k ∧ k ≤ 8) ∨ k = 10 ∨ k = 11 := of_decide_eq_true hk
    rw [upd9_n (by omega), ur_n (by omega)]; exact ds k hk
  · rw [upd9_n (by omega), ur_n (by omega)]; exact a20 k
  · rw [upd9_n (by omega), ur_n (by omega)]; exact a22 k
  · by_cases e : k = i
    · subst e; rw [upd9_e rfl rfl, ur_e rfl rfl]
    · rw [upd9_n (by omega), ur_n (by omega)]; exact a23 k
  · rw [upd9_n (by omega), ur_n (by omega)]; exact a42 k
  · rw [upd9_n (by omega), ur_n (by omega)]; exact a43 k
  · rw [upd9_n (by omega), ur_n (by omega)]; exact a44 k
  · rw [upd9_n (by omega), ur_n (by omega)]; exact ls k l h0 h1 h2
theorem Hq.ar42 {q : Rst} {m : Mem} (h : Hq q m) {i : Int} {v : Int} : Hq (ur q 42 i v) (upd9 m 102 i v) := by
  obtain ⟨⟨p0, p1, p2, p3, p4, p5, p6, p7⟩, sl, ps, ds, a20, a22, a23, a42, a43, a44, ls⟩ := h
  refine ⟨⟨by rw [upd9_n (by omega)]; exact p0, by rw [upd9_n (by omega)]; exact p1, by rw [upd9_n (by omega)]; exact p2, by rw [upd9_n (by omega)]; exact p3, by rw [upd9_n (by omega)]; exact p4, by rw [upd9_n (by omega)]; exact p5, by rw [upd9_n (by omega)]; exact p6, by rw [upd9_n (by omega)]; exact p7⟩, fun i h0 h1 => by rw [upd9_n (by omega)]; exact sl i h0 h1, fun k hk => ?_, fun k hk => ?_, fun k => ?_, fun k => ?_, fun k => ?_, fun k => ?_, fun k => ?_, fun k => ?_, fun k l h0 h1 h2 => ?_⟩
  · have hk2 : k = 2 ∨ k = 6 ∨ (8 ≤ k ∧ k ≤ 19) := of_decide_eq_true hk
    have hk3 := qo_le hk
    rw [upd9_n (by omega), ur_n (by omega)]; exact ps k hk
  · have hk2 : (3 ≤ k ∧ k ≤ 8) ∨ k = 10 ∨ k = 11 := of_decide_eq_true hk
    rw [upd9_n (by omega), ur_n (by omega)]; exact ds k hk
  · rw [upd9_n (by omega), ur_n (by omega)]; exact a20 k
  · rw [upd9_n (by omega), ur_n (by omega)]; exact a22 k
  · rw [upd9_n (by omega), ur_n (by omega)]; exact a23 k
  · by_cases e : k = i
    · subst e; rw [upd9_e rfl rfl, ur_e rfl rfl]
    · rw [upd9_n (by omega), ur_n (by omega)]; exact a42 k
  · rw [upd9_n (by omega), ur_n (by omega)]; exact a43 k
  · rw [upd9_n (by omega), ur_n (by omega)]; exact a44 k
  · rw [upd9_n (by omega), ur_n (by omega)]; exact ls k l h0 h1 h2
theorem Hq.ar43 {q : Rst} {m : Mem} (h : Hq q m) {i : Int} {v : Int} : Hq (ur q 43 i v) (upd9 m 103 i v) := by
  obtain ⟨⟨p0, p1, p2, p3, p4, p5, p6, p7⟩, sl, ps, ds, a20, a22, a23, a42, a43, a44, ls⟩ := h
  refine ⟨⟨by rw [upd9_n (by omega)]; exact p0, by rw [upd9_n (by omega)]; exact p1, by rw [upd9_n (by omega)]; exact p2, by rw [upd9_n (by omega)]; exact p3, by rw [upd9_n (by omega)]; exact p4, by rw [upd9_n (by omega)]; exact p5, by rw [upd9_n (by omega)]; exact p6, by rw [upd9_n (by omega)]; exact p7⟩, fun i h0 h1 => by rw [upd9_n (by omega)]; exact sl i h0 h1, fun k hk => ?_, fun k hk => ?_, fun k => ?_, fun k => ?_, fun k => ?_, fun k => ?_, fun k => ?_, fun k => ?_, fun k l h0 h1 h2 => ?_⟩
  · have hk2 : k = 2 ∨ k = 6 ∨ (8 ≤ k ∧ k ≤ 19) := of_decide_eq_true hk
    have hk3 := qo_le hk
    rw [upd9_n (by omega), ur_n (by omega)]; exact ps k hk
  · have hk2 : (3 ≤ k ∧ k ≤ 8) ∨ k = 10 ∨ k = 11 := of_decide_eq_true hk
    rw [upd9_n (by omega), ur_n (by omega)]; exact ds k hk
  · rw [upd9_n (by omega), ur_n (by omega)]; exact a20 k
  · rw [upd9_n (by omega), ur_n (by omega)]; exact a22 k
  · rw [upd9_n (by omega), ur_n (by omega)]; exact a23 k
  · rw [upd9_n (by omega), ur_n (by omega)]; exact a42 k
  · by_cases e : k = i
    · subst e; rw [upd9_e rfl rfl, ur_e rfl rfl]
    · rw [upd9_n (by omega), ur_n (by omega)]; exact a43 k
  · rw [upd9_n (by omega), ur_n (by omega)]; exact a44 k
  · rw [upd9_n (by omega), ur_n (by omega)]; exact ls k l h0 h1 h2
theorem Hq.ar44 {q : Rst} {m : Mem} (h : Hq q m) {i : Int} {v : Int} : Hq (ur q 44 i v) (upd9 m 104 i v) := by
  obtain ⟨⟨p0, p1, p2, p3, p4, p5, p6, p7⟩, sl, ps, ds, a20, a22, a23, a42, a43, a44, ls⟩ := h
  refine ⟨⟨by rw [upd9_n (by omega)]; exact p0, by rw [upd9_n (by omega)]; exact p1, by rw [upd9_n (by omega)]; exact p2, by rw [upd9_n (by omega)]; exact p3, by rw [upd9_n (by omega)]; exact p4, by rw [upd9_n (by omega)]; exact p5, by rw [upd9_n (by omega)]; exact p6, by rw [upd9_n (by omega)]; exact p7⟩, fun i h0 h1 => by rw [upd9_n (by omega)]; exact sl i h0 h1, fun k hk => ?_, fun k hk => ?_, fun k => ?_, fun k => ?_, fun k => ?_, fun k => ?_, fun k => ?_, fun k => ?_, fun k l h0 h1 h2 => ?_⟩
  · have hk2 : k = 2 ∨ k = 6 ∨ (8 ≤ k ∧ k ≤ 19) := of_decide_eq_true hk
    have hk3 := qo_le hk
    rw [upd9_n (by omega), ur_n (by omega)]; exact ps k hk
  · have hk2 : (3 ≤ k ∧ k ≤ 8) ∨ k = 10 ∨ k = 11 := of_decide_eq_true hk
    rw [upd9_n (by omega), ur_n (by omega)]; exact ds k hk
  · rw [upd9_n (by omega), ur_n (by omega)]; exact a20 k
  · rw [upd9_n (by omega), ur_n (by omega)]; exact a22 k
  · rw [upd9_n (by omega), ur_n (by omega)]; exact a23 k
  · rw [upd9_n (by omega), ur_n (by omega)]; exact a42 k
  · rw [upd9_n (by omega), ur_n (by omega)]; exact a43 k
  · by_cases e : k = i
    · subst e; rw [upd9_e rfl rfl, ur_e rfl rfl]
    · rw [upd9_n (by omega), ur_n (by omega)]; exact a44 k
  · rw [upd9_n (by omega), ur_n (by omega)]; exact ls k l h0 h1 h2
theorem Lh_pl {q : Rst} {m : Mem} (hR : Hp q pg hs P H m) {j c : Nat} (hj : plS j = true) (hc : qo j = c) {i p v v' : Int} {K : Rst → Option G2} {K' : Mem → Option R2} (hi : i = j) (hp : p = 100) (hv : v' = v) (k : ∀ q1 m1, Hp q1 pg hs P H m1 → LiH pg hs P H (K q1) (K' m1) m1) : LiH pg hs P H (stg (ur q c 0 v) K) (st9 (upd9 m p i v') K') m := fun w r' e => by
  subst hc; subst hi; subst hp; subst hv
  have hj2 : j = 2 ∨ j = 6 ∨ (8 ≤ j ∧ j ≤ 19) := of_decide_eq_true hj
  obtain ⟨m', h1, h2, h3⟩ := k _ _ ⟨hR.1.pl hj, hR.2.1.upd (by omega), hR.2.2.1.upd (by omega), by rw [upd9_n (by omega)]; exact hR.2.2.2.1, by rw [upd9_n (by omega)]; exact hR.2.2.2.2⟩ w r' e
  exact ⟨m', h1, h2, (FrH.upd (by omega) (by omega)).tr h3⟩
theorem Lh_de {q : Rst} {m : Mem} (hR : Hp q pg hs P H m) {j : Nat} (hj : deS j = true) {i p v v' : Int} {K : Rst → Option G2} {K' : Mem → Option R2} (hi : i = j) (hp : p = 101) (hv : v' = v) (k : ∀ q1 m1, Hp q1 pg hs P H m1 → LiH pg hs P H (K q1) (K' m1) m1) : LiH pg hs P H (stg (ur q (30 + j) 0 v) K) (st9 (upd9 m p i v') K') m := fun w r' e => by
  subst hi; subst hp; subst hv
  have hj2 : (3 ≤ j ∧ j ≤ 8) ∨ j = 10 ∨ j = 11 := of_decide_eq_true hj
  obtain ⟨m', h1, h2, h3⟩ := k _ _ ⟨hR.1.de hj, hR.2.1.upd (by omega), hR.2.2.1.upd (by omega), by rw [upd9_n (by omega)]; exact hR.2.2.2.1, by rw [upd9_n (by omega)]; exact hR.2.2.2.2⟩ w r' e
  exact ⟨m', h1, h2, (FrH.upd (by omega) (by omega)).tr h3⟩
theorem Lh_sl {q : Rst} {m : Mem} (hR : Hp q pg hs P H m) {j : Nat} (hj : j < 8) {i i' p v v' : Int} {K : Rst → Option G2} {K' : Mem → Option R2} (hi' : i' = j) (h0 : 0 ≤ i) (h3 : i < 3) (hp : p = 130 + i) (hv : v' = v) (k : ∀ q1 m1, Hp q1 pg hs P H m1 → LiH pg hs P H (K q1) (K' m1) m1) : LiH pg hs P H (stg (ur q (50 + j) i v) K) (st9 (upd9 m p i' v') K') m := fun w r' e => by
  subst hi'; subst hp; subst hv
  obtain ⟨m', h1, h2, h3⟩ := k _ _ ⟨hR.1.sl h0 h3 hj, hR.2.1.upd (by omega), hR.2.2.1.upd (by omega), by rw [upd9_n (by omega)]; exact hR.2.2.2.1, by rw [upd9_n (by omega)]; exact hR.2.2.2.2⟩ w r' e
  exact ⟨m', h1, h2, (FrH.upd (by omega) (by omega)).tr h3⟩
theorem Lh_ar20 {q : Rst} {m : Mem} (hR : Hp q pg hs P H m) {i i' p v v' : Int} {K : Rst → Option G2} {K' : Mem → Option R2} (hp : p = 110) (hi : i' = i) (hv : v' = v) (k : ∀ q1 m1, Hp q1 pg hs P H m1 → LiH pg hs P H (K q1) (K' m1) m1) : LiH pg hs P H (stg (ur q 20 i v) K) (st9 (upd9 m p i' v') K') m := fun w r' e => by
  subst hp; subst hi; subst hv
  obtain ⟨m', h1, h2, h3⟩ := k _ _ ⟨hR.1.ar20, hR.2.1.upd (by omega), hR.2.2.1.upd (by omega), by rw [upd9_n (by omega)]; exact hR.2.2.2.1, by rw [upd9_n (by omega)]; exact hR.2.2.2.2⟩ w r' e
  exact ⟨m', h1, h2, (FrH.upd (by omega) (by omega)).tr h3⟩
theorem Lh_ar22 {q : Rst} {m : Mem} (hR : Hp q pg hs P H m) {i i' p v v' : Int} {K : Rst → Option G2} {K' : Mem → Option R2} (hp : p = 112) (hi : i' = i) (hv : v' = v) (k : ∀ q1 m1, Hp q1 pg hs P H m1 → LiH pg hs P H (K q1) (K' m1) m1) : LiH pg hs P H (stg (ur q 22 i v) K) (st9 (upd9 m p i' v') K') m := fun w r' e => by
  subst hp; subst hi; subst hv
  obtain ⟨m', h1, h2, h3⟩ := k _ _ ⟨hR.1.ar22, hR.2.1.upd (by omega), hR.2.2.1.upd (by omega), by rw [upd9_n (by omega)]; exact hR.2.2.2.1, by rw [upd9_n (by omega)]; exact hR.2.2.2.2⟩ w r' e
  exact ⟨m', h1, h2, (FrH.upd (by omega) (by omega)).tr h3⟩
theorem Lh_ar23 {q : Rst} {m : Mem} (hR : Hp q pg hs P H m) {i i' p v v' : Int} {K : Rst → Option G2} {K' : Mem → Option R2} (hp : p = 113) (hi : i' = i) (hv : v' = v) (k : ∀ q1 m1, Hp q1 pg hs P H m1 → LiH pg hs P H (K q1) (K' m1) m1) : LiH pg hs P H (stg (ur q 23 i v) K) (st9 (upd9 m p i' v') K') m := fun w r' e => by
  subst hp; subst hi; subst hv
  obtain ⟨m', h1, h2, h3⟩ := k _ _ ⟨hR.1.ar23, hR.2.1.upd (by omega), hR.2.2.1.upd (by omega), by rw [upd9_n (by omega)]; exact hR.2.2.2.1, by rw [upd9_n (by omega)]; exact hR.2.2.2.2⟩ w r' e
  exact ⟨m', h1, h2, (FrH.upd (by omega) (by omega)).tr h3⟩
theorem Lh_ar42 {q : Rst} {m : Mem} (hR : Hp q pg hs P H m) {i i' p v v' : Int} {K : Rst → Option G2} {K' : Mem → Option R2} (hp : p = 102) (hi : i' = i) (hv : v' = v) (k : ∀ q1 m1, Hp q1 pg hs P H m1 → LiH pg hs P H (K q1) (K' m1) m1) : LiH pg hs P H (stg (ur q 42 i v) K) (st9 (upd9 m p i' v') K') m := fun w r' e => by
  subst hp; subst hi; subst hv
  obtain ⟨m', h1, h2, h3⟩ := k _ _ ⟨hR.1.ar42, hR.2.1.upd (by omega), hR.2.2.1.upd (by omega), by rw [upd9_n (by omega)]; exact hR.2.2.2.1, by rw [upd9_n (by omega)]; exact hR.2.2.2.2⟩ w r' e
  exact ⟨m', h1, h2, (FrH.upd (by omega) (by omega)).tr h3⟩
theorem Lh_ar43 {q : Rst} {m : Mem} (hR : Hp q pg hs P H m) {i i' p v v' : Int} {K : Rst → Option G2} {K' : Mem → Option R2} (hp : p = 103) (hi : i' = i) (hv : v' = v) (k : ∀ q1 m1, Hp q1 pg hs P H m1 → LiH pg hs P H (K q1) (K' m1) m1) : LiH pg hs P H (stg (ur q 43 i v) K) (st9 (upd9 m p i' v') K') m := fun w r' e => by
  subst hp; subst hi; subst hv
  obtain ⟨m', h1, h2, h3⟩ := k _ _ ⟨hR.1.ar43, hR.2.1.upd (by omega), hR.2.2.1.upd (by omega), by rw [upd9_n (by omega)]; exact hR.2.2.2.1, by rw [upd9_n (by omega)]; exact hR.2.2.2.2⟩ w r' e
  exact ⟨m', h1, h2, (FrH.upd (by omega) (by omega)).tr h3⟩
theorem Lh_ar44 {q : Rst} {m : Mem} (hR : Hp q pg hs P H m) {i i' p v v' : Int} {K : Rst → Option G2} {K' : Mem → Option R2} (hp : p = 104) (hi : i' = i) (hv : v' = v) (k : ∀ q1 m1, Hp q1 pg hs P H m1 → LiH pg hs P H (K q1) (K' m1) m1) : LiH pg hs P H (stg (ur q 44 i v) K) (st9 (upd9 m p i' v') K') m := fun w r' e => by
  subst hp; subst hi; subst hv
  obtain ⟨m', h1, h2, h3⟩ := k _ _ ⟨hR.1.ar44, hR.2.1.upd (by omega), hR.2.2.1.upd (by omega), by rw [upd9_n (by omega)]; exact hR.2.2.2.1, by rw [upd9_n (by omega)]; exact hR.2.2.2.2⟩ w r' e
  exact ⟨m', h1, h2, (FrH.upd (by omega) (by omega)).tr h3⟩
theorem hD {q : Rst} {m : Mem} (h : Hp q pg hs P H m) : m 100 0 = 101 := h.1.1.1
theorem hSl {q : Rst} {m : Mem} (h : Hp q pg hs P H m) : m 100 3 = 111 := h.1.1.2.2.1
theorem hPA1 {q : Rst} {m : Mem} (h : Hp q pg hs P H m) : m 100 1 = 110 := h.1.1.2.1
theorem hPA4 {q : Rst} {m : Mem} (h : Hp q pg hs P H m) : m 100 4 = 112 := h.1.1.2.2.2.1
theorem hPA5 {q : Rst} {m : Mem} (h : Hp q pg hs P H m) : m 100 5 = 113 := h.1.1.2.2.2.2.1
theorem hDA0 {q : Rst} {m : Mem} (h : Hp q pg hs P H m) : m 101 0 = 102 := h.1.1.2.2.2.2.2.1
theorem hDA1 {q : Rst} {m : Mem} (h : Hp q pg hs P H m) : m 101 1 = 103 := h.1.1.2.2.2.2.2.2.1
theorem hDA2 {q : Rst} {m : Mem} (h : Hp q pg hs P H m) : m 101 2 = 104 := h.1.1.2.2.2.2.2.2.2
theorem hSi {q : Rst} {m : Mem} (h : Hp q pg hs P H m) {i : Int} (h0 : 0 ≤ i) (h1 : i < 3) : m 111 i = 130 + i := h.1.2.1 i h0 h1
theorem hs_2 {q : Rst} {m : Mem} (h : Hp q pg hs P H m) : m 100 2 = q 2 0 := h.1.2.2.1 2 rfl
theorem hs_6 {q : Rst} {m : Mem} (h : Hp q pg hs P H m) : m 100 6 = q 19 0 := h.1.2.2.1 6 rfl
theorem hs_8 {q : Rst} {m : Mem} (h : Hp q pg hs P H m) : m 100 8 = q 7 0 := h.1.2.2.1 8 rfl
theorem hs_9 {q : Rst} {m : Mem} (h : Hp q pg hs P H m) : m 100 9 = q 8 0 := h.1.2.2.1 9 rfl
theorem hs_10 {q : Rst} {m : Mem} (h : Hp q pg hs P H m) : m 100 10 = q 9 0 := h.1.2.2.1 10 rfl
theorem hs_11 {q : Rst} {m : Mem} (h : Hp q pg hs P H m) : m 100 11 = q 10 0 := h.1.2.2.1 11 rfl
theorem hs_12 {q : Rst} {m : Mem} (h : Hp q pg hs P H m) : m 100 12 = q 11 0 := h.1.2.2.1 12 rfl
theorem hs_13 {q : Rst} {m : Mem} (h : Hp q pg hs P H m) : m 100 13 = q 12 0 := h.1.2.2.1 13 rfl
theorem hs_14 {q : Rst} {m : Mem} (h : Hp q pg hs P H m) : m 100 14 = q 13 0 := h.1.2.2.1 14 rfl
theorem hs_15 {q : Rst} {m : Mem} (h : Hp q pg hs P H m) : m 100 15 = q 14 0 := h.1.2.2.1 15 rfl
theorem hs_16 {q : Rst} {m : Mem} (h : Hp q pg hs P H m) : m 100 16 = q 15 0 := h.1.2.2.1 16 rfl
theorem hs_17 {q : Rst} {m : Mem} (h : Hp q pg hs P H m) : m 100 17 = q 16 0 := h.1.2.2.1 17 rfl
theorem hs_18 {q : Rst} {m : Mem} (h : Hp q pg hs P H m) : m 100 18 = q 17 0 := h.1.2.2.1 18 rfl
theorem hs_19 {q : Rst} {m : Mem} (h : Hp q pg hs P H m) : m 100 19 = q 18 0 := h.1.2.2.1 19 rfl
theorem hd_3 {q : Rst} {m : Mem} (h : Hp q pg hs P H m) : m 101 3 = q 33 0 := h.1.2.2.2.1 3 rfl
theorem hd_4 {q : Rst} {m : Mem} (h : Hp q pg hs P H m) : m 101 4 = q 34 0 := h.1.2.2.2.1 4 rfl
theorem hd_5 {q : Rst} {m : Mem} (h : Hp q pg hs P H m) : m 101 5 = q 35 0 := h.1.2.2.2.1 5 rfl
theorem hd_6 {q : Rst} {m : Mem} (h : Hp q pg hs P H m) : m 101 6 = q 36 0 := h.1.2.2.2.1 6 rfl
theorem hd_7 {q : Rst} {m : Mem} (h : Hp q pg hs P H m) : m 101 7 = q 37 0 := h.1.2.2.2.1 7 rfl
theorem hd_8 {q : Rst} {m : Mem} (h : Hp q pg hs P H m) : m 101 8 = q 38 0 := h.1.2.2.2.1 8 rfl
theorem hd_10 {q : Rst} {m : Mem} (h : Hp q pg hs P H m) : m 101 10 = q 40 0 := h.1.2.2.2.1 10 rfl
theorem hd_11 {q : Rst} {m : Mem} (h : Hp q pg hs P H m) : m 101 11 = q 41 0 := h.1.2.2.2.1 11 rfl
theorem ha_20 {q : Rst} {m : Mem} (h : Hp q pg hs P H m) (i : Int) : m 110 i = q 20 i := h.1.2.2.2.2.1 i
theorem ha_22 {q : Rst} {m : Mem} (h : Hp q pg hs P H m) (i : Int) : m 112 i = q 22 i := h.1.2.2.2.2.2.1 i
theorem ha_23 {q : Rst} {m : Mem} (h : Hp q pg hs P H m) (i : Int) : m 113 i = q 23 i := h.1.2.2.2.2.2.2.1 i
theorem ha_42 {q : Rst} {m : Mem} (h : Hp q pg hs P H m) (i : Int) : m 102 i = q 42 i := h.1.2.2.2.2.2.2.2.1 i
theorem ha_43 {q : Rst} {m : Mem} (h : Hp q pg hs P H m) (i : Int) : m 103 i = q 43 i := h.1.2.2.2.2.2.2.2.2.1 i
theorem ha_44 {q : Rst} {m : Mem} (h : Hp q pg hs P H m) (i : Int) : m 104 i = q 44 i := h.1.2.2.2.2.2.2.2.2.2.1 i
theorem hl_0 {q : Rst} {m : Mem} (h : Hp q pg hs P H m) {i : Int} (h0 : 0 ≤ i) (h1 : i < 3) : m (130 + i) 0 = q 50 i := h.1.2.2.2.2.2.2.2.2.2.2 i 0 h0 h1 (by decide)
theorem hl_1 {q : Rst} {m : Mem} (h : Hp q pg hs P H m) {i : Int} (h0 : 0 ≤ i) (h1 : i < 3) : m (130 + i) 1 = q 51 i := h.1.2.2.2.2.2.2.2.2.2.2 i 1 h0 h1 (by decide)
theorem hl_2 {q : Rst} {m : Mem} (h : Hp q pg hs P H m) {i : Int} (h0 : 0 ≤ i) (h1 : i < 3) : m (130 + i) 2 = q 52 i := h.1.2.2.2.2.2.2.2.2.2.2 i 2 h0 h1 (by decide)
theorem hl_3 {q : Rst} {m : Mem} (h : Hp q pg hs P H m) {i : Int} (h0 : 0 ≤ i) (h1 : i < 3) : m (130 + i) 3 = q 53 i := h.1.2.2.2.2.2.2.2.2.2.2 i 3 h0 h1 (by decide)
theorem hl_4 {q : Rst} {m : Mem} (h : Hp q pg hs P H m) {i : Int} (h0 : 0 ≤ i) (h1 : i < 3) : m (130 + i) 4 = q 54 i := h.1.2.2.2.2.2.2.2.2.2.2 i 4 h0 h1 (by decide)
theorem hl_5 {q : Rst} {m : Mem} (h : Hp q pg hs P H m) {i : Int} (h0 : 0 ≤ i) (h1 : i < 3) : m (130 + i) 5 = q 55 i := h.1.2.2.2.2.2.2.2.2.2.2 i 5 h0 h1 (by decide)
theorem hl_6 {q : Rst} {m : Mem} (h : Hp q pg hs P H m) {i : Int} (h0 : 0 ≤ i) (h1 : i < 3) : m (130 + i) 6 = q 56 i := h.1.2.2.2.2.2.2.2.2.2.2 i 6 h0 h1 (by decide)
theorem hl_7 {q : Rst} {m : Mem} (h : Hp q pg hs P H m) {i : Int} (h0 : 0 ≤ i) (h1 : i < 3) : m (130 + i) 7 = q 57 i := h.1.2.2.2.2.2.2.2.2.2.2 i 7 h0 h1 (by decide)
theorem hP {q : Rst} {m : Mem} (h : Hp q pg hs P H m) : m 100 7 = P := h.2.2.2.1
theorem hH {q : Rst} {m : Mem} (h : Hp q pg hs P H m) : m 101 9 = H := h.2.2.2.2
theorem hPp {q : Rst} {m : Mem} (h : Hp q pg hs P H m) : 0 < P := by have := h.2.1.1; omega
theorem hPa0 {q : Rst} {m : Mem} (h : Hp q pg hs P H m) : m P 0 = P + 1 := h.2.1.2.1
theorem hPq0 {q : Rst} {m : Mem} (h : Hp q pg hs P H m) : 0 < P + 1 := by have := h.2.1.1; omega
theorem hPg0 {q : Rst} {m : Mem} (h : Hp q pg hs P H m) (i : Int) : m (P + 1) i = pg 0 i := h.2.1.2.2.2.2.2.1 i
theorem hPa1 {q : Rst} {m : Mem} (h : Hp q pg hs P H m) : m P 1 = P + 2 := h.2.1.2.2.1
theorem hPq1 {q : Rst} {m : Mem} (h : Hp q pg hs P H m) : 0 < P + 2 := by have := h.2.1.1; omega
theorem hPg1 {q : Rst} {m : Mem} (h : Hp q pg hs P H m) (i : Int) : m (P + 2) i = pg 1 i := h.2.1.2.2.2.2.2.2.1 i
theorem hPa2 {q : Rst} {m : Mem} (h : Hp q pg hs P H m) : m P 2 = P + 3 := h.2.1.2.2.2.1
theorem hPq2 {q : Rst} {m : Mem} (h : Hp q pg hs P H m) : 0 < P + 3 := by have := h.2.1.1; omega
theorem hPg2 {q : Rst} {m : Mem} (h : Hp q pg hs P H m) (i : Int) : m (P + 3) i = pg 2 i := h.2.1.2.2.2.2.2.2.2 i
theorem hPs {q : Rst} {m : Mem} (h : Hp q pg hs P H m) : m P 3 = pg 3 0 := h.2.1.2.2.2.2.1
theorem hHp {q : Rst} {m : Mem} (h : Hp q pg hs P H m) : 0 < H := by have := h.2.2.1.1; omega
theorem hHa0 {q : Rst} {m : Mem} (h : Hp q pg hs P H m) : m H 0 = H + 1 := h.2.2.1.2.1
theorem hHq0 {q : Rst} {m : Mem} (h : Hp q pg hs P H m) : 0 < H + 1 := by have := h.2.2.1.1; omega
theorem hHg0 {q : Rst} {m : Mem} (h : Hp q pg hs P H m) (i : Int) : m (H + 1) i = hs 0 i := h.2.2.1.2.2.2.2.2.1 i
theorem hHa1 {q : Rst} {m : Mem} (h : Hp q pg hs P H m) : m H 1 = H + 2 := h.2.2.1.2.2.1
theorem hHq1 {q : Rst} {m : Mem} (h : Hp q pg hs P H m) : 0 < H + 2 := by have := h.2.2.1.1; omega
theorem hHg1 {q : Rst} {m : Mem} (h : Hp q pg hs P H m) (i : Int) : m (H + 2) i = hs 1 i := h.2.2.1.2.2.2.2.2.2.1 i
theorem hHa2 {q : Rst} {m : Mem} (h : Hp q pg hs P H m) : m H 2 = H + 3 := h.2.2.1.2.2.2.1
theorem hHq2 {q : Rst} {m : Mem} (h : Hp q pg hs P H m) : 0 < H + 3 := by have := h.2.2.1.1; omega
theorem hHg2 {q : Rst} {m : Mem} (h : Hp q pg hs P H m) (i : Int) : m (H + 3) i = hs 2 i := h.2.2.1.2.2.2.2.2.2.2 i
theorem hHs {q : Rst} {m : Mem} (h : Hp q pg hs P H m) : m H 3 = hs 3 0 := h.2.2.1.2.2.2.2.1
end LH
