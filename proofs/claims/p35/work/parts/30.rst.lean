/-! the reference's fields as a state of their own, and the relation of its functions over them (G_..) to those over the memory (X12_..) -/
abbrev Rst : Type := Nat → Int → Int
abbrev G2 : Type := Int × Rst
def ur (r : Rst) (j : Nat) (i v : Int) : Rst := fun a b => if a = j ∧ b = i then v else r a b
def stg {α : Type} (r : Rst) (k : Rst → Option α) : Option α := k r
def cag {α : Type} (o : Option G2) (k : Int → Rst → Option α) : Option α := match o with
  | some (v, r) => k v r
  | none => none
def boolG (o : Option G2) : Option G2 := match o with
  | some (v, r) => if v = 0 ∨ v = 1 then some (v, r) else none
  | none => none
def arr9 (j : Nat) : Bool := decide (100000 ≤ fty 12 j)
def Rp (r : Rst) (m : Mem) : Prop := ∀ j : Nat, j < 84 → (arr9 j = true → m 10 j = 10 + j ∧ ∀ i, m (10 + j) i = r j i) ∧ (arr9 j = false → m 10 j = r j 0)
/-- only the reference's own places differ -/
def Fr (m m' : Mem) : Prop := ∀ i, i < 10 ∨ 94 < i → ∀ j, m' i j = m i j
theorem Fr.rf {m : Mem} : Fr m m := fun _ _ _ => rfl
theorem Fr.tr {m m1 m2 : Mem} (h : Fr m m1) (k : Fr m1 m2) : Fr m m2 := fun i hi j => (k i hi j).trans (h i hi j)
def LiR (o : Option G2) (o' : Option R2) (m : Mem) : Prop := ∀ v r', o = some (v, r') → ∃ m', o' = some (v, m') ∧ Rp r' m' ∧ Fr m m'
theorem Li_none {o' : Option R2} {m : Mem} : LiR none o' m := fun _ _ h => by cases h
theorem Li_chk {c c' : Prop} [Decidable c] [Decidable c'] {a : Option G2} {a' : Option R2} {m : Mem} (h : c → c') (k : c → LiR a a' m) : LiR (chk9 c a) (chk9 c' a') m := fun v r' e => by
  obtain ⟨hc, e⟩ := chk_some e
  unfold chk9
  rw [if_pos (h hc)]
  exact k hc v r' e
theorem Li_chkX {c' : Prop} [Decidable c'] {a : Option G2} {a' : Option R2} {m : Mem} (h : c') (k : LiR a a' m) : LiR a (chk9 c' a') m := fun v r' e => by
  unfold chk9
  rw [if_pos h]
  exact k v r' e
theorem Li_ite {c c' : Prop} [Decidable c] [Decidable c'] {a b : Option G2} {a' b' : Option R2} {m : Mem} (h : c' ↔ c) (k1 : LiR a a' m) (k2 : LiR b b' m) : LiR (if c then a else b) (if c' then a' else b') m := fun v r' e => by
  rcases ite_some e with ⟨hc, e⟩ | ⟨hc, e⟩
  · rw [if_pos (h.mpr hc)]; exact k1 v r' e
  · rw [if_neg (fun h2 => hc (h.mp h2))]; exact k2 v r' e
theorem Li_ret {r : Rst} {m : Mem} {v v' : Int} (hv : v' = v) (hR : Rp r m) : LiR (some (v, r)) (some (v', m)) m := fun w r' e => by
  cases e
  exact ⟨m, by rw [hv], hR, Fr.rf⟩
theorem Rp.sc {r : Rst} {m : Mem} (h : Rp r m) {j : Nat} (ha : arr9 j = false) (hj : j < 84) {v : Int} : Rp (ur r j 0 v) (upd9 m 10 j v) := by
  intro k hk
  refine ⟨fun hb => ?_, fun hb => ?_⟩
  · have hne : k ≠ j := by intro e; rw [e, ha] at hb; cases hb
    obtain ⟨h1, h2⟩ := (h k hk).1 hb
    refine ⟨?_, fun i => ?_⟩
    · rw [upd9_neb (by omega)]; exact h1
    · have hk0 : k ≠ 0 := by intro e; rw [e] at hb; revert hb; decide
      rw [upd9_ne (by omega), h2 i]
      unfold ur
      rw [if_neg (fun hh => hne hh.1)]
  · by_cases e : k = j
    · subst e
      rw [upd9_eq]
      unfold ur
      rw [if_pos ⟨rfl, rfl⟩]
    · rw [upd9_neb (by omega)]
      unfold ur
      rw [if_neg (fun hh => e hh.1)]
      exact (h k hk).2 hb
theorem Rp.ar {r : Rst} {m : Mem} (h : Rp r m) {j : Nat} (ha : arr9 j = true) (hj : j < 84) {i v : Int} : Rp (ur r j i v) (upd9 m (10 + j) i v) := by
  have hj0 : j ≠ 0 := by intro e; rw [e] at ha; revert ha; decide
  intro k hk
  refine ⟨fun hb => ?_, fun hb => ?_⟩
  · obtain ⟨h1, h2⟩ := (h k hk).1 hb
    refine ⟨?_, fun i2 => ?_⟩
    · rw [upd9_ne (by omega)]; exact h1
    · have hg := h2 i2
      unfold upd9 ur
      by_cases e : k = j ∧ i2 = i
      · rw [if_pos e, if_pos ⟨by omega, e.2⟩]
      · rw [if_neg e, if_neg (fun hh => e ⟨by omega, hh.2⟩)]; exact hg
  · have hne : k ≠ j := by intro e; rw [e, ha] at hb; cases hb
    rw [upd9_ne (by omega)]
    unfold ur
    rw [if_neg (fun hh => hne hh.1)]
    exact (h k hk).2 hb
theorem Li_sts {r : Rst} {m : Mem} (hR : Rp r m) {j : Nat} (ha : arr9 j = false) (hj : j < 84) {v v' : Int} {i : Int} {K : Rst → Option G2} {K' : Mem → Option R2} (hi : i = j) (hv : v' = v) (k : ∀ r1 m1, Rp r1 m1 → LiR (K r1) (K' m1) m1) : LiR (stg (ur r j 0 v) K) (st9 (upd9 m 10 i v') K') m := fun w r' e => by
  subst hi; subst hv
  obtain ⟨m', h1, h2, h3⟩ := k _ _ (hR.sc ha hj) w r' e
  exact ⟨m', h1, h2, Fr.tr (fun i hi b => upd9_ne (by omega)) h3⟩
theorem Li_sta {r : Rst} {m : Mem} (hR : Rp r m) {j : Nat} (ha : arr9 j = true) (hj : j < 84) {p i i' v v' : Int} {K : Rst → Option G2} {K' : Mem → Option R2} (hp : p = 10 + j) (hi : i' = i) (hv : v' = v) (k : ∀ r1 m1, Rp r1 m1 → LiR (K r1) (K' m1) m1) : LiR (stg (ur r j i v) K) (st9 (upd9 m p i' v') K') m := fun w r' e => by
  subst hp; subst hi; subst hv
  obtain ⟨m', h1, h2, h3⟩ := k _ _ (hR.ar ha hj) w r' e
  exact ⟨m', h1, h2, Fr.tr (fun i hi b => upd9_ne (by omega)) h3⟩
theorem Li_cal {o : Option G2} {o' : Option R2} {m : Mem} {K : Int → Rst → Option G2} {K' : Int → Mem → Option R2} (h : LiR o o' m) (k : ∀ v r1 m1, Rp r1 m1 → LiR (K v r1) (K' v m1) m1) : LiR (cag o K) (cal o' K') m := fun w r' e => by
  unfold cag at e
  split at e
  · rename_i v r1
    obtain ⟨m1, h1, h2, h3⟩ := h v r1 rfl
    obtain ⟨m', k1, k2, k3⟩ := k v r1 m1 h2 w r' e
    refine ⟨m', ?_, k2, h3.tr k3⟩
    rw [h1]; exact k1
  · cases e
theorem Li_bool {o : Option G2} {o' : Option R2} {m : Mem} (h : LiR o o' m) : LiR (boolG o) (boolR o') m := fun w r' e => by
  unfold boolG at e
  split at e
  · rename_i v r1
    rcases ite_some e with ⟨hc, e⟩ | ⟨hc, e⟩
    · cases e
      obtain ⟨m1, h1, h2, h3⟩ := h _ _ rfl
      refine ⟨m1, ?_, h2, h3⟩
      rw [h1]
      exact if_pos hc
    · cases e
  · cases e
theorem ss_0 {r : Rst} {m : Mem} (h : Rp r m) : m 10 0 = r 0 0 := (h 0 (by decide)).2 rfl
theorem ss_1 {r : Rst} {m : Mem} (h : Rp r m) : m 10 1 = r 1 0 := (h 1 (by decide)).2 rfl
theorem pp_2 {r : Rst} {m : Mem} (h : Rp r m) : m 10 2 = 12 := ((h 2 (by decide)).1 rfl).1
theorem aa_2 {r : Rst} {m : Mem} (h : Rp r m) (i : Int) : m 12 i = r 2 i := ((h 2 (by decide)).1 rfl).2 i
theorem pp_3 {r : Rst} {m : Mem} (h : Rp r m) : m 10 3 = 13 := ((h 3 (by decide)).1 rfl).1
theorem aa_3 {r : Rst} {m : Mem} (h : Rp r m) (i : Int) : m 13 i = r 3 i := ((h 3 (by decide)).1 rfl).2 i
theorem pp_4 {r : Rst} {m : Mem} (h : Rp r m) : m 10 4 = 14 := ((h 4 (by decide)).1 rfl).1
theorem aa_4 {r : Rst} {m : Mem} (h : Rp r m) (i : Int) : m 14 i = r 4 i := ((h 4 (by decide)).1 rfl).2 i
theorem pp_5 {r : Rst} {m : Mem} (h : Rp r m) : m 10 5 = 15 := ((h 5 (by decide)).1 rfl).1
theorem aa_5 {r : Rst} {m : Mem} (h : Rp r m) (i : Int) : m 15 i = r 5 i := ((h 5 (by decide)).1 rfl).2 i
theorem pp_6 {r : Rst} {m : Mem} (h : Rp r m) : m 10 6 = 16 := ((h 6 (by decide)).1 rfl).1
theorem aa_6 {r : Rst} {m : Mem} (h : Rp r m) (i : Int) : m 16 i = r 6 i := ((h 6 (by decide)).1 rfl).2 i
theorem pp_7 {r : Rst} {m : Mem} (h : Rp r m) : m 10 7 = 17 := ((h 7 (by decide)).1 rfl).1
theorem aa_7 {r : Rst} {m : Mem} (h : Rp r m) (i : Int) : m 17 i = r 7 i := ((h 7 (by decide)).1 rfl).2 i
theorem pp_8 {r : Rst} {m : Mem} (h : Rp r m) : m 10 8 = 18 := ((h 8 (by decide)).1 rfl).1
theorem aa_8 {r : Rst} {m : Mem} (h : Rp r m) (i : Int) : m 18 i = r 8 i := ((h 8 (by decide)).1 rfl).2 i
theorem pp_9 {r : Rst} {m : Mem} (h : Rp r m) : m 10 9 = 19 := ((h 9 (by decide)).1 rfl).1
theorem aa_9 {r : Rst} {m : Mem} (h : Rp r m) (i : Int) : m 19 i = r 9 i := ((h 9 (by decide)).1 rfl).2 i
theorem pp_10 {r : Rst} {m : Mem} (h : Rp r m) : m 10 10 = 20 := ((h 10 (by decide)).1 rfl).1
theorem aa_10 {r : Rst} {m : Mem} (h : Rp r m) (i : Int) : m 20 i = r 10 i := ((h 10 (by decide)).1 rfl).2 i
theorem pp_11 {r : Rst} {m : Mem} (h : Rp r m) : m 10 11 = 21 := ((h 11 (by decide)).1 rfl).1
theorem aa_11 {r : Rst} {m : Mem} (h : Rp r m) (i : Int) : m 21 i = r 11 i := ((h 11 (by decide)).1 rfl).2 i
theorem pp_12 {r : Rst} {m : Mem} (h : Rp r m) : m 10 12 = 22 := ((h 12 (by decide)).1 rfl).1
theorem aa_12 {r : Rst} {m : Mem} (h : Rp r m) (i : Int) : m 22 i = r 12 i := ((h 12 (by decide)).1 rfl).2 i
theorem pp_13 {r : Rst} {m : Mem} (h : Rp r m) : m 10 13 = 23 := ((h 13 (by decide)).1 rfl).1
theorem aa_13 {r : Rst} {m : Mem} (h : Rp r m) (i : Int) : m 23 i = r 13 i := ((h 13 (by decide)).1 rfl).2 i
theorem pp_14 {r : Rst} {m : Mem} (h : Rp r m) : m 10 14 = 24 := ((h 14 (by decide)).1 rfl).1
theorem aa_14 {r : Rst} {m : Mem} (h : Rp r m) (i : Int) : m 24 i = r 14 i := ((h 14 (by decide)).1 rfl).2 i
theorem pp_15 {r : Rst} {m : Mem} (h : Rp r m) : m 10 15 = 25 := ((h 15 (by decide)).1 rfl).1
theorem aa_15 {r : Rst} {m : Mem} (h : Rp r m) (i : Int) : m 25 i = r 15 i := ((h 15 (by decide)).1 rfl).2 i
theorem ss_16 {r : Rst} {m : Mem} (h : Rp r m) : m 10 16 = r 16 0 := (h 16 (by decide)).2 rfl
theorem pp_17 {r : Rst} {m : Mem} (h : Rp r m) : m 10 17 = 27 := ((h 17 (by decide)).1 rfl).1
theorem aa_17 {r : Rst} {m : Mem} (h : Rp r m) (i : Int) : m 27 i = r 17 i := ((h 17 (by decide)).1 rfl).2 i
theorem pp_18 {r : Rst} {m : Mem} (h : Rp r m) : m 10 18 = 28 := ((h 18 (by decide)).1 rfl).1
theorem aa_18 {r : Rst} {m : Mem} (h : Rp r m) (i : Int) : m 28 i = r 18 i := ((h 18 (by decide)).1 rfl).2 i
theorem pp_19 {r : Rst} {m : Mem} (h : Rp r m) : m 10 19 = 29 := ((h 19 (by decide)).1 rfl).1
theorem aa_19 {r : Rst} {m : Mem} (h : Rp r m) (i : Int) : m 29 i = r 19 i := ((h 19 (by decide)).1 rfl).2 i
theorem pp_20 {r : Rst} {m : Mem} (h : Rp r m) : m 10 20 = 30 := ((h 20 (by decide)).1 rfl).1
theorem aa_20 {r : Rst} {m : Mem} (h : Rp r m) (i : Int) : m 30 i = r 20 i := ((h 20 (by decide)).1 rfl).2 i
theorem pp_21 {r : Rst} {m : Mem} (h : Rp r m) : m 10 21 = 31 := ((h 21 (by decide)).1 rfl).1
theorem aa_21 {r : Rst} {m : Mem} (h : Rp r m) (i : Int) : m 31 i = r 21 i := ((h 21 (by decide)).1 rfl).2 i
theorem pp_22 {r : Rst} {m : Mem} (h : Rp r m) : m 10 22 = 32 := ((h 22 (by decide)).1 rfl).1
theorem aa_22 {r : Rst} {m : Mem} (h : Rp r m) (i : Int) : m 32 i = r 22 i := ((h 22 (by decide)).1 rfl).2 i
theorem pp_23 {r : Rst} {m : Mem} (h : Rp r m) : m 10 23 = 33 := ((h 23 (by decide)).1 rfl).1
theorem aa_23 {r : Rst} {m : Mem} (h : Rp r m) (i : Int) : m 33 i = r 23 i := ((h 23 (by decide)).1 rfl).2 i
theorem pp_24 {r : Rst} {m : Mem} (h : Rp r m) : m 10 24 = 34 := ((h 24 (by decide)).1 rfl).1
theorem aa_24 {r : Rst} {m : Mem} (h : Rp r m) (i : Int) : m 34 i = r 24 i := ((h 24 (by decide)).1 rfl).2 i
theorem pp_25 {r : Rst} {m : Mem} (h : Rp r m) : m 10 25 = 35 := ((h 25 (by decide)).1 rfl).1
theorem aa_25 {r : Rst} {m : Mem} (h : Rp r m) (i : Int) : m 35 i = r 25 i := ((h 25 (by decide)).1 rfl).2 i
theorem pp_26 {r : Rst} {m : Mem} (h : Rp r m) : m 10 26 = 36 := ((h 26 (by decide)).1 rfl).1
theorem aa_26 {r : Rst} {m : Mem} (h : Rp r m) (i : Int) : m 36 i = r 26 i := ((h 26 (by decide)).1 rfl).2 i
theorem pp_27 {r : Rst} {m : Mem} (h : Rp r m) : m 10 27 = 37 := ((h 27 (by decide)).1 rfl).1
theorem aa_27 {r : Rst} {m : Mem} (h : Rp r m) (i : Int) : m 37 i = r 27 i := ((h 27 (by decide)).1 rfl).2 i
theorem pp_28 {r : Rst} {m : Mem} (h : Rp r m) : m 10 28 = 38 := ((h 28 (by decide)).1 rfl).1
theorem aa_28 {r : Rst} {m : Mem} (h : Rp r m) (i : Int) : m 38 i = r 28 i := ((h 28 (by decide)).1 rfl).2 i
theorem ss_29 {r : Rst} {m : Mem} (h : Rp r m) : m 10 29 = r 29 0 := (h 29 (by decide)).2 rfl
theorem pp_30 {r : Rst} {m : Mem} (h : Rp r m) : m 10 30 = 40 := ((h 30 (by decide)).1 rfl).1
theorem aa_30 {r : Rst} {m : Mem} (h : Rp r m) (i : Int) : m 40 i = r 30 i := ((h 30 (by decide)).1 rfl).2 i
theorem pp_31 {r : Rst} {m : Mem} (h : Rp r m) : m 10 31 = 41 := ((h 31 (by decide)).1 rfl).1
theorem aa_31 {r : Rst} {m : Mem} (h : Rp r m) (i : Int) : m 41 i = r 31 i := ((h 31 (by decide)).1 rfl).2 i
theorem pp_32 {r : Rst} {m : Mem} (h : Rp r m) : m 10 32 = 42 := ((h 32 (by decide)).1 rfl).1
theorem aa_32 {r : Rst} {m : Mem} (h : Rp r m) (i : Int) : m 42 i = r 32 i := ((h 32 (by decide)).1 rfl).2 i
theorem pp_33 {r : Rst} {m : Mem} (h : Rp r m) : m 10 33 = 43 := ((h 33 (by decide)).1 rfl).1
theorem aa_33 {r : Rst} {m : Mem} (h : Rp r m) (i : Int) : m 43 i = r 33 i := ((h 33 (by decide)).1 rfl).2 i
theorem pp_34 {r : Rst} {m : Mem} (h : Rp r m) : m 10 34 = 44 := ((h 34 (by decide)).1 rfl).1
theorem aa_34 {r : Rst} {m : Mem} (h : Rp r m) (i : Int) : m 44 i = r 34 i := ((h 34 (by decide)).1 rfl).2 i
theorem pp_35 {r : Rst} {m : Mem} (h : Rp r m) : m 10 35 = 45 := ((h 35 (by decide)).1 rfl).1
theorem aa_35 {r : Rst} {m : Mem} (h : Rp r m) (i : Int) : m 45 i = r 35 i := ((h 35 (by decide)).1 rfl).2 i
theorem pp_36 {r : Rst} {m : Mem} (h : Rp r m) : m 10 36 = 46 := ((h 36 (by decide)).1 rfl).1
theorem aa_36 {r : Rst} {m : Mem} (h : Rp r m) (i : Int) : m 46 i = r 36 i := ((h 36 (by decide)).1 rfl).2 i
theorem pp_37 {r : Rst} {m : Mem} (h : Rp r m) : m 10 37 = 47 := ((h 37 (by decide)).1 rfl).1
theorem aa_37 {r : Rst} {m : Mem} (h : Rp r m) (i : Int) : m 47 i = r 37 i := ((h 37 (by decide)).1 rfl).2 i
theorem pp_38 {r : Rst} {m : Mem} (h : Rp r m) : m 10 38 = 48 := ((h 38 (by decide)).1 rfl).1
theorem aa_38 {r : Rst} {m : Mem} (h : Rp r m) (i : Int) : m 48 i = r 38 i := ((h 38 (by decide)).1 rfl).2 i
theorem pp_39 {r : Rst} {m : Mem} (h : Rp r m) : m 10 39 = 49 := ((h 39 (by decide)).1 rfl).1
theorem aa_39 {r : Rst} {m : Mem} (h : Rp r m) (i : Int) : m 49 i = r 39 i := ((h 39 (by decide)).1 rfl).2 i
theorem ss_40 {r : Rst} {m : Mem} (h : Rp r m) : m 10 40 = r 40 0 := (h 40 (by decide)).2 rfl
theorem ss_41 {r : Rst} {m : Mem} (h : Rp r m) : m 10 41 = r 41 0 := (h 41 (by decide)).2 rfl
theorem ss_42 {r : Rst} {m : Mem} (h : Rp r m) : m 10 42 = r 42 0 := (h 42 (by decide)).2 rfl
theorem ss_43 {r : Rst} {m : Mem} (h : Rp r m) : m 10 43 = r 43 0 := (h 43 (by decide)).2 rfl
theorem ss_44 {r : Rst} {m : Mem} (h : Rp r m) : m 10 44 = r 44 0 := (h 44 (by decide)).2 rfl
theorem ss_45 {r : Rst} {m : Mem} (h : Rp r m) : m 10 45 = r 45 0 := (h 45 (by decide)).2 rfl
theorem ss_46 {r : Rst} {m : Mem} (h : Rp r m) : m 10 46 = r 46 0 := (h 46 (by decide)).2 rfl
theorem ss_47 {r : Rst} {m : Mem} (h : Rp r m) : m 10 47 = r 47 0 := (h 47 (by decide)).2 rfl
theorem ss_48 {r : Rst} {m : Mem} (h : Rp r m) : m 10 48 = r 48 0 := (h 48 (by decide)).2 rfl
theorem ss_49 {r : Rst} {m : Mem} (h : Rp r m) : m 10 49 = r 49 0 := (h 49 (by decide)).2 rfl
theorem ss_50 {r : Rst} {m : Mem} (h : Rp r m) : m 10 50 = r 50 0 := (h 50 (by decide)).2 rfl
theorem ss_51 {r : Rst} {m : Mem} (h : Rp r m) : m 10 51 = r 51 0 := (h 51 (by decide)).2 rfl
theorem ss_52 {r : Rst} {m : Mem} (h : Rp r m) : m 10 52 = r 52 0 := (h 52 (by decide)).2 rfl
theorem ss_53 {r : Rst} {m : Mem} (h : Rp r m) : m 10 53 = r 53 0 := (h 53 (by decide)).2 rfl
theorem ss_54 {r : Rst} {m : Mem} (h : Rp r m) : m 10 54 = r 54 0 := (h 54 (by decide)).2 rfl
theorem ss_55 {r : Rst} {m : Mem} (h : Rp r m) : m 10 55 = r 55 0 := (h 55 (by decide)).2 rfl
theorem pp_56 {r : Rst} {m : Mem} (h : Rp r m) : m 10 56 = 66 := ((h 56 (by decide)).1 rfl).1
theorem aa_56 {r : Rst} {m : Mem} (h : Rp r m) (i : Int) : m 66 i = r 56 i := ((h 56 (by decide)).1 rfl).2 i
theorem pp_57 {r : Rst} {m : Mem} (h : Rp r m) : m 10 57 = 67 := ((h 57 (by decide)).1 rfl).1
theorem aa_57 {r : Rst} {m : Mem} (h : Rp r m) (i : Int) : m 67 i = r 57 i := ((h 57 (by decide)).1 rfl).2 i
theorem pp_58 {r : Rst} {m : Mem} (h : Rp r m) : m 10 58 = 68 := ((h 58 (by decide)).1 rfl).1
theorem aa_58 {r : Rst} {m : Mem} (h : Rp r m) (i : Int) : m 68 i = r 58 i := ((h 58 (by decide)).1 rfl).2 i
theorem pp_59 {r : Rst} {m : Mem} (h : Rp r m) : m 10 59 = 69 := ((h 59 (by decide)).1 rfl).1
theorem aa_59 {r : Rst} {m : Mem} (h : Rp r m) (i : Int) : m 69 i = r 59 i := ((h 59 (by decide)).1 rfl).2 i
theorem pp_60 {r : Rst} {m : Mem} (h : Rp r m) : m 10 60 = 70 := ((h 60 (by decide)).1 rfl).1
theorem aa_60 {r : Rst} {m : Mem} (h : Rp r m) (i : Int) : m 70 i = r 60 i := ((h 60 (by decide)).1 rfl).2 i
theorem pp_61 {r : Rst} {m : Mem} (h : Rp r m) : m 10 61 = 71 := ((h 61 (by decide)).1 rfl).1
theorem aa_61 {r : Rst} {m : Mem} (h : Rp r m) (i : Int) : m 71 i = r 61 i := ((h 61 (by decide)).1 rfl).2 i
theorem pp_62 {r : Rst} {m : Mem} (h : Rp r m) : m 10 62 = 72 := ((h 62 (by decide)).1 rfl).1
theorem aa_62 {r : Rst} {m : Mem} (h : Rp r m) (i : Int) : m 72 i = r 62 i := ((h 62 (by decide)).1 rfl).2 i
theorem pp_63 {r : Rst} {m : Mem} (h : Rp r m) : m 10 63 = 73 := ((h 63 (by decide)).1 rfl).1
theorem aa_63 {r : Rst} {m : Mem} (h : Rp r m) (i : Int) : m 73 i = r 63 i := ((h 63 (by decide)).1 rfl).2 i
theorem ss_64 {r : Rst} {m : Mem} (h : Rp r m) : m 10 64 = r 64 0 := (h 64 (by decide)).2 rfl
theorem pp_65 {r : Rst} {m : Mem} (h : Rp r m) : m 10 65 = 75 := ((h 65 (by decide)).1 rfl).1
theorem aa_65 {r : Rst} {m : Mem} (h : Rp r m) (i : Int) : m 75 i = r 65 i := ((h 65 (by decide)).1 rfl).2 i
theorem pp_66 {r : Rst} {m : Mem} (h : Rp r m) : m 10 66 = 76 := ((h 66 (by decide)).1 rfl).1
theorem aa_66 {r : Rst} {m : Mem} (h : Rp r m) (i : Int) : m 76 i = r 66 i := ((h 66 (by decide)).1 rfl).2 i
theorem pp_67 {r : Rst} {m : Mem} (h : Rp r m) : m 10 67 = 77 := ((h 67 (by decide)).1 rfl).1
theorem aa_67 {r : Rst} {m : Mem} (h : Rp r m) (i : Int) : m 77 i = r 67 i := ((h 67 (by decide)).1 rfl).2 i
theorem ss_68 {r : Rst} {m : Mem} (h : Rp r m) : m 10 68 = r 68 0 := (h 68 (by decide)).2 rfl
theorem pp_69 {r : Rst} {m : Mem} (h : Rp r m) : m 10 69 = 79 := ((h 69 (by decide)).1 rfl).1
theorem aa_69 {r : Rst} {m : Mem} (h : Rp r m) (i : Int) : m 79 i = r 69 i := ((h 69 (by decide)).1 rfl).2 i
theorem pp_70 {r : Rst} {m : Mem} (h : Rp r m) : m 10 70 = 80 := ((h 70 (by decide)).1 rfl).1
theorem aa_70 {r : Rst} {m : Mem} (h : Rp r m) (i : Int) : m 80 i = r 70 i := ((h 70 (by decide)).1 rfl).2 i
theorem ss_71 {r : Rst} {m : Mem} (h : Rp r m) : m 10 71 = r 71 0 := (h 71 (by decide)).2 rfl
theorem pp_72 {r : Rst} {m : Mem} (h : Rp r m) : m 10 72 = 82 := ((h 72 (by decide)).1 rfl).1
theorem aa_72 {r : Rst} {m : Mem} (h : Rp r m) (i : Int) : m 82 i = r 72 i := ((h 72 (by decide)).1 rfl).2 i
theorem pp_73 {r : Rst} {m : Mem} (h : Rp r m) : m 10 73 = 83 := ((h 73 (by decide)).1 rfl).1
theorem aa_73 {r : Rst} {m : Mem} (h : Rp r m) (i : Int) : m 83 i = r 73 i := ((h 73 (by decide)).1 rfl).2 i
theorem pp_74 {r : Rst} {m : Mem} (h : Rp r m) : m 10 74 = 84 := ((h 74 (by decide)).1 rfl).1
theorem aa_74 {r : Rst} {m : Mem} (h : Rp r m) (i : Int) : m 84 i = r 74 i := ((h 74 (by decide)).1 rfl).2 i
theorem pp_75 {r : Rst} {m : Mem} (h : Rp r m) : m 10 75 = 85 := ((h 75 (by decide)).1 rfl).1
theorem aa_75 {r : Rst} {m : Mem} (h : Rp r m) (i : Int) : m 85 i = r 75 i := ((h 75 (by decide)).1 rfl).2 i
theorem ss_76 {r : Rst} {m : Mem} (h : Rp r m) : m 10 76 = r 76 0 := (h 76 (by decide)).2 rfl
theorem ss_77 {r : Rst} {m : Mem} (h : Rp r m) : m 10 77 = r 77 0 := (h 77 (by decide)).2 rfl
theorem ss_78 {r : Rst} {m : Mem} (h : Rp r m) : m 10 78 = r 78 0 := (h 78 (by decide)).2 rfl
theorem ss_79 {r : Rst} {m : Mem} (h : Rp r m) : m 10 79 = r 79 0 := (h 79 (by decide)).2 rfl
theorem ss_80 {r : Rst} {m : Mem} (h : Rp r m) : m 10 80 = r 80 0 := (h 80 (by decide)).2 rfl
theorem pp_81 {r : Rst} {m : Mem} (h : Rp r m) : m 10 81 = 91 := ((h 81 (by decide)).1 rfl).1
theorem aa_81 {r : Rst} {m : Mem} (h : Rp r m) (i : Int) : m 91 i = r 81 i := ((h 81 (by decide)).1 rfl).2 i
theorem ss_82 {r : Rst} {m : Mem} (h : Rp r m) : m 10 82 = r 82 0 := (h 82 (by decide)).2 rfl
theorem ss_83 {r : Rst} {m : Mem} (h : Rp r m) : m 10 83 = r 83 0 := (h 83 (by decide)).2 rfl
