/-! the reference's play within its rows: marks and steps -/
theorem mk_bit0 (a : Fin 16) (b : Fin 4) : (Int32.ofInt ((Int32.ofInt (a.val : Int) >>> (Int32.ofInt (b.val : Int) &&& 31)).toInt) &&& Int32.ofInt 1).toInt = (if a.val.testBit b.val then 1 else 0) ∧ (Int32.ofInt (a.val : Int) ||| Int32.ofInt ((Int32.ofInt 1 <<< (Int32.ofInt (b.val : Int) &&& 31)).toInt)).toInt = ((a.val ||| (1 <<< b.val) : Nat) : Int) ∧ (a.val ||| (1 <<< b.val) : Nat) < 16 ∧ ∀ c : Fin 4, (a.val ||| (1 <<< b.val)).testBit c.val = (a.val.testBit c.val || decide (c = b)) := by
  revert a b
  decide +kernel
/-- whether a mark is among the marks -/
def mkd (v i : Int) : Bool := v.toNat.testBit i.toNat
theorem mk_bit {v i : Int} (h0 : 0 ≤ v) (h1 : v < 16) (h2 : 0 ≤ i) (h3 : i < 4) : (Int32.ofInt ((Int32.ofInt v >>> (Int32.ofInt i &&& 31)).toInt) &&& Int32.ofInt 1).toInt = (if mkd v i = true then 1 else 0) ∧ 0 ≤ (Int32.ofInt v ||| Int32.ofInt ((Int32.ofInt 1 <<< (Int32.ofInt i &&& 31)).toInt)).toInt ∧ (Int32.ofInt v ||| Int32.ofInt ((Int32.ofInt 1 <<< (Int32.ofInt i &&& 31)).toInt)).toInt < 16 ∧ ∀ c : Int, 0 ≤ c → c < 4 → mkd (Int32.ofInt v ||| Int32.ofInt ((Int32.ofInt 1 <<< (Int32.ofInt i &&& 31)).toInt)).toInt c = (mkd v c || decide (c = i)) := by
  obtain ⟨a, rfl⟩ := Int.eq_ofNat_of_zero_le h0
  obtain ⟨b, rfl⟩ := Int.eq_ofNat_of_zero_le h2
  obtain ⟨e1, e2, e3, e4⟩ := mk_bit0 ⟨a, by omega⟩ ⟨b, by omega⟩
  simp only at e1 e2 e3 e4
  rw [e1, e2]
  refine ⟨rfl, by omega, by omega, fun c hc hc2 => ?_⟩
  obtain ⟨d, rfl⟩ := Int.eq_ofNat_of_zero_le hc
  have e := e4 ⟨d, by omega⟩
  unfold mkd
  simp only [Int.toNat_natCast]
  rw [e]
  congr 1
  simp only [Fin.mk.injEq, Int.natCast_inj]
/-- where what is told stands -/
def Pt (r : Rst) : Prop := 0 ≤ r 78 0 ∧ r 78 0 ≤ 8000 ∧ r 79 0 ≤ 7200
theorem Pt.same {r r' : Rst} (h : Pt r) (k : SameP r r') : Pt r' := by
  unfold Pt
  rw [k 78 (by omega), k 79 (by omega)]
  exact h
theorem ok_isMarked65 {D T U S l1 s0 : Int} {r : Rst} (h : Bz D T U S r) (h0 : 0 ≤ l1) (h1 : l1 < 4) (hs : s0 = 0 ∨ s0 = 1) (hD : D < 5200) : Ok (G_isMarked_65 l1 s0 r) r fun v r' => (v = 0 ∨ v = 1) ∧ Bz (D + 1) T U S r' ∧ r' 76 0 ≤ r 76 0 + 1 ∧ ∀ j : Nat, j < 48 ∨ 76 < j ∨ (48 < j ∧ j < 72) → r' j = r j := by
  unfold G_isMarked_65
  have b := h.2.2.2.2.2.2.1
  have e := mk_bit b.1 b.2 h0 h1
  refine Ok.ite (fun _ => Ok.ret ⟨hs, h.mono (by omega) (by omega) (by omega) (by omega), by omega, fun j hj => rfl⟩) fun _ => Ok.st (by decide) (by decide) (by decide) (by decide) (by decide) (by decide) ?_
  refine Ok.cag (ok_decides (h.v48 e.2.1 e.2.2.1) hD) fun v r' _ _ hp => Ok.ret ⟨hs, hp.1, ?_, fun j hj => ?_⟩
  · rw [hp.2.1]; simp (disch := omega) only [ur_n]; omega
  · rw [hp.2.2 j (by omega), ur_ne (by omega)]
theorem ok_isMarked {D T U S l1 : Int} {r : Rst} (h : Bz D T U S r) (p : Pt r) (h0 : 0 ≤ l1) (h1 : l1 < 4) (hD : D < 5200) : Ok (G_isMarked l1 r) r fun v r' => (v = 0 ∨ v = 1) ∧ Bz (D + 1) T U S r' ∧ r' 76 0 ≤ r 76 0 + 1 ∧ ∀ j : Nat, j < 48 ∨ 76 < j ∨ (48 < j ∧ j < 72) → r' j = r j := by
  unfold G_isMarked G_isMarked_0
  have b := h.1
  obtain ⟨p1, p2, p3⟩ := p
  refine Ok.boolG (Ok.ite (fun _ => Ok.ret ⟨Or.inr rfl, h.mono (by omega) (by omega) (by omega) (by omega), by omega, fun j hj => rfl⟩) fun _ => Ok.chk (by omega) (Ok.ite (fun _ => Ok.ite (fun _ => ?_) fun _ => Ok.chk (by omega) (Ok.ite (fun _ => Ok.chk (by omega) (Ok.ite (fun _ => ?_) fun _ => ?_)) fun _ => ?_)) fun _ => ?_))
  all_goals exact ok_isMarked65 h h0 h1 (by omega) hD
theorem ok_againOrFails {D T U S : Int} {r : Rst} (h : Bz D T U S r) (hw : r 55 0 = 0) (hD : D < 5200) (hU : U ≤ 5200) (hT : T ≤ 1000000) : Ok (G_againOrFails r) r fun _ r' => Bd (D + 1) (T + 1) U S r' ∧ r' 55 0 = 0 ∧ r' 76 0 = r 76 0 + 1 := by
  unfold G_againOrFails G_againOrFails_0
  refine Ok.ite (fun _ => Ok.cag (ok_fails h (by omega) hD hU hT) fun _ r' _ _ hp => Ok.ret ⟨hp.1, hp.2.2⟩) fun _ => Ok.cag (ok_ends h hw h.2.2.2.2.2.2.2.2.1 hD) fun _ r' _ _ hp => Ok.ret ⟨hp.1.mono (by omega) (by omega) (by omega) (by omega), hp.2.2⟩
theorem ok_held {v : Int} {r : Rst} : Ok (G_held v r) r fun w r' => r' = r ∧ -999 ≤ w ∧ w ≤ 999 := by
  unfold G_held G_held_0
  exact Ok.ite (fun _ => Ok.ite (fun _ => Ok.ret ⟨rfl, by omega, by omega⟩) fun _ => Ok.ret ⟨rfl, by omega, by omega⟩) fun _ => Ok.ret ⟨rfl, by omega, by omega⟩
theorem Bd.at {D T U S : Int} {r : Rst} (h : Bz D T U S r) (hm : r 42 0 = 0) (hw : r 55 0 = 0) (h0 : 0 ≤ r 40 0) (h1 : r 40 0 ≤ r 5 (r 77 0)) : Bd D T U S r := ⟨h, by unfold Md; omega⟩
theorem Ok.st6 {r : Rst} {j : Nat} {i v : Int} {k : Rst → Option G2} {P : Int → Rst → Prop} (hj : (40 ≤ j ∧ j < 72 ∧ j ≠ 44) ∨ j = 75) (h : Ok (k (ur r j i v)) (ur r j i v) P) : Ok (stg (ur r j i v) k) r P :=
  Ok.st (by omega) (by omega) (by omega) (by omega) (by omega) (by omega) h
theorem ok_passes {D T U S s : Int} {r : Rst} (h : Bz D T U S r) (g : PgR r) (p : Pt r) (hs0 : 0 ≤ s) (hs1 : s < r 5 (r 77 0)) (hm : r 42 0 = 0) (hw : r 55 0 = 0) (hD : D + 4 ≤ 5200) (hU : U < 5200) (hT : T ≤ 80000) (hS : S ≤ 80) : Ok (G_passes s r) r fun _ r' => Bd (D + 4) (T + 4) (U + 1) S r' ∧ (r' 55 0 = 0 ∧ r' 76 0 ≤ r 76 0 + 1 ∨ r' 42 0 = 0 ∧ 0 < r' 55 0 ∧ r' 76 0 ≤ r 76 0 + 3) := by
  have hg := g.k hs0 hs1
  have gs := g.2.2.2.2 s hs0 hs1
  have b41 := h.2.2.2.2.2.2.2.2.1
  have b71 := h.2.2.2.2.1
  have b45 := h.2.2.2.2.2.2.2.1
  have g12 := g.2.2.2.1
  unfold G_passes G_passes_0 G_stepAt G_stepAt_0
  rw [chk_t (by omega), chk_t (by omega), cag_e, chk_t (by omega)]
  generalize hcc : 12 * r 77 0 + s = c at *
  have hb : Bz D T U S (ur r 40 0 (s + 1)) := h.oth (j := 40) rfl
  have done : ∀ r' : Rst, Bz (D + 1) T (U + 1) S r' → r' 42 0 = 0 → r' 55 0 = 0 → 0 ≤ r' 40 0 → r' 40 0 ≤ r' 5 (r' 77 0) → r' 76 0 ≤ r 76 0 + 1 → Bd (D + 4) (T + 4) (U + 1) S r' ∧ (r' 55 0 = 0 ∧ r' 76 0 ≤ r 76 0 + 1 ∨ r' 42 0 = 0 ∧ 0 < r' 55 0 ∧ r' 76 0 ≤ r 76 0 + 3) := fun r' h1 h2 h3 h4 h5 h6 =>
    ⟨Bd.at (h1.mono (by omega) (by omega) (by omega) (by omega)) h2 h3 h4 h5, Or.inl ⟨h3, h6⟩⟩
  have e2 : ur r 40 0 (s + 1) 2 = r 2 := ur_ne (by omega)
  have e3 : ur r 40 0 (s + 1) 3 = r 3 := ur_ne (by omega)
  have e4 : ur r 40 0 (s + 1) 4 = r 4 := ur_ne (by omega)
  have e5 : ur r 40 0 (s + 1) 5 = r 5 := ur_ne (by omega)
  have e40 : ur r 40 0 (s + 1) 40 0 = s + 1 := ur_e rfl rfl
  have e41 : ur r 40 0 (s + 1) 41 = r 41 := ur_ne (by omega)
  have e42 : ur r 40 0 (s + 1) 42 = r 42 := ur_ne (by omega)
  have e45 : ur r 40 0 (s + 1) 45 = r 45 := ur_ne (by omega)
  have e55 : ur r 40 0 (s + 1) 55 = r 55 := ur_ne (by omega)
  have e71 : ur r 40 0 (s + 1) 71 = r 71 := ur_ne (by omega)
  have e76 : ur r 40 0 (s + 1) 76 = r 76 := ur_ne (by omega)
  have e77 : ur r 40 0 (s + 1) 77 = r 77 := ur_ne (by omega)
  refine Ok.st6 (by omega) (Ok.chk (by omega) ?_)
  have hx : ∀ x, x = ur r 40 0 (s + 1) → SameP r x := fun x e => by rw [e]; exact SameP.rf.ur (by decide) (by decide)
  generalize hxx : ur r 40 0 (s + 1) = x at *
  have hx := hx x rfl
  rw [e2, e3, e4]
  refine Ok.ite (fun k5 => Ok.chk (by omega) (Ok.ite (fun _ => Ok.chk (by omega) (Ok.st6 (by omega) (Ok.ret ?_))) fun _ => Ok.chk (by omega) (Ok.chk (by omega) (Ok.st6 (by omega) (Ok.ret ?_))))) fun n5 => ?_
  · refine done _ ((hb.oth (j := 40) rfl).mono (by omega) (by omega) (by omega) (by omega)) ?_ ?_ ?_ ?_ ?_ <;> simp (disch := omega) only [ur_n, ur_e, e42, e55, e40, e5, e77, e76] <;> omega
  · refine done _ ((hb.oth (j := 40) rfl).mono (by omega) (by omega) (by omega) (by omega)) ?_ ?_ ?_ ?_ ?_ <;> simp (disch := omega) only [ur_n, ur_e, e42, e55, e40, e5, e77, e76] <;> omega
  refine Ok.ite (fun k6 => Ok.chk (by omega) (Ok.ite (fun _ => Ok.st6 (by omega) (Ok.ret ?_)) fun _ => Ok.chk (by omega) (Ok.chk (by omega) (Ok.st6 (by omega) (Ok.ret ?_))))) fun n6 => ?_
  · refine done _ ((hb.oth (j := 40) rfl).mono (by omega) (by omega) (by omega) (by omega)) ?_ ?_ ?_ ?_ ?_ <;> simp (disch := omega) only [ur_n, ur_e, e42, e55, e40, e5, e77, e76] <;> omega
  · refine done _ ((hb.oth (j := 40) rfl).mono (by omega) (by omega) (by omega) (by omega)) ?_ ?_ ?_ ?_ ?_ <;> simp (disch := omega) only [ur_n, ur_e, e42, e55, e40, e5, e77, e76] <;> omega
  refine Ok.ite (fun k7 => Ok.chk (by omega) (Ok.st6 (by omega) (Ok.ret ?_))) fun n7 => ?_
  · refine done _ ((hb.v41 (by omega) (by omega)).mono (by omega) (by omega) (by omega) (by omega)) ?_ ?_ ?_ ?_ ?_ <;> simp (disch := omega) only [ur_n, ur_e, e42, e55, e40, e5, e77, e76] <;> omega
  refine Ok.ite (fun k8 => Ok.chk (by omega) (Ok.chk (by rw [e41]; omega) (Ok.cag ok_held fun v r' _ _ hp => ?_))) fun n8 => ?_
  · rw [hp.1]
    refine Ok.st6 (by omega) (Ok.ret (done _ ((hb.v41 (by omega) (by omega)).mono (by omega) (by omega) (by omega) (by omega)) ?_ ?_ ?_ ?_ ?_)) <;> simp (disch := omega) only [ur_n, ur_e, e42, e55, e40, e5, e77, e76] <;> omega
  refine Ok.ite (fun k9 => Ok.chk (by omega) (Ok.chk (by rw [e71]; omega) (Ok.st6 (by omega) (Ok.chk (by omega) (Ok.chk (by simp (disch := omega) only [ur_n, e71]; omega) (Ok.st6 (by omega) (Ok.chk (by simp (disch := omega) only [ur_n, e71]; omega) (Ok.st6 (by omega) (Ok.ret ?_))))))))) fun n9 => ?_
  · refine done _ (((((hb.oth (j := 69) rfl).oth (j := 70) rfl).v71 (U2 := U + 1) ?_ ?_)).mono (by omega) (by omega) (by omega) (by omega)) ?_ ?_ ?_ ?_ ?_ <;> simp (disch := omega) only [ur_n, ur_e, e42, e55, e40, e5, e77, e76, e71] <;> omega
  refine Ok.ite (fun k10 => Ok.chk (by omega) (Ok.cag (ok_isMarked hb (p.same hx) (by omega) (by omega) (by omega)) fun v r' hsp _ hp => ?_)) fun n10 => ?_
  · obtain ⟨q1, q2, q3, q4⟩ := hp
    rw [q4 4 (by omega), e4, e40]
    have done2 : ∀ v, 0 ≤ v → v ≤ r 5 (r 77 0) → Ok (stg (ur r' 40 0 v) fun r76 => some (0, r76)) r' fun _ r' => Bd (D + 4) (T + 4) (U + 1) S r' ∧ (r' 55 0 = 0 ∧ r' 76 0 ≤ r 76 0 + 1 ∨ r' 42 0 = 0 ∧ 0 < r' 55 0 ∧ r' 76 0 ≤ r 76 0 + 3) := fun v h0 h1 => by
      refine Ok.st6 (by omega) (Ok.ret (done _ ((q2.oth (j := 40) rfl).mono (by omega) (by omega) (by omega) (by omega)) ?_ ?_ ?_ ?_ ?_)) <;> simp (disch := omega) only [ur_n, ur_e, q4 42 (by omega), q4 55 (by omega), q4 5 (by omega), q4 77 (by omega), e42, e55, e5, e77] <;> (try rw [e76] at q3) <;> omega
    exact Ok.ite (fun _ => Ok.chk (by omega) (Ok.chk (by omega) (done2 _ (by omega) (by omega)))) fun _ => Ok.chk (by omega) (done2 _ (by omega) (by omega))
  refine Ok.ite (fun k11 => Ok.chk (by omega) (Ok.ite (fun _ => Ok.st6 (by omega) (Ok.ret ?_)) fun _ => Ok.chk (by omega) (Ok.st6 (by omega) (Ok.ret ?_)))) fun n11 => ?_
  · refine done _ ((hb.v45 (by first | omega | (rw [e45]; omega)) (by first | omega | (rw [e45]; omega))).mono (by omega) (by omega) (by omega) (by omega)) ?_ ?_ ?_ ?_ ?_ <;> simp (disch := omega) only [ur_n, ur_e, e42, e55, e40, e5, e77, e76] <;> omega
  · refine done _ ((hb.v45 (by first | omega | (rw [e45]; omega)) (by first | omega | (rw [e45]; omega))).mono (by omega) (by omega) (by omega) (by omega)) ?_ ?_ ?_ ?_ ?_ <;> simp (disch := omega) only [ur_n, ur_e, e42, e55, e40, e5, e77, e76] <;> omega
  have dec : ∀ a b k, Ok (G_passes_324 a b k x) x fun _ r' => Bd (D + 4) (T + 4) (U + 1) S r' ∧ (r' 55 0 = 0 ∧ r' 76 0 ≤ r 76 0 + 1 ∨ r' 42 0 = 0 ∧ 0 < r' 55 0 ∧ r' 76 0 ≤ r 76 0 + 3) := fun a b k => by
    unfold G_passes_324
    refine Ok.cag (ok_decides hb (by omega)) fun v r' _ _ hp => Ok.ret (done _ (hp.1.mono (by omega) (by omega) (by omega) (by omega)) ?_ ?_ ?_ ?_ ?_)
    · rw [hp.2.2 42 (by omega), e42]; exact hm
    · rw [hp.2.2 55 (by omega), e55]; exact hw
    · rw [hp.2.2 40 (by omega), e40]; omega
    · rw [hp.2.2 40 (by omega), e40, hp.2.2 5 (by omega), hp.2.2 77 (by omega), e5, e77]; omega
    · rw [hp.2.1, e76]; omega
  refine Ok.ite (fun k12 => Ok.chk (by omega) (Ok.chk (by omega) (Ok.ite (fun _ => dec _ _ _) fun _ => Ok.chk (by omega) (dec _ _ _)))) fun n12 => ?_
  refine Ok.ite (fun k13 => Ok.chk (by omega) (Ok.cag (ok_fails hb (by omega) (by omega) (by omega) (by omega)) fun v r' _ _ hp => Ok.ret ⟨hp.1.mono (by omega) (by omega) (by omega) (by omega), Or.inl ⟨hp.2.2.1, by rw [hp.2.2.2, e76]; omega⟩⟩)) fun n13 => ?_
  refine Ok.ite (fun k14 => Ok.cag (ok_againOrFails hb (by rw [e55]; exact hw) (by omega) (by omega) (by omega)) fun v r' _ _ hp => Ok.ret ⟨hp.1.mono (by omega) (by omega) (by omega) (by omega), Or.inl ⟨hp.2.1, by rw [hp.2.2, e76]; omega⟩⟩) fun n14 => ?_
  refine Ok.ite (fun k15 => Ok.cag (ok_ends hb (by rw [e55]; exact hw) hb.2.2.2.2.2.2.2.2.1 (by omega)) fun v r' _ _ hp => Ok.ret ⟨hp.1.mono (by omega) (by omega) (by omega) (by omega), Or.inl ⟨hp.2.2.1, by rw [hp.2.2.2, e76]; omega⟩⟩) fun n15 => ?_
  refine Ok.st6 (by omega) ?_
  have hy : SameP r (ur x 40 0 s) := hx.ur (by decide) (by decide)
  refine Ok.cag (ok_waitsAt (hb.oth (j := 40) rfl) (g.same hy) hs0 ?_ ?_ ?_ hD (by omega) (by omega) hS) fun v r' _ _ hp => Ok.ret ⟨hp.1.mono (by omega) (by omega) (by omega) (by omega), ?_⟩
  · rw [hy 5 (by omega), hy 77 (by omega)]; exact hs1
  · rw [hy 2 (by omega), hy 77 (by omega), hcc]; omega
  · simp (disch := omega) only [ur_n, e42]; exact hm
  · have hp2 := hp.2
    simp (disch := omega) only [ur_n, e76] at hp2
    exact hp2
