/-! the reference's play: what is among that which it decides (3) -/
theorem Pv.ste {I : Rst → Prop} {r : Rst} {k : Rst → Option G2} (h : ∀ z, z = r → Pv I (k z)) : Pv I (stg r k) := h r rfl
section JE
variable {A T M K : Int} {hx : Prop} {r : Rst}
/-- a new place among those that are waited for -/
theorem J.place {z : Rst} (h : J A T M K hx r) (h42 : r 42 0 = 0) (ez : ∀ j : Nat, j < 55 ∨ j = 62 ∨ 63 < j → z j = r j) (e55 : z 55 0 = r 55 0 + 1) (eo : ∀ (j : Nat) i, j = 56 ∨ j = 58 ∨ j = 59 ∨ j = 60 → i ≠ r 55 0 → z j i = r j i) (e59 : z 59 (r 55 0) = -1) : J A T M K hx z ∧ (hx → Ch z → ∃ i, i ≠ r 55 0 ∧ Sc M z i) := by
  have t0 := h.t0
  have hs : hx → Ch r → ∃ i, i ≠ r 55 0 ∧ Sc M z i := fun x y => by
    rcases (h.2.2.2.2 x y).1 with c | ⟨i, i0, i1, i2, i3, i4, i5⟩
    · omega
    · refine ⟨i, by omega, i0, by omega, ?_, ?_, ?_, ?_⟩
      · rw [eo 56 i (by omega) (by omega)]; exact i2
      · rw [eo 60 i (by omega) (by omega)]; exact i3
      · rw [eo 59 i (by omega) (by omega)]; exact i4
      · rw [eo 58 i (by omega) (by omega)]; exact i5
  refine ⟨h.gen (ez 51 (by omega)) (ez 52 (by omega)) (ez 53 (by omega)) (fun j a => ez j (by omega)) (fun a => by omega) (fun i a b => ?_) fun x y => ⟨Or.inr ?_, by rw [ez 41 (by omega)]⟩, fun x y => hs x ?_⟩
  · rw [ez 52 (by omega)]
    by_cases c : i = r 55 0
    · rw [c, e59]; omega
    · rw [eo 59 i (by omega) c]; exact h.mono59 i a (by omega)
  · obtain ⟨i, _, i1⟩ := hs x y
    exact ⟨i, i1⟩
  · unfold Ch at *
    rw [ez 76 (by omega), ez 72 (by omega)] at y
    exact y
theorem J_waitsFor {s : Int} (h : J A T M K hx r) (h42 : r 42 0 = 0) : Pv (fun r' => J A T M K hx r' ∧ r' 42 0 = 0) (G_waitsFor s r) := by
  unfold G_waitsFor G_waitsFor_0
  refine Pv.cag fun p r1 e => ?_
  have er : r1 = r := by
    unfold G_stepAt G_stepAt_0 at e
    obtain ⟨_, e⟩ := chk_some e
    obtain ⟨_, e⟩ := chk_some e
    cases e; rfl
  subst er
  refine Pv.chk fun _ => Pv.ste fun z1 e1 => Pv.chk fun hp => Pv.chk fun hw => Pv.ste fun z2 e2 => Pv.chk fun _ => Pv.ste fun z3 e3 => Pv.chk fun _ => Pv.ste fun z4 e4 => Pv.chk fun _ => Pv.chk fun _ => Pv.ste fun z5 e5 => Pv.chk fun _ => Pv.ste fun z6 e6 => Pv.chk fun _ => Pv.ste fun z7 e7 => Pv.chk fun _ => Pv.ste fun z e8 => Pv.chk fun _ => ?_
  have ez : ∀ j : Nat, j < 55 ∨ j = 62 ∨ 63 < j → z j = r1 j := fun j hj => by
    rw [e8, ur_ne (by omega), e7, ur_ne (by omega), e6, ur_ne (by omega), e5, ur_ne (by omega), e4, ur_ne (by omega), e3, ur_ne (by omega), e2, ur_ne (by omega), e1, ur_ne (by omega)]
  have e55 : z 55 0 = r1 55 0 + 1 := by
    rw [e8, ur_n (by omega), e7, ur_n (by omega), e6, ur_n (by omega), e5, ur_n (by omega), e4, ur_n (by omega), e3, ur_n (by omega), e2, ur_n (by omega), e1, ur_e rfl rfl]
  have eo : ∀ (j : Nat) i, j = 56 ∨ j = 58 ∨ j = 59 ∨ j = 60 → i ≠ r1 55 0 → z j i = r1 j i := fun j i hj hi => by
    rw [e8, ur_n (by omega), e7, ur_n (by omega), e6, ur_n (by omega), e5, ur_n (by omega), e4, ur_n (by omega), e3, ur_n (by omega), e2, ur_n (by omega), e1, ur_n (by omega)]
  have e59 : z 59 (r1 55 0) = -1 := by
    rw [e8, ur_n (by omega), e7, ur_n (by omega), e6, ur_n (by omega), e5, ur_n (by omega), e4, ur_n (by omega), e3, ur_e rfl rfl]
  have e60 : z 60 (r1 55 0) = 0 := by
    rw [e8, ur_n (by omega), e7, ur_n (by omega), e6, ur_e rfl rfl]
  have e56 : z 56 (r1 55 0) = z 2 p := by
    rw [ez 2 (by omega), e8, ur_n (by omega), e7, ur_n (by omega), e6, ur_n (by omega), e5, ur_n (by omega), e4, ur_n (by omega), e3, ur_n (by omega), e2, ur_e rfl rfl, e1, ur_n (by omega)]
  obtain ⟨hz, hs⟩ := h.place h42 ez e55 eo e59
  have z42 : z 42 0 = 0 := by rw [ez 42 (by omega)]; exact h42
  clear e1 e2 e3 e4 e5 e6 e7 e8
  generalize r1 55 0 = w at *
  have wt : ∀ a, Pv (fun r' => J A T M K hx r' ∧ r' 42 0 = 0) (cag (G_untaken a z) fun v76 r75 =>
      if v76 = (-1) then (chk9 (0 ≤ p ∧ p < 180) <| if r75 4 p ≤ 0 then (some (0, r75)) else chk9 (0 ≤ p ∧ p < 180) <| cag (G_setsTimer w (r75 4 p) r75) fun _ r83 => some (0, r83))
      else chk9 (0 ≤ v76 ∧ v76 < 80) <| stg (ur r75 67 v76 1) fun r89 => chk9 (0 ≤ v76 ∧ v76 < 80) <| cag (G_gets w (r89 66 v76) r89) fun _ r94 => some (0, r94)) := fun a => by
    refine Pv.cag fun v r2 e => ?_
    have := untaken_inv e
    subst this
    refine Pv.ite (fun _ => Pv.chk fun _ => Pv.ite (fun _ => Pv.ret ⟨hz, z42⟩) fun _ => Pv.chk fun _ => Pv.cag fun v r3 e3 => ?_) fun _ => Pv.chk fun _ => Pv.st (Pv.chk fun _ => Pv.cag fun v2 r3 e3 => ?_)
    · obtain ⟨k1, k2, _⟩ := J_setsTimer hz (hz.1.2.2.1 p hp.1 hp.2).2.2.2 z42 e55 hs v r3 e3
      exact Pv.ret ⟨k1, k2⟩
    · have := gets_inv e3
      subst this
      refine Pv.ret ⟨hz.over (s := w) (fun j hj => by rw [ur_ne (by omega), ur_ne (by omega), ur_ne (by omega), ur_ne (by omega)]) (fun i hi => by simp (disch := omega) only [ur_n]) (fun x y _ => hs x y), ?_⟩
      simp (disch := omega) only [ur_n]
      exact z42
  refine Pv.ite (fun c => ?_) fun _ => Pv.ite (fun _ => Pv.chk fun _ => Pv.cag fun v r3 e3 => ?_) fun _ => Pv.ite (fun _ => Pv.chk fun _ => wt _) fun _ => Pv.ite (fun c => ?_) fun _ => Pv.chk fun _ => wt _
  · refine Pv.chk fun _ => Pv.ste fun y1 f1 => Pv.chk fun _ => Pv.ste fun y f2 => Pv.chk fun _ => Pv.chk fun _ => Pv.cag fun v r3 e3 => ?_
    obtain ⟨_, rfl, rfl⟩ := dec_inv e3
    have ey : ∀ j : Nat, j ≠ 51 → j ≠ 58 → y j = z j := fun j a b => by rw [f2, ur_ne a, f1, ur_ne b]
    have y51 : y 51 0 = z 51 0 + 1 := by rw [f2, ur_e rfl rfl, f1, ur_n (by omega)]
    have y58 : ∀ i, i ≠ w → y 58 i = z 58 i := fun i hi => by rw [f2, ur_n (by omega), f1, ur_n (by omega)]
    refine Pv.ret ⟨hz.put (fun j a => ey j (by omega) (by omega)) (by rw [y51]; rfl) (by rw [ey 52 (by omega) (by omega)]; exact (Int.add_zero _).symm) (by rw [ey 53 (by omega) (by omega)]; exact (Int.add_zero _).symm) (by omega) (fun e => by omega) (fun e => by omega) (fun e => by omega) (fun e => by omega) (fun e => by omega) (by omega) (fun e => by omega) ?_ (fun u cc => Or.inr ?_) (fun _ _ => by rw [ey 41 (by omega) (by omega)]), ?_⟩
    · rw [ey 55 (by omega) (by omega), ey 59 (by omega) (by omega), ey 52 (by omega) (by omega)]; exact hz.mono59
    · have c2 : Ch z := by
        rcases cc with cc | cc
        · exact cc
        · omega
      obtain ⟨i, i0, i1⟩ := hs u c2
      refine ⟨i, ?_⟩
      unfold Sc at *
      rw [ey 55 (by omega) (by omega), ey 56 (by omega) (by omega), ey 60 (by omega) (by omega), ey 59 (by omega) (by omega), y58 i i0]
      exact i1
    · rw [gdec_n (by omega), ey 42 (by omega) (by omega)]; exact z42
  · obtain ⟨k1, k2, _⟩ := J_setsTimer hz (hz.1.2.2.1 p hp.1 hp.2).2.2.1 z42 e55 hs v r3 e3
    exact Pv.ret ⟨k1, k2⟩
  · refine Pv.chk fun _ => Pv.ste fun y1 f1 => Pv.chk fun _ => Pv.ste fun y f2 => Pv.chk fun _ => Pv.chk fun _ => Pv.cag fun v r3 e3 => ?_
    obtain ⟨_, rfl, rfl⟩ := dec_inv e3
    have ey : ∀ j : Nat, j ≠ 53 → j ≠ 58 → y j = z j := fun j a b => by rw [f2, ur_ne a, f1, ur_ne b]
    have y53 : y 53 0 = z 53 0 + 1 := by rw [f2, ur_e rfl rfl, f1, ur_n (by omega)]
    have y58 : y 58 w = z 53 0 := by rw [f2, ur_n (by omega), f1, ur_e rfl rfl]
    have pg := (hz.1.2.2.1 p hp.1 hp.2).1 c
    refine Pv.ret ⟨hz.put (fun j a => ey j (by omega) (by omega)) (by rw [ey 51 (by omega) (by omega)]; exact (Int.add_zero _).symm) (by rw [ey 52 (by omega) (by omega)]; exact (Int.add_zero _).symm) (by rw [y53]; rfl) (by omega) (fun e => by omega) (fun e => by omega) (fun e => by omega) (fun _ => ?_) (fun e => by omega) (by omega) (fun e => by omega) ?_ (fun u cc => Or.inr ⟨w, ?_⟩) (fun _ _ => by rw [ey 41 (by omega) (by omega)]), ?_⟩
    · rw [ey 3 (by omega) (by omega)]; exact pg
    · rw [ey 55 (by omega) (by omega), ey 59 (by omega) (by omega), ey 52 (by omega) (by omega)]; exact hz.mono59
    · unfold Sc
      rw [ey 55 (by omega) (by omega), ey 56 (by omega) (by omega), ey 60 (by omega) (by omega), ey 59 (by omega) (by omega), y58]
      have := hz.2.1.2.2
      have := cntP_0 (p := pM) (f := z 72) (n := (z 76 0).toNat)
      exact ⟨by omega, by omega, by rw [e56]; exact c, e60, e59, by omega⟩
    · rw [gdec_n (by omega), ey 42 (by omega) (by omega)]; exact z42
theorem areDone_inv {v : Int} {r1 : Rst} (e : G_areDone r = some (v, r1)) : r1 = r ∧ (v ≠ 0 → ∀ k, 0 ≤ k → k < r 55 0 → r 60 k ≠ 0) := by
  have go : ∀ (n : Nat) (l1 l2 : Int) (v : Int) (r1 : Rst), G_areDone_4 n l1 l2 r = some (v, r1) → r1 = r ∧ (v ≠ 0 → l1 ≠ 0 ∧ ∀ k, l2 ≤ k → k < r 55 0 → r 60 k ≠ 0) := by
    intro n
    induction n with
    | zero => intro l1 l2 v r1 e; rw [G_areDone_4] at e; cases e
    | succ n ih =>
      intro l1 l2 v r1 e
      rw [G_areDone_4] at e
      rcases ite_some e with ⟨c0, e⟩ | ⟨c0, e⟩
      · cases e
        exact ⟨rfl, fun h => ⟨h, fun k a b => by omega⟩⟩
      · rcases ite_some e with ⟨c1, e⟩ | ⟨c1, e⟩
        · obtain ⟨_, e⟩ := chk_some e
          obtain ⟨k1, k2⟩ := ih _ _ _ _ e
          exact ⟨k1, fun h => absurd rfl (k2 h).1⟩
        · obtain ⟨_, e⟩ := chk_some e
          rcases ite_some e with ⟨c2, e⟩ | ⟨c2, e⟩
          · obtain ⟨_, e⟩ := chk_some e
            obtain ⟨k1, k2⟩ := ih _ _ _ _ e
            exact ⟨k1, fun h => absurd rfl (k2 h).1⟩
          · obtain ⟨_, e⟩ := chk_some e
            obtain ⟨k1, k2⟩ := ih _ _ _ _ e
            refine ⟨k1, fun h => ⟨c1, fun k a b => ?_⟩⟩
            by_cases ek : k = l2
            · rw [ek]; exact c2
            · exact (k2 h).2 k (by omega) b
  unfold G_areDone at e
  unfold boolG at e
  split at e
  · rename_i v' r' e0
    rcases ite_some e with ⟨_, e⟩ | ⟨_, e⟩
    · cases e
      unfold G_areDone_0 at e0
      obtain ⟨k1, k2⟩ := go _ _ _ _ _ e0
      exact ⟨k1, fun h => (k2 h).2⟩
    · cases e
  · cases e
/-- nothing waits for a new child when all is over, or when nothing is waited for -/
theorem J.nc (h : J A T M K hx r) (h42 : r 42 0 = 0) (hd : ∀ k, 0 ≤ k → k < r 55 0 → r 60 k ≠ 0) : hx → ¬ Ch r := fun x y => by
  rcases (h.2.2.2.2 x y).1 with c | ⟨i, i0, i1, i2, i3, i4, i5⟩
  · exact c h42
  · exact hd i i0 i1 i3
theorem J_finishes (h : J A T M K hx r) (h42 : r 42 0 = 0) (nc : hx → ¬ Ch r) : Pv (J A T M K hx) (G_finishes r) := by
  have f63 : ∀ (l1 : Int) (r : Rst), J A T M K hx r → r 42 0 = 0 → (hx → ¬ Ch r) → Pv (J A T M K hx) (G_finishes_63 l1 r) := fun l1 r h h42 nc => by
    unfold G_finishes_63
    have hz : J A T M K hx (ur (ur r 55 0 0) 40 0 (ur r 55 0 0 64 0)) := by
      refine h.gen (by rw [ur_ne (by omega), ur_ne (by omega)]) (by rw [ur_ne (by omega), ur_ne (by omega)]) (by rw [ur_ne (by omega), ur_ne (by omega)]) (fun j a => by rw [ur_ne (by omega), ur_ne (by omega)]) (fun e => by omega) (fun i a b => ?_) fun x y => absurd y (nc x)
      rw [ur_n (by omega), ur_e rfl rfl] at b; omega
    refine Pv.st (Pv.st (Pv.ite (fun _ => Pv.ret hz) fun _ => Pv.cag fun v r1 e => ?_))
    exact Pv.ret (J_fails hz (by rw [ur_n (by omega), ur_n (by omega)]; omega) v r1 e).1
  have f4 : ∀ (n : Nat) (l1 l2 : Int) (r : Rst), J A T M K hx r → r 42 0 = 0 → (hx → ¬ Ch r) → Pv (J A T M K hx) (G_finishes_4 G_finishes_63 n l1 l2 r) := by
    intro n
    induction n with
    | zero => intro l1 l2 r _ _ _; rw [G_finishes_4]; exact Pv.no
    | succ n ih =>
      intro l1 l2 r h h42 nc
      rw [G_finishes_4]
      have f35 : ∀ s0, Pv (J A T M K hx) (G_finishes_35 (G_finishes_4 G_finishes_63 n) l1 l2 s0 r) := fun s0 => by
        unfold G_finishes_35
        have hz : J A T M K hx (ur r 41 0 s0) := h.gen (ur_ne (by omega)) (ur_ne (by omega)) (ur_ne (by omega)) (fun j a => ur_ne (by omega)) (fun e => by omega) (by rw [ur_ne (a := 55) (by omega), ur_ne (a := 59) (by omega), ur_ne (a := 52) (by omega)]; exact h.mono59) fun x y => absurd y (nc x)
        have z42 : ur r 41 0 s0 42 0 = 0 := by rw [ur_n (by omega)]; exact h42
        have zc : hx → ¬ Ch (ur r 41 0 s0) := fun x y => nc x (by unfold Ch at *; rw [ur_ne (a := 76) (by omega), ur_ne (a := 72) (by omega)] at y; exact y)
        refine Pv.st (Pv.ite (fun _ => Pv.chk fun _ => Pv.ite (fun _ => Pv.chk fun _ => ih _ _ _ hz z42 zc) fun _ => Pv.chk fun _ => ih _ _ _ hz z42 zc) fun _ => Pv.chk fun _ => ih _ _ _ hz z42 zc)
      exact Pv.ite (fun _ => f63 _ _ h h42 nc) fun _ => Pv.chk fun _ => Pv.ite (fun _ => f35 _) fun _ => Pv.chk fun _ => f35 _
  unfold G_finishes G_finishes_0
  exact f4 _ _ _ _ h h42 nc
theorem J_waitsAt {s : Int} (h : J A T M K hx r) (h42 : r 42 0 = 0) (h55 : r 55 0 = 0) : Pv (J A T M K hx) (G_waitsAt s r) := by
  have c62 : ∀ (l1 l2 : Int) (r : Rst), J A T M K hx r → r 42 0 = 0 → Pv (J A T M K hx) (G_waitsAt_62 l1 l2 r) := fun l1 l2 r h h42 => by
    unfold G_waitsAt_62
    refine Pv.chk fun _ => Pv.chk fun _ => Pv.st (Pv.cag fun v r1 e => ?_)
    have hz : J A T M K hx (ur r 64 0 (l1 + l2 + 1)) := h.fr fun j hj => ur_ne (by omega)
    obtain ⟨rfl, hd⟩ := areDone_inv e
    have z42 : ur r 64 0 (l1 + l2 + 1) 42 0 = 0 := by rw [ur_n (by omega)]; exact h42
    refine Pv.ite (fun _ => Pv.ret hz) fun c => Pv.cag fun v2 r2 e2 => Pv.ret (J_finishes hz z42 (hz.nc z42 (hd c)) v2 r2 e2)
  have c44 : ∀ (n : Nat) (l1 l2 l3 : Int) (r : Rst), J A T M K hx r → r 42 0 = 0 → Pv (J A T M K hx) (G_waitsAt_44 G_waitsAt_62 n l1 l2 l3 r) := by
    intro n
    induction n with
    | zero => intro l1 l2 l3 r _ _; rw [G_waitsAt_44]; exact Pv.no
    | succ n ih =>
      intro l1 l2 l3 r h h42
      rw [G_waitsAt_44]
      refine Pv.ite (fun _ => c62 _ _ _ h h42) fun _ => Pv.chk fun _ => Pv.cag fun v r1 e => Pv.chk fun _ => ?_
      obtain ⟨k1, k2⟩ := J_waitsFor h h42 v r1 e
      exact ih _ _ _ _ k1 k2
  have c28 : ∀ s0, Pv (J A T M K hx) (G_waitsAt_28 s s0 r) := fun s0 => by
    unfold G_waitsAt_28
    have hz : J A T M K hx (ur r 55 0 0) := by
      refine h.gen (ur_ne (by omega)) (ur_ne (by omega)) (ur_ne (by omega)) (fun j a => ur_ne (by omega)) (fun e => by omega) (fun i a b => ?_) fun x y => absurd y (h.nc h42 (fun k a b => by omega) x)
      rw [ur_e rfl rfl] at b; omega
    have z42 : ur r 55 0 0 42 0 = 0 := by rw [ur_n (by omega)]; exact h42
    exact Pv.st (Pv.ite (fun _ => c44 _ _ _ _ _ hz z42) fun _ => c44 _ _ _ _ _ hz z42)
  have st : ∀ {v r1}, G_stepAt s r = some (v, r1) → r1 = r := fun e => by
    unfold G_stepAt G_stepAt_0 at e
    obtain ⟨_, e⟩ := chk_some e
    obtain ⟨_, e⟩ := chk_some e
    cases e; rfl
  unfold G_waitsAt G_waitsAt_0
  refine Pv.cag fun v r1 e => Pv.chk fun _ => ?_
  have := st e
  subst this
  refine Pv.ite (fun _ => Pv.cag fun v2 r2 e2 => Pv.chk fun _ => ?_) fun _ => c28 _
  have := st e2
  subst this
  exact c28 _
end JE
