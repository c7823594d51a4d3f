/-! what becomes of all that a run has begun: as sets, whatever the order -/
section EQ
variable {N N' : Int} {uf : Int → Int} {r r' z r0 r1 r2 : Rst} {m m' m0 : Mem} {w n k x y q s b c a v row I R o t l u f W E M p nu pa L : Int} {A A' T T' S S' C C' X X' : Int → Prop}
/-- a child that still belongs to the latest run and is RUNNING -/
def Lv (r : Rst) (f c : Int) : Prop := 0 ≤ c ∧ c < r 16 0 ∧ r 9 c = f ∧ r 10 c = r 12 f ∧ r 17 (rw9 r c) = 20
def fate (r : Rst) (c : Int) : Int := r 34 (80 * r 9 c + r 11 c)
def DsS (r : Rst) (f c : Int) : Prop := Lv r f c ∧ fate r c = 2
def DsC (r : Rst) (f c : Int) : Prop := Lv r f c ∧ fate r c = 1
/-- stopped because a run ahead of it is over -/
def Stw (r : Rst) (w c : Int) : Prop := ∀ P : Int → Prop, (∀ d, DsS r w d → P d) → (∀ p d, P p → DsS r p d → P d) → P c
theorem Stw.base (h : DsS r w c) : Stw r w c := fun _ h1 _ => h1 c h
theorem Stw.step (h : Stw r w p) (h2 : DsS r p c) : Stw r w c := fun P h1 h3 => h3 p c (h P h1 h3) h2
theorem Stw.is (h : Stw r w c) (gc : GC r) : ∃ p, DsS r p c ∧ w ≤ p := h (fun c => ∃ p, DsS r p c ∧ w ≤ p) (fun d e => ⟨w, e, Int.le_refl _⟩) fun p d ⟨p2, e1, e2⟩ e3 => ⟨p, e3, by
  have k := gc.2 p e1.1.1 e1.1.2.1
  have k2 := e1.1.2.2.1
  have k3 := e3.1.2.2.1
  have k4 := gc.2 d e3.1.1 e3.1.2.1
  have k5 := e1.1.1
  omega⟩
/-- what a cancel does -/
def caR (c : Int) (r : Rst) : Rst := if can (hk r c) (r 18 (rw9 r c)).toNat = 0 ∧ r 17 (rw9 r c) = 20 ∧ r 18 (rw9 r c) < 78 then wr c 6 0 0 r else r
/-- the places of the history of a latest run -/
def HO (r : Rst) (c : Int) (j : Nat) (i : Int) : Prop := j = 18 ∧ i = rw9 r c ∨ (19 ≤ j ∧ j ≤ 21) ∧ 80 * rw9 r c ≤ i ∧ i < 80 * rw9 r c + 80
def Eff (A T S C : Int → Prop) (r r' : Rst) : Prop := (∀ j : Nat, ¬ (j = 15 ∨ (17 ≤ j ∧ j ≤ 21) ∨ j = 23 ∨ j = 31 ∨ j = 39 ∨ j = 81 ∨ j = 82) → r' j = r j) ∧ (∀ i, (A i → r' 23 i = 0) ∧ (¬ A i → r' 23 i = r 23 i)) ∧ (∀ i, (T i → r' 31 i = 0) ∧ (¬ T i → r' 31 i = r 31 i)) ∧ (∀ q, (0 ≤ q ∧ q < 4 ∧ A (r 39 q) → r' 39 q = -1) ∧ (¬ (0 ≤ q ∧ q < 4 ∧ A (r 39 q)) → r' 39 q = r 39 q)) ∧ (∀ i, (S i → r' 15 i = -1) ∧ (¬ S i → r' 15 i = r 15 i)) ∧ ((∀ c, S c → r' 17 (rw9 r c) = 24) ∧ ∀ i, (∀ c, S c → i ≠ rw9 r c) → r' 17 i = r 17 i) ∧ (∀ c, C c → ∀ j i, HO r c j i → r' j i = caR c r j i) ∧ ∀ (j : Nat) i, 18 ≤ j → j ≤ 21 → (∀ c, C c → ¬ HO r c j i) → r' j i = r j i
theorem Eff.refl : Eff (fun _ => False) (fun _ => False) (fun _ => False) (fun _ => False) r r := ⟨fun _ _ => rfl, fun _ => ⟨fun h => h.elim, fun _ => rfl⟩, fun _ => ⟨fun h => h.elim, fun _ => rfl⟩, fun _ => ⟨fun h => h.2.2.elim, fun _ => rfl⟩, fun _ => ⟨fun h => h.elim, fun _ => rfl⟩, ⟨fun _ h => h.elim, fun _ _ => rfl⟩, fun _ h => h.elim, fun _ _ _ _ _ => rfl⟩
theorem Eff.congr (h : Eff A T S C r r') (hA : ∀ i, A i ↔ A' i) (hT : ∀ i, T i ↔ T' i) (hS : ∀ i, S i ↔ S' i) (hC : ∀ i, C i ↔ C' i) : Eff A' T' S' C' r r' := by
  have e1 : A = A' := funext fun i => propext (hA i)
  have e2 : T = T' := funext fun i => propext (hT i)
  have e3 : S = S' := funext fun i => propext (hS i)
  have e4 : C = C' := funext fun i => propext (hC i)
  subst e1 e2 e3 e4
  exact h
theorem Eff.uniq (h1 : Eff A T S C r r1) (h2 : Eff A T S C r r2) : ∀ j : Nat, j ≠ 81 → j ≠ 82 → r1 j = r2 j := fun j j1 j2 => by
  obtain ⟨a1, a2, a3, a4, a5, a6, a7, a8⟩ := h1
  obtain ⟨b1, b2, b3, b4, b5, b6, b7, b8⟩ := h2
  by_cases d : ¬ (j = 15 ∨ (17 ≤ j ∧ j ≤ 21) ∨ j = 23 ∨ j = 31 ∨ j = 39 ∨ j = 81 ∨ j = 82)
  · rw [a1 j d, b1 j d]
  funext i
  by_cases c : j = 23
  · subst c
    by_cases e : A i
    · rw [(a2 i).1 e, (b2 i).1 e]
    · rw [(a2 i).2 e, (b2 i).2 e]
  by_cases c : j = 31
  · subst c
    by_cases e : T i
    · rw [(a3 i).1 e, (b3 i).1 e]
    · rw [(a3 i).2 e, (b3 i).2 e]
  by_cases c : j = 39
  · subst c
    by_cases e : 0 ≤ i ∧ i < 4 ∧ A (r 39 i)
    · rw [(a4 i).1 e, (b4 i).1 e]
    · rw [(a4 i).2 e, (b4 i).2 e]
  by_cases c : j = 15
  · subst c
    by_cases e : S i
    · rw [(a5 i).1 e, (b5 i).1 e]
    · rw [(a5 i).2 e, (b5 i).2 e]
  by_cases c : j = 17
  · subst c
    by_cases e : ∃ c, S c ∧ i = rw9 r c
    · obtain ⟨c, e1, e2⟩ := e
      rw [e2, a6.1 c e1, b6.1 c e1]
    · rw [a6.2 i fun c hc he => e ⟨c, hc, he⟩, b6.2 i fun c hc he => e ⟨c, hc, he⟩]
  by_cases e : ∃ c, C c ∧ HO r c j i
  · obtain ⟨c, e1, e2⟩ := e
    rw [a7 c e1 j i e2, b7 c e1 j i e2]
  · rw [a8 j i (by omega) (by omega) fun c hc he => e ⟨c, hc, he⟩, b8 j i (by omega) (by omega) fun c hc he => e ⟨c, hc, he⟩]
theorem Eff.off (h : Eff A T S C r r1) (o : Off w n r1 r2) : Eff (fun i => A i ∨ i = 80 * w + n) T S C r r2 := by
  obtain ⟨a1, a2, a3, a4, a5, a6, a7, a8⟩ := h
  obtain ⟨o1, o2, o3⟩ := o
  refine ⟨fun j hj => by rw [o1 j (by omega) (by omega), a1 j hj], fun i => ⟨fun hi => ?_, fun hi => ?_⟩, by rw [o1 31 (by omega) (by omega)]; exact a3, fun q => ⟨fun hq => ?_, fun hq => ?_⟩, by rw [o1 15 (by omega) (by omega)]; exact a5, by rw [o1 17 (by omega) (by omega)]; exact a6, fun c hc j i hj => ?_, fun j i j0 j1 hj => by rw [o1 j (by omega) (by omega)]; exact a8 j i j0 j1 hj⟩
  · rw [o2]
    by_cases e : i = 80 * w + n
    · rw [if_t e]
    · rw [if_f e]
      exact (a2 i).1 (hi.resolve_right e)
  · rw [o2, if_f fun e => hi (Or.inr e)]
    exact (a2 i).2 fun e => hi (Or.inl e)
  · rw [o3]
    by_cases e : 0 ≤ q ∧ q < 4 ∧ A (r 39 q)
    · rw [(a4 q).1 e]
      split <;> rfl
    · rw [(a4 q).2 e]
      rw [if_t ⟨hq.1, hq.2.1, hq.2.2.resolve_left fun d => e ⟨hq.1, hq.2.1, d⟩⟩]
  · rw [o3]
    have e : ¬ (0 ≤ q ∧ q < 4 ∧ A (r 39 q)) := fun d => hq ⟨d.1, d.2.1, Or.inl d.2.2⟩
    rw [(a4 q).2 e, if_f fun d => hq ⟨d.1, d.2.1, Or.inr d.2.2⟩]
  · have : j ≠ 39 ∧ j ≠ 23 := by
      unfold HO at hj
      omega
    rw [o1 j this.1 this.2]
    exact a7 c hc j i hj
theorem Eff.toff (h : Eff A T S C r r1) : Eff A (fun i => T i ∨ i = 80 * w + n) S C r (ur r1 31 (80 * w + n) 0) := by
  obtain ⟨a1, a2, a3, a4, a5, a6, a7, a8⟩ := h
  have e : ∀ j : Nat, j ≠ 31 → ur r1 31 (80 * w + n) 0 j = r1 j := fun j hj => ur_ne hj
  refine ⟨fun j hj => by rw [e j (by omega), a1 j hj], by rw [e 23 (by omega)]; exact a2, fun i => ⟨fun hi => ?_, fun hi => ?_⟩, by rw [e 39 (by omega)]; exact a4, by rw [e 15 (by omega)]; exact a5, by rw [e 17 (by omega)]; exact a6, fun c hc j i hj => ?_, fun j i j0 j1 hj => by rw [e j (by omega)]; exact a8 j i j0 j1 hj⟩
  · by_cases d : i = 80 * w + n
    · rw [ur_e rfl d]
    · rw [ur_n (by omega)]
      exact (a3 i).1 (hi.resolve_right d)
  · rw [ur_n (Or.inr fun d => hi (Or.inr d))]
    exact (a3 i).2 fun d => hi (Or.inl d)
  · have : j ≠ 31 := by
      unfold HO at hj
      omega
    rw [e j this]
    exact a7 c hc j i hj
theorem Eff.rw (h : Eff A T S C r r1) (c : Int) : rw9 r1 c = rw9 r c ∧ Rl r1 c = Rl r c := by
  unfold rw9 Rl
  rw [h.1 12 (by omega)]
  exact ⟨rfl, rfl⟩
/-- the rows of the latest runs of two workflows are two -/
theorem rw_inj (h1 : 1 ≤ r 12 w ∧ r 12 w ≤ 9) (h2 : 1 ≤ r 12 c ∧ r 12 c ≤ 9) (h : rw9 r w = rw9 r c) : w = c := by
  unfold rw9 at h
  omega
theorem Eff.stop (h : Eff A T S C r r1) (h1 : 1 ≤ r 12 w ∧ r 12 w ≤ 9) (hS : ∀ c, S c → 1 ≤ r 12 c ∧ r 12 c ≤ 9) : Eff A T (fun i => S i ∨ i = w) C r (ur (ur r1 17 (rw9 r w) 24) 15 w (-1)) := by
  obtain ⟨a1, a2, a3, a4, a5, a6, a7, a8⟩ := h
  have e : ∀ j : Nat, j ≠ 17 → j ≠ 15 → ur (ur r1 17 (rw9 r w) 24) 15 w (-1) j = r1 j := fun j hj hi => by rw [ur_ne hi, ur_ne hj]
  refine ⟨fun j hj => by rw [e j (by omega) (by omega), a1 j hj], by rw [e 23 (by omega) (by omega)]; exact a2, by rw [e 31 (by omega) (by omega)]; exact a3, by rw [e 39 (by omega) (by omega)]; exact a4, fun i => ⟨fun hi => ?_, fun hi => ?_⟩, ⟨fun c hc => ?_, fun i hi => ?_⟩, fun c hc j i hj => ?_, fun j i j0 j1 hj => by rw [e j (by omega) (by omega)]; exact a8 j i j0 j1 hj⟩
  · by_cases d : i = w
    · rw [ur_e rfl d]
    · rw [ur_n (by omega), ur_n (by omega)]
      exact (a5 i).1 (hi.resolve_right d)
  · rw [ur_n (Or.inr fun d => hi (Or.inr d)), ur_n (by omega)]
    exact (a5 i).2 fun d => hi (Or.inl d)
  · rw [ur_n (by omega)]
    by_cases d : c = w
    · rw [d, ur_e rfl rfl]
    · have sc := hc.resolve_right d
      rw [ur_n (Or.inr fun hh => d (rw_inj (hS c sc) h1 hh))]
      exact a6.1 c sc
  · rw [ur_n (by omega), ur_n (Or.inr (hi w (Or.inr rfl)))]
    exact a6.2 i fun c hc => hi c (Or.inl hc)
  · have : j ≠ 17 ∧ j ≠ 15 := by
      unfold HO at hj
      omega
    rw [e j this.1 this.2]
    exact a7 c hc j i hj
/-- what a cancel does to a run depends on this run alone -/
theorem ca_own (e12 : r1 12 c = r 12 c) (e17 : r1 17 (rw9 r c) = r 17 (rw9 r c)) (h0 : 0 ≤ r 18 (rw9 r c) ∧ r 18 (rw9 r c) ≤ 80) (e : ∀ j i, HO r c j i → r1 j i = r j i) : (∀ j i, HO r c j i → caR c r1 j i = caR c r j i) ∧ ∀ j i, ¬ HO r c j i → caR c r1 j i = r1 j i := by
  have e9 : rw9 r1 c = rw9 r c := by unfold rw9; rw [e12]
  have e18 : r1 18 (rw9 r c) = r 18 (rw9 r c) := e 18 _ (by unfold HO; omega)
  have ec : can (hk r1 c) (r 18 (rw9 r c)).toNat = can (hk r c) (r 18 (rw9 r c)).toNat := can_congr fun i a b => by
    unfold hk
    rw [e9]
    exact e 19 _ (by unfold HO; omega)
  unfold caR
  rw [e9, e17, e18, ec]
  by_cases d : can (hk r c) (r 18 (rw9 r c)).toNat = 0 ∧ r 17 (rw9 r c) = 20 ∧ r 18 (rw9 r c) < 78
  · rw [if_t d, if_t d]
    refine ⟨fun j i hj => ?_, fun j i hj => ?_⟩
    · unfold wr
      rw [e9, e18]
      by_cases c1 : j = 18 ∧ i = rw9 r c
      · rw [ur_e c1.1 c1.2, ur_e c1.1 c1.2]
      · rw [ur_n (by omega), ur_n (j := 18) (by omega)]
        by_cases c2 : j = 21 ∧ i = 80 * rw9 r c + r 18 (rw9 r c)
        · rw [ur_e c2.1 c2.2, ur_e c2.1 c2.2]
        · rw [ur_n (by omega), ur_n (j := 21) (by omega)]
          by_cases c3 : j = 20 ∧ i = 80 * rw9 r c + r 18 (rw9 r c)
          · rw [ur_e c3.1 c3.2, ur_e c3.1 c3.2]
          · rw [ur_n (by omega), ur_n (j := 20) (by omega)]
            by_cases c4 : j = 19 ∧ i = 80 * rw9 r c + r 18 (rw9 r c)
            · rw [ur_e c4.1 c4.2, ur_e c4.1 c4.2]
            · rw [ur_n (by omega), ur_n (j := 19) (by omega)]
              exact e j i hj
    · have d3 := d.2.2
      exact wr_o (fun a b => hj (Or.inl ⟨a, by rw [e9] at b; exact b⟩)) (fun a b d => hj (Or.inr ⟨⟨a, b⟩, by rw [e9, e18] at d; omega, by rw [e9, e18] at d; omega⟩))
  · rw [if_f d, if_f d]
    exact ⟨e, fun _ _ _ => rfl⟩
theorem ho_inj {j : Nat} {i : Int} (h1 : 1 ≤ r 12 w ∧ r 12 w ≤ 9) (h2 : 1 ≤ r 12 c ∧ r 12 c ≤ 9) (a : HO r w j i) (b : HO r c j i) : w = c := by
  unfold HO at *
  exact rw_inj h1 h2 (by omega)
theorem ca_j {j : Nat} (h : j < 18 ∨ 21 < j) : caR c r j = r j := by
  unfold caR
  split
  · exact wr_n h
  · rfl
theorem Eff.can (h : Eff A T S C r r1) (hC : ¬ C c) (hS : ¬ S c) (h1 : 1 ≤ r 12 c ∧ r 12 c ≤ 9) (h18 : 0 ≤ r 18 (rw9 r c) ∧ r 18 (rw9 r c) ≤ 80) (hSb : ∀ c, S c → 1 ≤ r 12 c ∧ r 12 c ≤ 9) (hCb : ∀ c, C c → 1 ≤ r 12 c ∧ r 12 c ≤ 9) : Eff A T S (fun i => C i ∨ i = c) r (caR c r1) := by
  obtain ⟨a1, a2, a3, a4, a5, a6, a7, a8⟩ := h
  have eo : ∀ j i, HO r c j i → r1 j i = r j i := fun j i hj => a8 j i (by unfold HO at hj; omega) (by unfold HO at hj; omega) fun c2 hc2 hb => hC (by rw [← ho_inj (hCb c2 hc2) h1 hb hj]; exact hc2)
  have e17 : r1 17 (rw9 r c) = r 17 (rw9 r c) := a6.2 _ fun c2 hc2 he => hS (by rw [rw_inj h1 (hSb c2 hc2) he]; exact hc2)
  obtain ⟨k1, k2⟩ := ca_own (by rw [a1 12 (by omega)]) e17 h18 eo
  refine ⟨fun j hj => by rw [ca_j (by omega), a1 j hj], by rw [ca_j (by omega)]; exact a2, by rw [ca_j (by omega)]; exact a3, by rw [ca_j (by omega)]; exact a4, by rw [ca_j (by omega)]; exact a5, by rw [ca_j (by omega)]; exact a6, fun c2 hc2 j i hj => ?_, fun j i j0 j1 hj => ?_⟩
  · by_cases e : c2 = c
    · rw [e] at hj ⊢
      exact k1 j i hj
    · have cc := hc2.resolve_right e
      rw [k2 j i fun hh => e (ho_inj (hCb c2 cc) h1 hj hh)]
      exact a7 c2 cc j i hj
  · rw [k2 j i (hj c (Or.inr rfl))]
    exact a8 j i j0 j1 fun c2 hc2 => hj c2 (Or.inl hc2)
theorem Eff.gt (h : Eff A T S C r r1) (g : GT r) : GT r1 := fun w n a b c d => by
  rw [h.1 16 (by omega)] at b
  rw [h.1 22 (by omega)] at d
  rw [h.1 1 (by omega), h.1 26 (by omega), h.1 27 (by omega)]
  by_cases e : A (80 * w + n)
  · rw [(h.2.1 _).1 e]
    exact ⟨fun hh => by omega, fun hh => by omega⟩
  · rw [(h.2.1 _).2 e]
    exact g w n a b c d
theorem RelK.cancel (h : RelK N uf r m) (w0 : 0 ≤ w) (w1 : w < r 16 0) : ∃ v m', X7_askCancel (Rl r w) m = some (v, m') ∧ G_cancels w r = some (v, caR w r) ∧ RelK N uf (caR w r) m' ∧ (∀ i, ¬ (Rl r w ≤ i ∧ i ≤ Rl r w + 4) → m' i = m i) := by
  have g := h.2.2.rg
  have b10 := g.1
  have sw := g.2.2 w w0 w1
  have ew : rw9 r w = 9 * w + r 12 w - 1 := rfl
  have hb := sw.2.2.2.2.2 (rw9 r w) (by have := sw.1; omega) (by have := sw.2.1; omega)
  have gc := g_cancels (r := r) w0 (by omega) sw.1 sw.2.1 hb.1 hb.2
  obtain ⟨v, m', r', a1, a2, a0, a3, a4, ⟨rfl, ⟨b1, b2, b3⟩, rfl, rfl⟩ | ⟨rfl, b1, rfl, rfl⟩⟩ := rel_cancel h.1 g (h.2.1 w w0 w1).1 w0 w1
  · have e : caR w r = wr w 6 0 0 r := by unfold caR; rw [if_t ⟨b1, b2, b3⟩]
    rw [e]
    refine ⟨1, _, a1, a2, ⟨a3, fun w2 c d => ?_, h.2.2.ev w0 w1 b2 b3 (by omega) (by omega) (by omega) (by omega) (fun e => by omega) (fun e => by omega) (fun e => by omega)⟩, fun i hi => ?_⟩
    · rw [wr_n (by omega)] at d
      have u := h.2.1 w2 c d
      have s := g.2.2 w w0 w1
      have s2 := g.2.2 w2 c d
      have t1 := s.1
      have t2 := s.2.1
      have t3 := s2.1
      have t4 := s2.2.1
      have er : rw9 r w = 9 * w + r 12 w - 1 := rfl
      have er2 : rw9 r w2 = 9 * w2 + r 12 w2 - 1 := rfl
      have eR : Rl r w = 100000 * (w + 1) + 10000 * r 12 w := rfl
      have eR2 : Rl r w2 = 100000 * (w2 + 1) + 10000 * r 12 w2 := rfl
      have s62 := s2.2.2.2.2.2 (rw9 r w2) (by omega) (by omega)
      have s61 := s.2.2.2.2.2 (rw9 r w) (by omega) (by omega)
      by_cases e : w2 = w
      · subst e
        refine ⟨a4, ?_⟩
        rw [Rl_wr, upd9_n (by omega)]
        unfold put9
        rw [upd9_n (by omega), upd9_n (by omega), upd9_n (by omega), upd9_n (by omega)]
        exact u.2
      · have em : upd9 (put9 (Rl r w + 1) 6 0 0 m) (Rl r w) 10 1 (Rl r w2) = m (Rl r w2) := by
          rw [upd9_row (by omega)]
          unfold put9
          rw [upd9_row (by omega), upd9_row (by omega), upd9_row (by omega), upd9_row (by omega)]
        unfold CaW
        rw [Rl_wr, em]
        refine ⟨?_, u.2⟩
        rw [rw9_wr, wr_o (by omega) (by omega)]
        rw [show m (Rl r w2) 10 = _ from u.1]
        refine can_congr fun i c d => ?_
        unfold hk
        rw [rw9_wr, wr_o (by omega) (by omega)]
    · rw [upd9_row (by omega)]
      unfold put9
      rw [upd9_row (by omega), upd9_row (by omega), upd9_row (by omega), upd9_row (by omega)]
  · have e : caR w r' = r' := by unfold caR; rw [if_f b1]
    rw [e]
    exact ⟨0, m', a1, a2, h, fun _ _ => rfl⟩
end EQ
