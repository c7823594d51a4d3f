/-! the small machine's rules that read or write the memory -/
theorem Ex.mstep {d : Nat} {f : FM} {pc pc2 : Nat} {ls ls2 st st2 : List SV} {m m2 : Mem} {r : SV ⊕ String} {m' : Mem} (k : Ex d f pc2 ls2 st2 m2 r m') (hlen : ls.length = ls2.length) (hm : mle9 m m2)
    (h : ∀ (S0 : State) (D : va_G) (ty : Nat → ClassId) (xa : Int → Nat) (xl : Int → Nat) (xv : Int → Nat → Int32), BF S0 D ty xa xl xv →
      ∀ (p : Program) (l : Launch) (e : Env) (R : Room) (s : State) (mid : MethodId) (args : Array Value) (below : List Frame) (meth : Method) (c : Code), FC f p l s mid args meth c → GS S0 s → frm9 d ≤ R.frames → loc9 d ≤ R.locals →
      ∀ (H : Heap) (locs : List Loc) (cells slots : Nat) (ρ : Int → Nat) (L : List Int) (ls' : Array Slot) (st' : List Value) (Q : State → Prop), va_S (fun q => S0.heap.size ≤ q) s.heap H locs → RelH S0 D ty xl xv ρ m L H → LRel xa ρ m ls ls' → ls.length = f.2.2.1 → SRel xa ρ m st st' →
      (cells : Int) + (m2 (-2) 0 - m (-2) 0) ≤ R.cells → (slots : Int) + (m2 (-2) 1 - m (-2) 1) ≤ R.slots →
      (∀ (H2 : Heap) (locs2 : List Loc) (cells2 slots2 : Nat) (ρ2 : Int → Nat) (L2 : List Int) (ls'' : Array Slot) (st'' : List Value), va_S (fun q => S0.heap.size ≤ q) s.heap H2 locs2 → RelH S0 D ty xl xv ρ2 m2 L2 H2 → Ext9 ρ m ρ2 m2 → LRel xa ρ2 m2 ls2 ls'' → SRel xa ρ2 m2 st2 st'' →
        (cells2 : Int) = cells + (m2 (-2) 0 - m (-2) 0) → (slots2 : Int) = slots + (m2 (-2) 1 - m (-2) 1) → W p l e R s mid args below meth c H2 locs2 cells2 slots2 Q (F0 mid pc2 ls'' st'')) → W p l e R s mid args below meth c H locs cells slots Q (F0 mid pc ls' st')) : Ex d f pc ls st m r m' := by
  refine ⟨⟨Int.le_trans hm.1 k.1.1, Int.le_trans hm.2 k.1.2⟩, fun S0 D ty xa xl xv hB p l e R s mid args below meth c hF hG hfr hlo H locs cells slots ρ L ls' st' Q hS hR hL hn hst hc hs hE => ?_⟩
  have k1 := k.1.1
  have k2 := k.1.2
  refine h S0 D ty xa xl xv hB p l e R s mid args below meth c hF hG hfr hlo H locs cells slots ρ L ls' st' Q hS hR hL hn hst (by omega) (by omega) ?_
  intro H2 locs2 cells2 slots2 ρ2 L2 ls'' st'' hS2 hR2 hX hL2 hst2 e1 e2
  exact k.2 S0 D ty xa xl xv hB p l e R s mid args below meth c hF hG hfr hlo H2 locs2 cells2 slots2 ρ2 L2 ls'' st'' Q hS2 hR2 hL2 (hlen ▸ hn) hst2 (by omega) (by omega) (hE.ext hX)
theorem vwCl_at {c : Nat} {r : vw_C} (h : vwCl[c]? = some r) : c < 13 := by
  have := (List.getElem?_eq_some_iff.mp h).1
  have h2 : c < 12 := this
  omega
theorem wld_at {ty : Nat → ClassId} {ρ : Int → Nat} {m : Mem} {L : List Int} {i : Int} (h : i ∈ L) : ∃ q0 : Nat, L[q0]? = some i ∧ (wld ty ρ m L)[q0]? = some (ρ i, ent ty ρ m i) := by
  obtain ⟨q0, hq⟩ := List.getElem?_of_mem h
  exact ⟨q0, hq, by unfold wld; rw [List.getElem?_map, hq]; rfl⟩
theorem RelH.at {S0 : State} {D : va_G} {ty : Nat → ClassId} {xl : Int → Nat} {xv : Int → Nat → Int32} {ρ : Int → Nat} {m : Mem} {L : List Int} {H : Heap} (h : RelH S0 D ty xl xv ρ m L H) {x t : Int} (hx : 0 < x) (ht : m (-1) x = t) (h0 : t ≠ 0) : ∃ q0 : Nat, L[q0]? = some x ∧ (wld ty ρ m L)[q0]? = some (ρ x, ent ty ρ m x) :=
  wld_at ((h.2.2.2.1 x).mpr ⟨hx, by rw [ht]; exact h0⟩)
/-- one place of the world is written -/
theorem wld_set {ty : Nat → ClassId} {ρ : Int → Nat} {m m2 : Mem} {L : List Int} {x : Int} {q0 : Nat} (hn : L.Nodup) (hq : L[q0]? = some x) (ho : ∀ i, i ≠ x → ent ty ρ m2 i = ent ty ρ m i) {E : va_E} (hE : ent ty ρ m2 x = E) : (wld ty ρ m L).set q0 (ρ x, E) = wld ty ρ m2 L := by
  apply List.ext_getElem?
  intro j
  unfold wld
  have hlt : q0 < L.length := (List.getElem?_eq_some_iff.mp hq).1
  rw [List.getElem?_set, List.getElem?_map, List.getElem?_map, List.length_map]
  by_cases hj : q0 = j
  · subst hj
    rw [if_pos rfl, if_pos hlt, hq, ← hE]; rfl
  · rw [if_neg hj]
    cases hL : L[j]? with
    | none => rfl
    | some i =>
      have hne : i ≠ x := by
        intro e
        subst e
        exact hj ((List.getElem?_inj hlt hn).mp (hq.trans hL.symm))
      show some (ρ i, ent ty ρ m i) = some (ρ i, ent ty ρ m2 i)
      rw [ho i hne]
theorem upd9_ne {m : Mem} {i j v a b : Int} (h : a ≠ i) : upd9 m i j v a b = m a b := by
  unfold upd9
  rw [if_neg (fun h1 => h h1.1)]
theorem upd9_neb {m : Mem} {i j v a b : Int} (h : b ≠ j) : upd9 m i j v a b = m a b := by
  unfold upd9
  rw [if_neg (fun h1 => h h1.2)]
theorem upd9_eq {m : Mem} {i j v : Int} : upd9 m i j v i j = v := by
  unfold upd9
  rw [if_pos ⟨rfl, rfl⟩]
theorem ent_obj {ty : Nat → ClassId} {ρ : Int → Nat} {m : Mem} {i : Int} {c : Nat} (h : m (-1) i = 10 + (c : Int)) (hc : c < 13) : ent ty ρ m i = .inr (c, (List.range (nf9 c)).map (fun j : Nat => vof ρ (fty c j) (m i j))) := by
  have e : (10 + (c : Int) - 10).toNat = c := by omega
  unfold ent
  rw [h, if_pos (by omega), e]
theorem ent_int {ty : Nat → ClassId} {ρ : Int → Nat} {m : Mem} {i : Int} {n : Nat} (h : m (-1) i = 100000 + (n : Int)) (hn : n < 100000) : ent ty ρ m i = .inl (ty 0, n, .inl (fun j : Nat => Int32.ofInt (m i j))) := by
  have e : (100000 + (n : Int) - 100000).toNat = n := by omega
  unfold ent
  rw [h, if_neg (by omega), if_pos (by omega), e]
theorem ent_bool {ty : Nat → ClassId} {ρ : Int → Nat} {m : Mem} {i : Int} {n : Nat} (h : m (-1) i = 200000 + (n : Int)) (hn : n < 100000) : ent ty ρ m i = .inl (ty 1, n, .inl (fun j : Nat => Int32.ofInt (m i j))) := by
  have e : (200000 + (n : Int) - 200000).toNat = n := by omega
  unfold ent
  rw [h, if_neg (by omega), if_neg (by omega), if_pos (by omega), e]
theorem ent_long {ty : Nat → ClassId} {ρ : Int → Nat} {m : Mem} {i : Int} {n : Nat} (h : m (-1) i = 300000 + (n : Int)) (hn : n < 100000) : ent ty ρ m i = .inl (ty 2, n, .inr (.inl (fun j : Nat => Int64.ofInt (m i j)))) := by
  have e : (300000 + (n : Int) - 300000).toNat = n := by omega
  unfold ent
  rw [h, if_neg (by omega), if_neg (by omega), if_neg (by omega), if_pos (by omega), e]
theorem ent_ref {ty : Nat → ClassId} {ρ : Int → Nat} {m : Mem} {i : Int} {c n : Nat} (h : m (-1) i = 400000 + 1000 * (c : Int) + (n : Int)) (hn : n < 1000) : ent ty ρ m i = .inl (ty (3 + c), n, .inr (.inr (.inr (.inr (fun j : Nat => rof ρ (m i j)))))) := by
  have e : ((400000 + 1000 * (c : Int) + (n : Int) - 400000) / 1000).toNat = c := by omega
  have e2 : ((400000 + 1000 * (c : Int) + (n : Int) - 400000) % 1000).toNat = n := by omega
  unfold ent
  rw [h, if_neg (by omega), if_neg (by omega), if_neg (by omega), if_neg (by omega), e, e2]
theorem ety_obj {c k : Nat} (hc : c < 13) : ety (10 + (c : Int)) (k : Int) = fty c k := by
  have e : (10 + (c : Int) - 10).toNat = c := by omega
  have e2 : ((k : Int)).toNat = k := by omega
  unfold ety
  rw [if_pos (by omega), e, e2]
theorem ety_int {n : Nat} {j : Int} (hn : n < 100000) : ety (100000 + (n : Int)) j = 0 := by
  unfold ety
  rw [if_neg (by omega), if_pos (by omega)]
theorem ety_bool {n : Nat} {j : Int} (hn : n < 100000) : ety (200000 + (n : Int)) j = 5 := by
  unfold ety
  rw [if_neg (by omega), if_neg (by omega), if_pos (by omega)]
theorem ety_long {n : Nat} {j : Int} (hn : n < 100000) : ety (300000 + (n : Int)) j = 2 := by
  unfold ety
  rw [if_neg (by omega), if_neg (by omega), if_neg (by omega), if_pos (by omega)]
theorem ety_ref {c n : Nat} {j : Int} (hn : n < 1000) : ety (400000 + 1000 * (c : Int) + (n : Int)) j = 10 + (c : Int) := by
  unfold ety
  rw [if_neg (by omega), if_neg (by omega), if_neg (by omega), if_neg (by omega)]
  omega
theorem VR_vof {xa : Int → Nat} {ρ : Int → Nat} {m : Mem} {τ τ2 x : Int} (h : okS m τ x) (hτ : τ < 10 ∧ τ2 = 0 ∨ 10 ≤ τ ∧ τ2 = τ) : VR xa ρ m (τ2, x) (vof ρ τ x) := by
  unfold vof
  rcases hτ with ⟨h1, rfl⟩ | ⟨h1, rfl⟩
  · rw [if_pos h1]
    exact VR_int.mpr ⟨rfl, h.1 h1⟩
  · rw [if_neg (by omega)]
    refine (VR_ref h1).mpr ?_
    rcases h.2.2 h1 with h2 | ⟨h2, h3⟩
    · exact Or.inl ⟨h2, by rw [if_pos h2]⟩
    · exact Or.inr ⟨h2, h3, by rw [if_neg (by omega)]⟩
theorem WF9.upd {m : Mem} (h : WF9 m) {x k v : Int} (hx : 0 < x) (hv : okS m (ety (m (-1) x) k) v) : WF9 (upd9 m x k v) := by
  intro i hi h0 j
  have hne : (-1 : Int) ≠ x := by omega
  rw [upd9_ne hne] at h0
  have ho : ∀ τ y, okS m τ y → okS (upd9 m x k v) τ y := fun τ y hy => ⟨hy.1, hy.2.1, fun h1 => by rw [upd9_ne hne]; exact hy.2.2 h1⟩
  rw [upd9_ne hne]
  apply ho
  unfold upd9
  split
  · rename_i h1
    obtain ⟨rfl, rfl⟩ := h1
    exact hv
  · exact h i hi h0 j
theorem Ext9.upd {ρ : Int → Nat} {m : Mem} {x k v : Int} (hx : 0 < x) : Ext9 ρ m ρ (upd9 m x k v) := fun i _ _ => ⟨upd9_ne (by omega), rfl⟩
theorem mle9.upd {m : Mem} {x k v : Int} (hx : 0 < x) : mle9 m (upd9 m x k v) := by
  unfold mle9
  rw [upd9_ne (show (-2 : Int) ≠ x by omega), upd9_ne (show (-2 : Int) ≠ x by omega)]
  exact ⟨Int.le_refl _, Int.le_refl _⟩
theorem RelH.upd {S0 : State} {D : va_G} {ty : Nat → ClassId} {xl : Int → Nat} {xv : Int → Nat → Int32} {ρ : Int → Nat} {m : Mem} {L : List Int} {H H1 : Heap} (h : RelH S0 D ty xl xv ρ m L H) {x k v : Int} (hx : 0 < x) (hv : okS m (ety (m (-1) x) k) v) {E : va_E} {q0 : Nat} (hq : L[q0]? = some x) (hE : ent ty ρ (upd9 m x k v) x = E)
    (hP : va_P D vwCl ((wld ty ρ m L).set q0 (ρ x, E)) H1) (hD : va_D (fun q => S0.heap.size ≤ q) ((wld ty ρ m L).set q0 (ρ x, E))) : RelH S0 D ty xl xv ρ (upd9 m x k v) L H1 := by
  have hne : (-1 : Int) ≠ x := by omega
  have hs : (wld ty ρ m L).set q0 (ρ x, E) = wld ty ρ (upd9 m x k v) L := wld_set h.2.2.1 hq (fun i hi => by
    unfold ent
    rw [upd9_ne hne]
    have e : ∀ j, upd9 m x k v i j = m i j := fun j => upd9_ne hi
    simp only [e]) hE
  rw [hs] at hP hD
  refine ⟨hP, hD, h.2.2.1, fun i => ?_, h.2.2.2.2.1.upd hx hv, ?_⟩
  · rw [upd9_ne hne]
    exact h.2.2.2.1 i
  · have hs := h.2.2.2.2.2
    unfold SC9 at hs ⊢
    rw [upd9_ne (by omega)]
    refine ⟨hs.1, fun j hj => ?_⟩
    rw [upd9_ne (by omega)]
    exact hs.2 j hj
