/-! the fixed arrays, new things -/
theorem x_sld {d : Nat} {f : FM} {pc : Nat} {ls st : List SV} {m : Mem} {r : SV ⊕ String} {m' : Mem} {j : Int} (hL9 : m (-4) 0 ≤ 2560) (hj0 : 0 ≤ j) (hj1 : j < m (-4) 0) (hd : decode f.1 pc = .ok (.iaload, 1)) (k : Ex d f (pc + 1) ls ((0, m (-3) j) :: st) m r m') : Ex d f pc ls ((0, j) :: (7, 0) :: st) m r m' := by
  refine k.step rfl ?_
  intro S0 D ty xa xl xv hB p l e R s mid args below meth c9 hF hG hfr hlo H locs cells slots ρ L ls' st' Q hS hR hL hnn hst kk
  obtain ⟨v0, vs0, rfl, h0, hs0⟩ := hst.cons
  obtain ⟨v1, vs1, rfl, h1, hs1⟩ := hs0.cons
  obtain ⟨rfl, r0⟩ := VR_int.mp h0
  have hz := VR_script.mp h1
  subst hz
  have hs := hR.2.2.2.2.2
  obtain ⟨hX, hb1, hb2⟩ := X9 hB hG (k := 0) (by omega) (by omega)
  have e0 := hs.1
  obtain ⟨hi, he⟩ := in9 (n := xl 0) hj0 (by omega) (by omega)
  refine va_sld hF.1 hF.2.1 hX hb1 hb2 hS hi hd ?_
  rw [he]
  obtain ⟨e1, e2⟩ := hs.2 j.toNat (by omega)
  rw [e1]
  have e3 : ((j.toNat : Nat) : Int) = j := toNat9 hj0
  rw [e3] at e2 ⊢
  exact kk ls' _ hL ⟨VR_int.mpr ⟨rfl, e2⟩, hs1⟩
theorem x_slen {d : Nat} {f : FM} {pc : Nat} {ls st : List SV} {m : Mem} {r : SV ⊕ String} {m' : Mem} (hL9 : m (-4) 0 ≤ 2560) (hd : decode f.1 pc = .ok (.arraylength, 1)) (k : Ex d f (pc + 1) ls ((0, m (-4) 0) :: st) m r m') : Ex d f pc ls ((7, 0) :: st) m r m' := by
  refine k.step rfl ?_
  intro S0 D ty xa xl xv hB p l e R s mid args below meth c9 hF hG hfr hlo H locs cells slots ρ L ls' st' Q hS hR hL hnn hst kk
  obtain ⟨v0, vs0, rfl, h0, hs0⟩ := hst.cons
  have hz := VR_script.mp h0
  subst hz
  have hs := hR.2.2.2.2.2
  obtain ⟨hX, hb1, hb2⟩ := X9 hB hG (k := 0) (by omega) (by omega)
  have e0 := hs.1
  refine va_slen hF.1 hF.2.1 hX hb1 hb2 hS hd ?_
  have e1 : Int32.ofNat (xl 0) = Int32.ofInt (m (-4) 0) := by rw [← e0]; rfl
  rw [e1]
  exact kk ls' _ hL ⟨VR_int.mpr ⟨rfl, by unfold inR; omega⟩, hs0⟩
theorem x_gets {d : Nat} {f : FM} {pc : Nat} {ls st : List SV} {m : Mem} {r : SV ⊕ String} {m' : Mem} {nm : String} {a : Int} (hq : (nm, a) ∈ SA9) {idx : Nat} (hlink : Cond.fieldLink f.2.1.cls idx "Flowkeeper" nm "[I" ∈ TS) (hd : decode f.1 pc = .ok (.getstatic idx, 3)) (k : Ex d f (pc + 3) ls ((7, a) :: st) m r m') : Ex d f pc ls st m r m' := by
  refine k.step rfl ?_
  intro S0 D ty xa xl xv hB p l e R s mid args below meth c9 hF hG hfr hlo H locs cells slots ρ L ls' st' Q hS hR hL hnn hst kk
  have hZ := hB.2.2.2.2.2.2.2.2.2 _ hq
  have hZ2 := (va_Z.moved hG.1.alike hZ).kept (H1 := s.heap) (fun q hq1 hq2 => hG.2.2 q (by omega))
  refine va_gets hF.1 hF.2.1 hZ2 hS hF.2.2.2.2.2.1 (hF.2.2.2.2.2.2.1 _ hlink) (fun _ h9 => h9) hd ?_
  exact kk ls' _ hL ⟨VR_script.mpr rfl, hst⟩
theorem x_sald {d : Nat} {f : FM} {pc : Nat} {ls st : List SV} {m : Mem} {r : SV ⊕ String} {m' : Mem} {j a : Int} (ha0 : 1 ≤ a) (ha1 : a < 5) (hj0 : 0 ≤ j) (hj1 : j < 16) (hr : inR (sar9 a j.toNat)) (hd : decode f.1 pc = .ok (.iaload, 1)) (k : Ex d f (pc + 1) ls ((0, sar9 a j.toNat) :: st) m r m') : Ex d f pc ls ((0, j) :: (7, a) :: st) m r m' := by
  refine k.step rfl ?_
  intro S0 D ty xa xl xv hB p l e R s mid args below meth c9 hF hG hfr hlo H locs cells slots ρ L ls' st' Q hS hR hL hnn hst kk
  obtain ⟨v0, vs0, rfl, h0, hs0⟩ := hst.cons
  obtain ⟨v1, vs1, rfl, h1, hs1⟩ := hs0.cons
  obtain ⟨rfl, r0⟩ := VR_int.mp h0
  have hz := VR_script.mp h1
  subst hz
  obtain ⟨hX, hb1, hb2⟩ := X9 hB hG (k := a) (by omega) (by omega)
  obtain ⟨hx1, hx2⟩ := hB.2.2.1 a ha0 ha1
  obtain ⟨hi, he⟩ := in9 (n := xl a) hj0 (by omega) (by omega)
  refine va_sld hF.1 hF.2.1 hX hb1 hb2 hS hi hd ?_
  rw [he, hx2 j.toNat (by omega)]
  exact kk ls' _ hL ⟨VR_int.mpr ⟨rfl, hr⟩, hs1⟩
theorem alo9_ne {m : Mem} {i t n a b : Int} (h1 : a ≠ i) (h2 : ¬ (a = -1 ∧ b = i)) (h3 : a ≠ -2) : alo9 m i t n a b = m a b := by
  unfold alo9
  rw [if_neg h1, if_neg h2, if_neg (fun h => h3 h.1), if_neg (fun h => h3 h.1)]
theorem alo9_kind {m : Mem} {i t n : Int} (hi : 0 < i) : alo9 m i t n (-1) i = t := by
  unfold alo9
  rw [if_neg (by omega), if_pos ⟨rfl, rfl⟩]
theorem alo9_zero {m : Mem} {i t n b : Int} : alo9 m i t n i b = 0 := by
  unfold alo9
  rw [if_pos rfl]
theorem alo9_c {m : Mem} {i t n : Int} (hi : 0 < i) : alo9 m i t n (-2) 0 = m (-2) 0 + 1 := by
  unfold alo9
  rw [if_neg (by omega), if_neg (by omega), if_pos ⟨rfl, rfl⟩]
theorem alo9_s {m : Mem} {i t n : Int} (hi : 0 < i) : alo9 m i t n (-2) 1 = m (-2) 1 + n := by
  unfold alo9
  rw [if_neg (by omega), if_neg (by omega), if_neg (by omega), if_pos ⟨rfl, rfl⟩]
theorem ent_ext {ty : Nat → ClassId} {ρ ρ' : Int → Nat} {m m2 : Mem} (hW : WF9 m) {i : Int} (hi : 0 < i) (h0 : m (-1) i ≠ 0) (hρ : ∀ y, 0 < y → m (-1) y ≠ 0 → ρ' y = ρ y) (hk : m2 (-1) i = m (-1) i) (hv : ∀ j, m2 i j = m i j) : ent ty ρ' m2 i = ent ty ρ m i := by
  unfold ent
  rw [hk]
  have hW1 := hW i hi h0
  split
  · rename_i ht
    congr 2
    apply List.map_congr_left
    intro j hj
    rw [hv]
    have h1 := hW1 (j : Int)
    unfold ety at h1
    rw [if_pos ht] at h1
    have e2 : ((j : Int)).toNat = j := by omega
    rw [e2] at h1
    unfold vof
    split
    · rfl
    · rename_i h10
      rcases h1.2.2 (by omega) with h2 | ⟨h2, h3⟩
      · rw [if_pos h2, if_pos h2]
      · rw [if_neg (by omega), if_neg (by omega), hρ _ h2 (by omega)]
  · split
    · simp only [hv]
    · split
      · simp only [hv]
      · split
        · simp only [hv]
        · rename_i ht1 ht2 ht3 ht4
          have e : (fun j : Nat => rof ρ' (m2 i j)) = fun j : Nat => rof ρ (m i j) := by
            funext j
            rw [hv]
            have h1 := hW1 (j : Int)
            unfold ety at h1
            rw [if_neg ht1, if_neg ht2, if_neg ht3, if_neg ht4] at h1
            unfold rof
            rcases h1.2.2 (by omega) with h2 | ⟨h2, h3⟩
            · rw [if_pos h2, if_pos h2]
            · rw [if_neg (by omega), if_neg (by omega), hρ _ h2 (by omega)]
          rw [e]
theorem okS.alo {m : Mem} {id t n τ x : Int} (h : okS m τ x) (hid : 0 < id) (hfr : m (-1) id = 0) : okS (alo9 m id t n) τ x := by
  refine ⟨h.1, h.2.1, fun h1 => ?_⟩
  rcases h.2.2 h1 with h2 | ⟨h2, h3⟩
  · exact Or.inl h2
  · refine Or.inr ⟨h2, ?_⟩
    have : x ≠ id := by
      intro e
      subst e
      omega
    rw [alo9_ne (by omega) (fun h => this h.2) (by omega)]
    exact h3
theorem WF9.alo {m : Mem} (h : WF9 m) {id t n : Int} (hid : 0 < id) (hfr : m (-1) id = 0) : WF9 (alo9 m id t n) := by
  intro i hi h0 j
  by_cases hi2 : i = id
  · subst hi2
    rw [alo9_zero]
    exact ⟨fun _ => inR_0, fun _ => Or.inl rfl, fun _ => Or.inl rfl⟩
  · have e1 : alo9 m id t n (-1) i = m (-1) i := alo9_ne (by omega) (fun h => hi2 h.2) (by omega)
    rw [e1] at h0 ⊢
    rw [alo9_ne hi2 (by omega) (by omega)]
    exact (h i hi h0 j).alo hid hfr
def rho9 (ρ : Int → Nat) (id : Int) (q : Nat) : Int → Nat := fun i => if i = id then q else ρ i
theorem rho9_eq {ρ : Int → Nat} {id : Int} {q : Nat} : rho9 ρ id q id = q := by unfold rho9; rw [if_pos rfl]
theorem rho9_ne {ρ : Int → Nat} {id i : Int} {q : Nat} (h : i ≠ id) : rho9 ρ id q i = ρ i := by unfold rho9; rw [if_neg h]
theorem Ext9.alo {ρ : Int → Nat} {m : Mem} {id t n : Int} {q : Nat} (hid : 0 < id) (hfr : m (-1) id = 0) : Ext9 ρ m (rho9 ρ id q) (alo9 m id t n) := by
  intro i hi h0
  have h1 : i ≠ id := by
    intro e
    subst e
    exact h0 hfr
  exact ⟨alo9_ne (by omega) (fun h => h1 h.2) (by omega), rho9_ne h1⟩
theorem RelH.alo {S0 : State} {D : va_G} {ty : Nat → ClassId} {xl : Int → Nat} {xv : Int → Nat → Int32} {ρ : Int → Nat} {m : Mem} {L : List Int} {H H1 : Heap} (h : RelH S0 D ty xl xv ρ m L H) {id t n : Int} (hid : 0 < id) (hfr : m (-1) id = 0) (ht : t ≠ 0) {q : Nat} {E : va_E} (hE : ent ty (rho9 ρ id q) (alo9 m id t n) id = E)
    (hP : va_P D vwCl (wld ty ρ m L ++ [(q, E)]) H1) (hD : va_D (fun q => S0.heap.size ≤ q) (wld ty ρ m L ++ [(q, E)])) : RelH S0 D ty xl xv (rho9 ρ id q) (alo9 m id t n) (L ++ [id]) H1 := by
  have hnot : id ∉ L := fun h9 => ((h.2.2.2.1 id).mp h9).2 hfr
  have hs : wld ty ρ m L ++ [(q, E)] = wld ty (rho9 ρ id q) (alo9 m id t n) (L ++ [id]) := by
    unfold wld
    rw [List.map_append]
    congr 1
    · apply List.map_congr_left
      intro i hi
      obtain ⟨h1, h2⟩ := (h.2.2.2.1 i).mp hi
      have hne : i ≠ id := fun e => hnot (e ▸ hi)
      have hx := Ext9.alo (ρ := ρ) (t := t) (n := n) (q := q) hid hfr
      rw [ent_ext (m := m) (ρ := ρ) h.2.2.2.2.1 h1 h2 (fun y hy hy0 => (hx y hy hy0).2) (hx i h1 h2).1 (fun j => alo9_ne hne (by omega) (by omega)), rho9_ne hne]
    · show [(q, E)] = [(rho9 ρ id q id, ent ty (rho9 ρ id q) (alo9 m id t n) id)]
      rw [hE, rho9_eq]
  rw [hs] at hP hD
  refine ⟨hP, hD, ?_, fun i => ?_, h.2.2.2.2.1.alo hid hfr, ?_⟩
  · rw [List.nodup_append]
    refine ⟨h.2.2.1, by simp, fun a ha b hb => ?_⟩
    rw [List.mem_singleton] at hb
    subst hb
    exact fun e => hnot (e ▸ ha)
  · rw [List.mem_append, List.mem_singleton]
    by_cases hi2 : i = id
    · subst hi2
      rw [alo9_kind hid]
      exact ⟨fun _ => ⟨hid, ht⟩, fun _ => Or.inr rfl⟩
    · have e1 : alo9 m id t n (-1) i = m (-1) i := alo9_ne (by omega) (fun h => hi2 h.2) (by omega)
      rw [e1, ← h.2.2.2.1 i]
      exact ⟨fun h => h.elim (fun h => h) (fun h => absurd h hi2), Or.inl⟩
  · have hs2 := h.2.2.2.2.2
    unfold SC9 at hs2 ⊢
    rw [alo9_ne (by omega) (by omega) (by omega)]
    refine ⟨hs2.1, fun j hj => ?_⟩
    rw [alo9_ne (by omega) (by omega) (by omega)]
    exact hs2.2 j hj
theorem mle9.alo {m : Mem} {id t n : Int} (hid : 0 < id) (hn : 0 ≤ n) : mle9 m (alo9 m id t n) := by
  unfold mle9
  rw [alo9_c hid, alo9_s hid]
  omega
theorem def9 {fd : FieldType} {ρ : Int → Nat} {τ : Int} (h : fdOK fd τ = true) : defaultValue fd = vof ρ τ 0 := by
  unfold vof
  cases fd with
  | int =>
    have h1 : τ = 0 := of_decide_eq_true h
    subst h1
    rfl
  | boolean =>
    have h1 : τ = 5 := of_decide_eq_true h
    subst h1
    rfl
  | object _ =>
    have h1 : 10 ≤ τ := of_decide_eq_true h
    rw [if_neg (by omega)]
    rfl
  | array _ =>
    have h1 : 10 ≤ τ := of_decide_eq_true h
    rw [if_neg (by omega)]
    rfl
  | _ => exact Bool.noConfusion h
theorem x_new {d : Nat} {f : FM} {pc : Nat} {ls st : List SV} {m : Mem} {r : SV ⊕ String} {m' : Mem} {C : String} {T : u_T} {N : Nat} (c : Nat) (hc : vwCl[c]? = some (C, T, N)) (hin : ∀ w ∈ u_ws C T N, w ∈ TS) (hN : nf9 c = N) (tyf : Nat → FieldType) (htyf : ∀ a, a < N → parseFieldDescriptor (T a).2.2.1 = some (tyf a)) (hfd : ∀ a, a < N → fdOK (tyf a) (fty c a) = true) {idx : Nat} (hcl9 : Cond.classLink f.2.1.cls idx C ∈ TS) (hins : Cond.instantiable C N ∈ TS) (hini : Cond.initialized C ∈ TS) {id t : Int} (hid : 0 < id) (hfz : m (-1) id = 0) (ht : t = 10 + (c : Int)) (hd : decode f.1 pc = .ok (.new idx, 3)) (k : Ex d f (pc + 3) ls ((t, id) :: st) (alo9 m id t N) r m') : Ex d f pc ls st m r m' := by
  refine k.mstep rfl (mle9.alo hid (by omega)) ?_
  intro S0 D ty xa xl xv hB p l e R s mid args below meth c9 hF hG hfr hlo H locs cells slots ρ L ls' st' Q hS hR hL hnn hst hcl hsl kk
  have hc13 := vwCl_at hc
  have hts := hF.2.2.2.2.2.2.1
  have hcl' := hcl
  have hsl' := hsl
  rw [alo9_c hid] at hcl
  rw [alo9_s hid] at hsl
  refine va_new (D := D) (Ts := TS) (fs := (List.range (nf9 c)).map (fun j : Nat => vof ρ (fty c j) 0)) hF.1 hF.2.1 hts hin tyf htyf hF.2.2.2.2.2.1 (hts _ hcl9) (hts _ hins) (hts _ hini) (K9 hB hG) hR.1 hR.2.1 hS (fun q h9 => Nat.le_trans hG.2.1 h9) hc ?_ (by omega) (by omega) hd ?_
  · intro j hj
    rw [def9 (ρ := ρ) (hfd j hj)]
    unfold vp_V
    rw [List.getD_eq_getElem?_getD, List.getElem?_map, List.getElem?_range (by omega)]
    rfl
  intro q H1 hP1 hD1 hS1
  refine kk H1 locs (cells + 1) (slots + N) (rho9 ρ id q) (L ++ [id]) ls' (.ref q :: st') hS1 (hR.alo hid hfz (by omega) ?_ hP1 hD1) (Ext9.alo hid hfz) (hL.ext (Ext9.alo hid hfz)) ⟨?_, SRel.ext (Ext9.alo hid hfz) hst⟩ ?_ ?_
  · rw [ent_obj (c := c) (by rw [alo9_kind hid]; exact ht) hc13]
    congr 2
    apply List.map_congr_left
    intro j hj
    rw [alo9_zero]
    unfold vof
    rfl
  · exact (VR_ref (by omega)).mpr (Or.inr ⟨hid, alo9_kind hid, by rw [rho9_eq]⟩)
  · rw [alo9_c hid]; omega
  · rw [alo9_s hid]; omega
theorem x_newi {d : Nat} {f : FM} {pc : Nat} {ls st : List SV} {m : Mem} {r : SV ⊕ String} {m' : Mem} (n : Nat) (hn : n < 100000) (harr : Cond.arrayClass .int ∈ TS) {id t : Int} (hid : 0 < id) (hfz : m (-1) id = 0) (ht : t = 100000 + (n : Int)) (hd : decode f.1 pc = .ok (.newarray .int, 2)) (k : Ex d f (pc + 2) ls ((t, id) :: st) (alo9 m id t n) r m') : Ex d f pc ls ((0, (n : Int)) :: st) m r m' := by
  refine k.mstep rfl (mle9.alo hid (by omega)) ?_
  intro S0 D ty xa xl xv hB p l e R s mid args below meth c9 hF hG hfr hlo H locs cells slots ρ L ls' st' Q hS hR hL hnn hst hcl hsl kk
  obtain ⟨v0, vs0, rfl, h0, hs0⟩ := hst.cons
  obtain ⟨rfl, r0⟩ := VR_int.mp h0
  have hts := hF.2.2.2.2.2.2.1
  have hcl' := hcl
  have hsl' := hsl
  rw [alo9_c hid] at hcl
  rw [alo9_s hid] at hsl
  have e9 : (Int32.ofInt (n : Int)).toNatClampNeg = n := by
    show (Int32.ofInt (n : Int)).toInt.toNat = n
    rw [i32_of r0]; omega
  refine va_newa (D := D) (atype := .int) (a0 := (n, .inl (fun _ => 0))) (N' := n) (ty := .int) hF.1 hF.2.1 (hts _ harr) rfl (K9 hB hG) hR.1 hR.2.1 hS (fun q h9 => Nat.le_trans hG.2.1 h9) (fun _ => rfl) (fun h9 => ?_) e9 ?_ (by omega) (by omega) hd ?_
  · have h8 := (i32_lt r0 inR_0).mp h9
    omega
  · show n * 4 ≤ 536870912
    omega
  intro q cA H1 hK1 hP1 hD1 hS1
  have hcA : cA = ty 0 := by
    have h1 : (tys9 ty ++ [(cA, .int)])[11]? = some (cA, .int) := rfl
    have h2 : (tys9 ty ++ [(cA, .int)])[0]? = some (ty 0, .int) := rfl
    have h3 : s.vm.findClass ("[" ++ (FieldType.int).toString) = some cA := (hK1.2 _ _ h1).2
    have h4 : s.vm.findClass ("[" ++ (FieldType.int).toString) = some (ty 0) := (hK1.2 _ _ h2).2
    exact Option.some.inj (h3.symm.trans h4)
  subst hcA
  refine kk H1 locs (cells + 1) (slots + n) (rho9 ρ id q) (L ++ [id]) ls' (.ref q :: vs0) hS1 (hR.alo hid hfz (by omega) ?_ hP1 hD1) (Ext9.alo hid hfz) (hL.ext (Ext9.alo hid hfz)) ⟨?_, SRel.ext (Ext9.alo hid hfz) hs0⟩ ?_ ?_
  · rw [ent_int (n := n) (by rw [alo9_kind hid]; exact ht) hn]
    simp only [alo9_zero]
    rfl
  · exact (VR_ref (by omega)).mpr (Or.inr ⟨hid, alo9_kind hid, by rw [rho9_eq]⟩)
  · rw [alo9_c hid]; omega
  · rw [alo9_s hid]; omega
theorem x_newz {d : Nat} {f : FM} {pc : Nat} {ls st : List SV} {m : Mem} {r : SV ⊕ String} {m' : Mem} (n : Nat) (hn : n < 100000) (harr : Cond.arrayClass .boolean ∈ TS) {id t : Int} (hid : 0 < id) (hfz : m (-1) id = 0) (ht : t = 200000 + (n : Int)) (hd : decode f.1 pc = .ok (.newarray .boolean, 2)) (k : Ex d f (pc + 2) ls ((t, id) :: st) (alo9 m id t n) r m') : Ex d f pc ls ((0, (n : Int)) :: st) m r m' := by
  refine k.mstep rfl (mle9.alo hid (by omega)) ?_
  intro S0 D ty xa xl xv hB p l e R s mid args below meth c9 hF hG hfr hlo H locs cells slots ρ L ls' st' Q hS hR hL hnn hst hcl hsl kk
  obtain ⟨v0, vs0, rfl, h0, hs0⟩ := hst.cons
  obtain ⟨rfl, r0⟩ := VR_int.mp h0
  have hts := hF.2.2.2.2.2.2.1
  have hcl' := hcl
  have hsl' := hsl
  rw [alo9_c hid] at hcl
  rw [alo9_s hid] at hsl
  have e9 : (Int32.ofInt (n : Int)).toNatClampNeg = n := by
    show (Int32.ofInt (n : Int)).toInt.toNat = n
    rw [i32_of r0]; omega
  refine va_newa (D := D) (atype := .boolean) (a0 := (n, .inl (fun _ => 0))) (N' := n) (ty := .boolean) hF.1 hF.2.1 (hts _ harr) rfl (K9 hB hG) hR.1 hR.2.1 hS (fun q h9 => Nat.le_trans hG.2.1 h9) (fun _ => rfl) (fun h9 => ?_) e9 ?_ (by omega) (by omega) hd ?_
  · have h8 := (i32_lt r0 inR_0).mp h9
    omega
  · show n * 1 ≤ 536870912
    omega
  intro q cA H1 hK1 hP1 hD1 hS1
  have hcA : cA = ty 1 := by
    have h1 : (tys9 ty ++ [(cA, .boolean)])[11]? = some (cA, .boolean) := rfl
    have h2 : (tys9 ty ++ [(cA, .boolean)])[1]? = some (ty 1, .boolean) := rfl
    have h3 : s.vm.findClass ("[" ++ (FieldType.boolean).toString) = some cA := (hK1.2 _ _ h1).2
    have h4 : s.vm.findClass ("[" ++ (FieldType.boolean).toString) = some (ty 1) := (hK1.2 _ _ h2).2
    exact Option.some.inj (h3.symm.trans h4)
  subst hcA
  refine kk H1 locs (cells + 1) (slots + n) (rho9 ρ id q) (L ++ [id]) ls' (.ref q :: vs0) hS1 (hR.alo hid hfz (by omega) ?_ hP1 hD1) (Ext9.alo hid hfz) (hL.ext (Ext9.alo hid hfz)) ⟨?_, SRel.ext (Ext9.alo hid hfz) hs0⟩ ?_ ?_
  · rw [ent_bool (n := n) (by rw [alo9_kind hid]; exact ht) hn]
    simp only [alo9_zero]
    rfl
  · exact (VR_ref (by omega)).mpr (Or.inr ⟨hid, alo9_kind hid, by rw [rho9_eq]⟩)
  · rw [alo9_c hid]; omega
  · rw [alo9_s hid]; omega
theorem x_newq {d : Nat} {f : FM} {pc : Nat} {ls st : List SV} {m : Mem} {r : SV ⊕ String} {m' : Mem} {C : String} (c n t0 : Nat) (hn : n < 1000) (hAO : C ∈ AO9) (ht0 : ∀ ty : Nat → ClassId, (tys9 ty)[t0]? = some (ty (3 + c), .object C)) {idx : Nat} (hcl9 : Cond.classLink f.2.1.cls idx C ∈ TS) {id t : Int} (hid : 0 < id) (hfz : m (-1) id = 0) (ht : t = 400000 + 1000 * (c : Int) + (n : Int)) (hd : decode f.1 pc = .ok (.anewarray idx, 3)) (k : Ex d f (pc + 3) ls ((t, id) :: st) (alo9 m id t n) r m') : Ex d f pc ls ((0, (n : Int)) :: st) m r m' := by
  refine k.mstep rfl (mle9.alo hid (by omega)) ?_
  intro S0 D ty xa xl xv hB p l e R s mid args below meth c9 hF hG hfr hlo H locs cells slots ρ L ls' st' Q hS hR hL hnn hst hcl hsl kk
  obtain ⟨v0, vs0, rfl, h0, hs0⟩ := hst.cons
  obtain ⟨rfl, r0⟩ := VR_int.mp h0
  have hts := hF.2.2.2.2.2.2.1
  have hcl' := hcl
  have hsl' := hsl
  rw [alo9_c hid] at hcl
  rw [alo9_s hid] at hsl
  have e9 : (Int32.ofInt (n : Int)).toNatClampNeg = n := by
    show (Int32.ofInt (n : Int)).toInt.toNat = n
    rw [i32_of r0]; omega
  refine va_newq (D := D) (N' := n) hF.1 hF.2.1 hF.2.2.2.2.2.1 (hts _ hcl9) (va_AO.moved hG.1.alike (hB.2.2.2.1 C hAO)) (K9 hB hG) hR.1 hR.2.1 hS (fun q h9 => Nat.le_trans hG.2.1 h9) (fun h9 => ?_) e9 (by omega) (by omega) (by omega) hd ?_
  · have h8 := (i32_lt r0 inR_0).mp h9
    omega
  intro q cA H1 hK1 hP1 hD1 hS1
  have hcA : cA = ty (3 + c) := by
    have hlt : t0 < (tys9 ty).length := (List.getElem?_eq_some_iff.mp (ht0 ty)).1
    have h1 : (tys9 ty ++ [(cA, FieldType.object C)])[11]? = some (cA, .object C) := rfl
    have h2 : (tys9 ty ++ [(cA, FieldType.object C)])[t0]? = some (ty (3 + c), .object C) := by rw [List.getElem?_append_left hlt]; exact ht0 ty
    obtain ⟨_, _, -, -, -, h3⟩ := (hK1.2 _ _ h1).2
    obtain ⟨_, _, -, -, -, h4⟩ := (hK1.2 _ _ h2).2
    exact Option.some.inj (h3.symm.trans h4)
  subst hcA
  refine kk H1 locs (cells + 1) (slots + n) (rho9 ρ id q) (L ++ [id]) ls' (.ref q :: vs0) hS1 (hR.alo hid hfz (by omega) ?_ hP1 hD1) (Ext9.alo hid hfz) (hL.ext (Ext9.alo hid hfz)) ⟨?_, SRel.ext (Ext9.alo hid hfz) hs0⟩ ?_ ?_
  · rw [ent_ref (c := c) (n := n) (by rw [alo9_kind hid]; exact ht) hn]
    simp only [alo9_zero]
    rfl
  · exact (VR_ref (by omega)).mpr (Or.inr ⟨hid, alo9_kind hid, by rw [rho9_eq]⟩)
  · rw [alo9_c hid]; omega
  · rw [alo9_s hid]; omega
