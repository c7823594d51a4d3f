/-! reading and writing -/
theorem K9 {S0 : State} {D : va_G} {ty : Nat → ClassId} {xa xl : Int → Nat} {xv : Int → Nat → Int32} (hB : BF S0 D ty xa xl xv) {s : State} (hG : GS S0 s) : va_K D vwCl (tys9 ty) s := va_K.moved hG.1.alike hB.1
theorem in9 {j : Int} {n : Nat} (h0 : 0 ≤ j) (h1 : j < n) (hn : n < 100000) : vp_in (Int32.ofInt j) n ∧ (Int32.ofInt j).toNatClampNeg = j.toNat := by
  have hr : inR j := by unfold inR; omega
  have e : (Int32.ofInt j).toNatClampNeg = j.toNat := by
    show (Int32.ofInt j).toInt.toNat = j.toNat
    rw [i32_of hr]
  refine ⟨?_, e⟩
  unfold vp_in
  rw [e]
  intro h
  rcases h with h | h
  · have := (i32_lt hr inR_0).mp h
    omega
  · omega
theorem toNat9 {j : Int} (h0 : 0 ≤ j) : ((j.toNat : Nat) : Int) = j := by omega
theorem WF9.at {m : Mem} (h : WF9 m) {x t : Int} (hx : 0 < x) (ht : m (-1) x = t) (h0 : t ≠ 0) (j : Int) : okS m (ety t j) (m x j) := by
  have := h x hx (by rw [ht]; exact h0) j
  rw [ht] at this
  exact this
theorem fields9 {ρ : Int → Nat} {m : Mem} {x : Int} {c k : Nat} (hk : k < nf9 c) : ((List.range (nf9 c)).map (fun j : Nat => vof ρ (fty c j) (m x j)))[k]? = some (vof ρ (fty c k) (m x k)) := by
  rw [List.getElem?_map, List.getElem?_range hk]; rfl
theorem fieldsSet9 {ρ : Int → Nat} {m : Mem} {x v : Int} {c k : Nat} : ((List.range (nf9 c)).map (fun j : Nat => vof ρ (fty c j) (upd9 m x k v x j))) = ((List.range (nf9 c)).map (fun j : Nat => vof ρ (fty c j) (m x j))).set k (vof ρ (fty c k) v) := by
  apply List.ext_getElem?
  intro j
  rw [List.getElem?_set, List.getElem?_map, List.getElem?_map, List.length_map, List.length_range]
  by_cases hj : k = j
  · subst hj
    rw [if_pos rfl]
    by_cases hk : k < nf9 c
    · rw [if_pos hk, List.getElem?_range hk, Option.map_some, upd9_eq]
    · rw [if_neg hk, List.getElem?_eq_none (by rw [List.length_range]; omega)]; rfl
  · rw [if_neg hj]
    cases hr : (List.range (nf9 c))[j]? with
    | none => rfl
    | some i =>
      have : i = j := by
        have h1 := (List.getElem?_eq_some_iff.mp hr)
        obtain ⟨h2, h3⟩ := h1
        rw [List.getElem_range] at h3
        exact h3.symm
      subst this
      rw [Option.map_some, Option.map_some, upd9_neb (by omega)]
/-- what may be put into a place of type τ: the value's tag t and number v -/
def putOK (τ t v : Int) : Prop := τ = 0 ∧ t = 0 ∨ τ = 5 ∧ t = 0 ∧ (v = 0 ∨ v = 1) ∨ 10 ≤ τ ∧ t = τ
theorem putOK.ok {xa : Int → Nat} {ρ : Int → Nat} {m : Mem} {τ t v : Int} {w : Value} (h : putOK τ t v) (hv : VR xa ρ m (t, v) w) : okS m τ v ∧ w = vof ρ τ v := by
  unfold vof
  rcases h with ⟨rfl, rfl⟩ | ⟨rfl, rfl, h⟩ | ⟨h, rfl⟩
  · obtain ⟨rfl, hr⟩ := VR_int.mp hv
    exact ⟨⟨fun _ => hr, fun h => absurd h (by decide), fun h => absurd h (by decide)⟩, rfl⟩
  · obtain ⟨rfl, hr⟩ := VR_int.mp hv
    exact ⟨⟨fun _ => hr, fun _ => h, fun h => absurd h (by decide)⟩, rfl⟩
  · rw [if_neg (show ¬ t < 10 by omega)]
    rcases (VR_ref h).mp hv with ⟨rfl, rfl⟩ | ⟨h1, h2, rfl⟩
    · exact ⟨⟨fun _ => inR_0, fun h5 => absurd h5 (by omega), fun _ => Or.inl rfl⟩, rfl⟩
    · exact ⟨⟨fun h5 => absurd h5 (by omega), fun h5 => absurd h5 (by omega), fun _ => Or.inr ⟨h1, h2⟩⟩, by rw [if_neg (by omega)]⟩
def fdOK (fd : FieldType) (τ : Int) : Bool := match fd with
  | .int => decide (τ = 0)
  | .boolean => decide (τ = 5)
  | .object _ => decide (10 ≤ τ)
  | .array _ => decide (10 ≤ τ)
  | _ => false
theorem fdOK.fit {fd : FieldType} {ρ : Int → Nat} {m : Mem} {τ v : Int} (h : fdOK fd τ = true) (hv : okS m τ v) : narrow fd (vof ρ τ v) = vof ρ τ v ∧ fits fd (vof ρ τ v) = true := by
  unfold vof
  cases fd with
  | int =>
    have h1 : τ = 0 := of_decide_eq_true h
    subst h1
    exact ⟨rfl, rfl⟩
  | boolean =>
    have h1 : τ = 5 := of_decide_eq_true h
    subst h1
    rcases hv.2.1 rfl with rfl | rfl <;> exact ⟨rfl, rfl⟩
  | object _ =>
    have h1 : 10 ≤ τ := of_decide_eq_true h
    rw [if_neg (by omega)]
    split <;> exact ⟨rfl, rfl⟩
  | array _ =>
    have h1 : 10 ≤ τ := of_decide_eq_true h
    rw [if_neg (by omega)]
    split <;> exact ⟨rfl, rfl⟩
  | _ => exact Bool.noConfusion h

theorem x_get {d : Nat} {f : FM} {pc : Nat} {ls st : List SV} {m : Mem} {r : SV ⊕ String} {m' : Mem} {C : String} {T : u_T} {N : Nat} (c j : Nat) (hc : vwCl[c]? = some (C, T, N)) (hin : ∀ w ∈ u_ws C T N, w ∈ TS) (hj : j < N) (hjn : j < nf9 c) {idx : Nat} (hlink : Cond.fieldLink f.2.1.cls idx (T j).1 (T j).2.1 (T j).2.2.1 ∈ TS) {t x τ : Int} (ht : t = 10 + (c : Int)) (hx : 0 < x) (hτ : fty c j < 10 ∧ τ = 0 ∨ 10 ≤ fty c j ∧ τ = fty c j) (hd : decode f.1 pc = .ok (.getfield idx, 3)) (k : Ex d f (pc + 3) ls ((τ, m x j) :: st) m r m') : Ex d f pc ls ((t, x) :: st) m r m' := by
  refine k.step rfl ?_
  intro S0 D ty xa xl xv hB p l e R s mid args below meth c9 hF hG hfr hlo H locs cells slots ρ L ls' st' Q hS hR hL hnn hst kk
  have hc13 := vwCl_at hc
  have ht10 : 10 ≤ t := by omega
  obtain ⟨v0, vs0, rfl, h0, hs0⟩ := hst.cons
  rcases (VR_ref ht10).mp h0 with hz | ⟨-, hm1, rfl⟩
  · exact absurd hz.1 (by omega)
  subst ht
  obtain ⟨q0, hq0, hw⟩ := hR.at hx hm1 (by omega)
  rw [ent_obj hm1 hc13] at hw
  refine va_get (D := D) (Ts := TS) hF.1 hF.2.1 hF.2.2.2.2.2.2.1 hin hF.2.2.2.2.2.1 (K9 hB hG) hR.1 q0 hw hc j hj (hF.2.2.2.2.2.2.1 _ hlink) (fun _ h9 => h9) (fields9 hjn) hd ?_
  have hok := hR.2.2.2.2.1.at hx hm1 (by omega) (j : Int)
  rw [ety_obj hc13] at hok
  exact kk ls' _ hL ⟨VR_vof hok hτ, hs0⟩
theorem x_put {d : Nat} {f : FM} {pc : Nat} {ls st : List SV} {m : Mem} {r : SV ⊕ String} {m' : Mem} {C : String} {T : u_T} {N : Nat} (c j : Nat) (hc : vwCl[c]? = some (C, T, N)) (hin : ∀ w ∈ u_ws C T N, w ∈ TS) (hj : j < N) (hjn : j < nf9 c) {idx : Nat} (hlink : Cond.fieldLink f.2.1.cls idx (T j).1 (T j).2.1 (T j).2.2.1 ∈ TS) (tyf : Nat → FieldType) (htyf : ∀ a, a < N → parseFieldDescriptor (T a).2.2.1 = some (tyf a)) (hnm : ∀ a, a < N → ∀ b, b < N → a ≠ b → (T a).2.1 ≠ (T b).2.1) (hfin : (T j).2.2.2 = false) {t t2 x v : Int} (ht : t = 10 + (c : Int)) (hx : 0 < x) (hfd : fdOK (tyf j) (fty c j) = true) (hput : putOK (fty c j) t2 v) (hd : decode f.1 pc = .ok (.putfield idx, 3)) (k : Ex d f (pc + 3) ls st (upd9 m x j v) r m') : Ex d f pc ls ((t2, v) :: (t, x) :: st) m r m' := by
  refine k.mstep rfl (mle9.upd hx) ?_
  intro S0 D ty xa xl xv hB p l e R s mid args below meth c9 hF hG hfr hlo H locs cells slots ρ L ls' st' Q hS hR hL hnn hst hcl hsl kk
  have hc13 := vwCl_at hc
  have ht10 : 10 ≤ t := by omega
  obtain ⟨v0, vs0, rfl, h0, hs0⟩ := hst.cons
  obtain ⟨v1, vs1, rfl, h1, hs1⟩ := hs0.cons
  rcases (VR_ref ht10).mp h1 with hz | ⟨-, hm1, rfl⟩
  · exact absurd hz.1 (by omega)
  subst ht
  obtain ⟨q0, hq0, hw⟩ := hR.at hx hm1 (by omega)
  rw [ent_obj hm1 hc13] at hw
  obtain ⟨hok, rfl⟩ := hput.ok h0
  obtain ⟨hnar, hfit⟩ := fdOK.fit (ρ := ρ) hfd hok
  refine va_put (D := D) (Ts := TS) (fs := (List.range (nf9 c)).map (fun j : Nat => vof ρ (fty c j) (m x j))) hF.1 hF.2.1 hF.2.2.2.2.2.2.1 hin tyf htyf hnm hF.2.2.2.2.2.1 (K9 hB hG) hR.1 hR.2.1 hS q0 hw hc j hj (hF.2.2.2.2.2.2.1 _ hlink) (fun _ h9 => h9) hfin (htyf j hj) hnar hfit (by rw [List.length_map, List.length_range]; exact hjn) hd ?_
  intro H1 locs1 hP1 hD1 hS1
  have hok2 : okS m (ety (m (-1) x) j) v := by rw [hm1, ety_obj hc13]; exact hok
  refine kk H1 locs1 cells slots ρ L ls' vs1 hS1 (hR.upd hx hok2 hq0 ?_ hP1 hD1) (Ext9.upd hx) (hL.ext (Ext9.upd hx)) (SRel.ext (Ext9.upd hx) hs1) ?_ ?_
  · rw [ent_obj (by rw [upd9_ne (by omega)]; exact hm1) hc13, fieldsSet9]
  · rw [upd9_ne (by omega)]; omega
  · rw [upd9_ne (by omega)]; omega
theorem x_putF {d : Nat} {f : FM} {pc : Nat} {ls st : List SV} {m : Mem} {r : SV ⊕ String} {m' : Mem} {C : String} {T : u_T} {N : Nat} (c j : Nat) (hc : vwCl[c]? = some (C, T, N)) (hin : ∀ w ∈ u_ws C T N, w ∈ TS) (hj : j < N) (hjn : j < nf9 c) {idx : Nat} (hlink : Cond.fieldLink f.2.1.cls idx (T j).1 (T j).2.1 (T j).2.2.1 ∈ TS) (tyf : Nat → FieldType) (htyf : ∀ a, a < N → parseFieldDescriptor (T a).2.2.1 = some (tyf a)) (hnm : ∀ a, a < N → ∀ b, b < N → a ≠ b → (T a).2.1 ≠ (T b).2.1) (hfin : (T j).2.2.2 = true) (hini : f.2.1.name = "<init>") (hdecl : (T j).1 = f.2.1.cls) {t t2 x v : Int} (ht : t = 10 + (c : Int)) (hx : 0 < x) (hfd : fdOK (tyf j) (fty c j) = true) (hput : putOK (fty c j) t2 v) (hd : decode f.1 pc = .ok (.putfield idx, 3)) (k : Ex d f (pc + 3) ls st (upd9 m x j v) r m') : Ex d f pc ls ((t2, v) :: (t, x) :: st) m r m' := by
  refine k.mstep rfl (mle9.upd hx) ?_
  intro S0 D ty xa xl xv hB p l e R s mid args below meth c9 hF hG hfr hlo H locs cells slots ρ L ls' st' Q hS hR hL hnn hst hcl hsl kk
  have hc13 := vwCl_at hc
  have ht10 : 10 ≤ t := by omega
  obtain ⟨v0, vs0, rfl, h0, hs0⟩ := hst.cons
  obtain ⟨v1, vs1, rfl, h1, hs1⟩ := hs0.cons
  rcases (VR_ref ht10).mp h1 with hz | ⟨-, hm1, rfl⟩
  · exact absurd hz.1 (by omega)
  subst ht
  obtain ⟨q0, hq0, hw⟩ := hR.at hx hm1 (by omega)
  rw [ent_obj hm1 hc13] at hw
  obtain ⟨hok, rfl⟩ := hput.ok h0
  obtain ⟨hnar, hfit⟩ := fdOK.fit (ρ := ρ) hfd hok
  refine va_putF (D := D) (Ts := TS) (fs := (List.range (nf9 c)).map (fun j : Nat => vof ρ (fty c j) (m x j))) hF.1 hF.2.1 hF.2.2.2.2.2.2.1 hin tyf htyf hnm hF.2.2.2.2.2.1 (K9 hB hG) hR.1 hR.2.1 hS q0 hw hc j hj (hF.2.2.2.2.2.2.1 _ hlink) (fun _ h9 => h9) hfin (by rw [hF.2.2.2.2.2.2.2.1, hini]) hdecl (htyf j hj) hnar hfit (by rw [List.length_map, List.length_range]; exact hjn) hd ?_
  intro H1 locs1 hP1 hD1 hS1
  have hok2 : okS m (ety (m (-1) x) j) v := by rw [hm1, ety_obj hc13]; exact hok
  refine kk H1 locs1 cells slots ρ L ls' vs1 hS1 (hR.upd hx hok2 hq0 ?_ hP1 hD1) (Ext9.upd hx) (hL.ext (Ext9.upd hx)) (SRel.ext (Ext9.upd hx) hs1) ?_ ?_
  · rw [ent_obj (by rw [upd9_ne (by omega)]; exact hm1) hc13, fieldsSet9]
  · rw [upd9_ne (by omega)]; omega
  · rw [upd9_ne (by omega)]; omega
theorem x_iald {d : Nat} {f : FM} {pc : Nat} {ls st : List SV} {m : Mem} {r : SV ⊕ String} {m' : Mem} (n : Nat) (hn : n < 100000) {t x j : Int} (ht : t = 100000 + (n : Int)) (hx : 0 < x) (hj0 : 0 ≤ j) (hj1 : j < n) (hd : decode f.1 pc = .ok (.iaload, 1)) (k : Ex d f (pc + 1) ls ((0, m x j) :: st) m r m') : Ex d f pc ls ((0, j) :: (t, x) :: st) m r m' := by
  refine k.step rfl ?_
  intro S0 D ty xa xl xv hB p l e R s mid args below meth c9 hF hG hfr hlo H locs cells slots ρ L ls' st' Q hS hR hL hnn hst kk
  have ht10 : 10 ≤ t := by omega
  obtain ⟨v0, vs0, rfl, h0, hs0⟩ := hst.cons
  obtain ⟨v1, vs1, rfl, h1, hs1⟩ := hs0.cons
  obtain ⟨rfl, r0⟩ := VR_int.mp h0
  rcases (VR_ref ht10).mp h1 with hz | ⟨-, hm1, rfl⟩
  · exact absurd hz.1 (by omega)
  subst ht
  obtain ⟨q0, hq0, hw⟩ := hR.at hx hm1 (by omega)
  rw [ent_int hm1 hn] at hw
  obtain ⟨hi, he⟩ := in9 hj0 hj1 hn
  refine va_iald (D := D) hF.1 hF.2.1 (K9 hB hG) hR.1 q0 0 hw rfl hi hd ?_
  have hok := hR.2.2.2.2.1.at hx hm1 (by omega) j
  simp only [he, toNat9 hj0]
  exact kk ls' _ hL ⟨VR_int.mpr ⟨rfl, hok.1 (by rw [ety_int hn]; decide)⟩, hs1⟩
theorem x_zald {d : Nat} {f : FM} {pc : Nat} {ls st : List SV} {m : Mem} {r : SV ⊕ String} {m' : Mem} (n : Nat) (hn : n < 100000) {t x j : Int} (ht : t = 200000 + (n : Int)) (hx : 0 < x) (hj0 : 0 ≤ j) (hj1 : j < n) (hd : decode f.1 pc = .ok (.baload, 1)) (k : Ex d f (pc + 1) ls ((0, m x j) :: st) m r m') : Ex d f pc ls ((0, j) :: (t, x) :: st) m r m' := by
  refine k.step rfl ?_
  intro S0 D ty xa xl xv hB p l e R s mid args below meth c9 hF hG hfr hlo H locs cells slots ρ L ls' st' Q hS hR hL hnn hst kk
  have ht10 : 10 ≤ t := by omega
  obtain ⟨v0, vs0, rfl, h0, hs0⟩ := hst.cons
  obtain ⟨v1, vs1, rfl, h1, hs1⟩ := hs0.cons
  obtain ⟨rfl, r0⟩ := VR_int.mp h0
  rcases (VR_ref ht10).mp h1 with hz | ⟨-, hm1, rfl⟩
  · exact absurd hz.1 (by omega)
  subst ht
  obtain ⟨q0, hq0, hw⟩ := hR.at hx hm1 (by omega)
  rw [ent_bool hm1 hn] at hw
  obtain ⟨hi, he⟩ := in9 hj0 hj1 hn
  refine va_zald (D := D) hF.1 hF.2.1 (K9 hB hG) hR.1 q0 1 hw rfl hi hd ?_
  have hok := hR.2.2.2.2.1.at hx hm1 (by omega) j
  simp only [he, toNat9 hj0]
  exact kk ls' _ hL ⟨VR_int.mpr ⟨rfl, hok.1 (by rw [ety_bool hn]; decide)⟩, hs1⟩
theorem x_iast {d : Nat} {f : FM} {pc : Nat} {ls st : List SV} {m : Mem} {r : SV ⊕ String} {m' : Mem} (n : Nat) (hn : n < 100000) {t x j v : Int} (ht : t = 100000 + (n : Int)) (hx : 0 < x) (hj0 : 0 ≤ j) (hj1 : j < n) (hd : decode f.1 pc = .ok (.iastore, 1)) (k : Ex d f (pc + 1) ls st (upd9 m x j v) r m') : Ex d f pc ls ((0, v) :: (0, j) :: (t, x) :: st) m r m' := by
  refine k.mstep rfl (mle9.upd hx) ?_
  intro S0 D ty xa xl xv hB p l e R s mid args below meth c9 hF hG hfr hlo H locs cells slots ρ L ls' st' Q hS hR hL hnn hst hcl hsl kk
  have ht10 : 10 ≤ t := by omega
  obtain ⟨v0, vs0, rfl, h0, hs0⟩ := hst.cons
  obtain ⟨v1, vs1, rfl, h1, hs1⟩ := hs0.cons
  obtain ⟨v2, vs2, rfl, h2, hs2⟩ := hs1.cons
  obtain ⟨rfl, rv⟩ := VR_int.mp h0
  obtain ⟨rfl, r1⟩ := VR_int.mp h1
  rcases (VR_ref ht10).mp h2 with hz | ⟨-, hm1, rfl⟩
  · exact absurd hz.1 (by omega)
  subst ht
  obtain ⟨q0, hq0, hw⟩ := hR.at hx hm1 (by omega)
  rw [ent_int hm1 hn] at hw
  obtain ⟨hi, he⟩ := in9 hj0 hj1 hn
  refine va_iast (D := D) hF.1 hF.2.1 (K9 hB hG) hR.1 hR.2.1 hS q0 0 hw rfl hi hd ?_
  intro H1 locs1 hP1 hD1 hS1
  have hok2 : okS m (ety (m (-1) x) j) v := by rw [hm1, ety_int hn]; exact ⟨fun _ => rv, fun h5 => absurd h5 (by decide), fun h5 => absurd h5 (by decide)⟩
  refine kk H1 locs1 cells slots ρ L ls' vs2 hS1 (hR.upd hx hok2 hq0 ?_ hP1 hD1) (Ext9.upd hx) (hL.ext (Ext9.upd hx)) (SRel.ext (Ext9.upd hx) hs2) ?_ ?_
  · rw [ent_int (by rw [upd9_ne (by omega)]; exact hm1) hn]
    have e9 : (fun a : Nat => Int32.ofInt (upd9 m x j v x a)) = fun a : Nat => if a = j.toNat then Int32.ofInt v else Int32.ofInt (m x a) := by
      funext a
      unfold upd9
      by_cases ha : (a : Int) = j
      · rw [if_pos ⟨rfl, ha⟩, if_pos (by omega)]
      · rw [if_neg (fun h9 => ha h9.2), if_neg (by omega)]
    rw [e9]
    simp only [he, upd]
    rfl
  · rw [upd9_ne (by omega)]; omega
  · rw [upd9_ne (by omega)]; omega
theorem x_zast {d : Nat} {f : FM} {pc : Nat} {ls st : List SV} {m : Mem} {r : SV ⊕ String} {m' : Mem} (n : Nat) (hn : n < 100000) {t x j v : Int} (ht : t = 200000 + (n : Int)) (hx : 0 < x) (hj0 : 0 ≤ j) (hj1 : j < n) (hv01 : v = 0 ∨ v = 1) (hd : decode f.1 pc = .ok (.bastore, 1)) (k : Ex d f (pc + 1) ls st (upd9 m x j v) r m') : Ex d f pc ls ((0, v) :: (0, j) :: (t, x) :: st) m r m' := by
  refine k.mstep rfl (mle9.upd hx) ?_
  intro S0 D ty xa xl xv hB p l e R s mid args below meth c9 hF hG hfr hlo H locs cells slots ρ L ls' st' Q hS hR hL hnn hst hcl hsl kk
  have ht10 : 10 ≤ t := by omega
  obtain ⟨v0, vs0, rfl, h0, hs0⟩ := hst.cons
  obtain ⟨v1, vs1, rfl, h1, hs1⟩ := hs0.cons
  obtain ⟨v2, vs2, rfl, h2, hs2⟩ := hs1.cons
  obtain ⟨rfl, rv⟩ := VR_int.mp h0
  obtain ⟨rfl, r1⟩ := VR_int.mp h1
  rcases (VR_ref ht10).mp h2 with hz | ⟨-, hm1, rfl⟩
  · exact absurd hz.1 (by omega)
  subst ht
  obtain ⟨q0, hq0, hw⟩ := hR.at hx hm1 (by omega)
  rw [ent_bool hm1 hn] at hw
  obtain ⟨hi, he⟩ := in9 hj0 hj1 hn
  have hnar : vp_nar .boolean (Int32.ofInt v) = Int32.ofInt v := by rcases hv01 with rfl | rfl <;> rfl
  refine va_zast (D := D) hF.1 hF.2.1 (K9 hB hG) hR.1 hR.2.1 hS q0 1 hw rfl hi hd ?_
  intro H1 locs1 hP1 hD1 hS1
  have hok2 : okS m (ety (m (-1) x) j) v := by rw [hm1, ety_bool hn]; exact ⟨fun _ => rv, fun _ => hv01, fun h5 => absurd h5 (by decide)⟩
  refine kk H1 locs1 cells slots ρ L ls' vs2 hS1 (hR.upd hx hok2 hq0 ?_ hP1 hD1) (Ext9.upd hx) (hL.ext (Ext9.upd hx)) (SRel.ext (Ext9.upd hx) hs2) ?_ ?_
  · rw [ent_bool (by rw [upd9_ne (by omega)]; exact hm1) hn]
    have e9 : (fun a : Nat => Int32.ofInt (upd9 m x j v x a)) = fun a : Nat => if a = j.toNat then Int32.ofInt v else Int32.ofInt (m x a) := by
      funext a
      unfold upd9
      by_cases ha : (a : Int) = j
      · rw [if_pos ⟨rfl, ha⟩, if_pos (by omega)]
      · rw [if_neg (fun h9 => ha h9.2), if_neg (by omega)]
    rw [e9]
    simp only [he, hnar, upd]
    rfl
  · rw [upd9_ne (by omega)]; omega
  · rw [upd9_ne (by omega)]; omega
theorem x_aald {d : Nat} {f : FM} {pc : Nat} {ls st : List SV} {m : Mem} {r : SV ⊕ String} {m' : Mem} (c n t0 : Nat) {C : String} (hn : n < 1000) (ht0 : ∀ ty : Nat → ClassId, (tys9 ty)[t0]? = some (ty (3 + c), .object C)) {t x j τ : Int} (ht : t = 400000 + 1000 * (c : Int) + (n : Int)) (hτ : τ = 10 + (c : Int)) (hx : 0 < x) (hj0 : 0 ≤ j) (hj1 : j < n) (hd : decode f.1 pc = .ok (.aaload, 1)) (k : Ex d f (pc + 1) ls ((τ, m x j) :: st) m r m') : Ex d f pc ls ((0, j) :: (t, x) :: st) m r m' := by
  refine k.step rfl ?_
  intro S0 D ty xa xl xv hB p l e R s mid args below meth c9 hF hG hfr hlo H locs cells slots ρ L ls' st' Q hS hR hL hnn hst kk
  have ht10 : 10 ≤ t := by omega
  obtain ⟨v0, vs0, rfl, h0, hs0⟩ := hst.cons
  obtain ⟨v1, vs1, rfl, h1, hs1⟩ := hs0.cons
  obtain ⟨rfl, r0⟩ := VR_int.mp h0
  rcases (VR_ref ht10).mp h1 with hz | ⟨-, hm1, rfl⟩
  · exact absurd hz.1 (by omega)
  subst ht
  obtain ⟨q0, hq0, hw⟩ := hR.at hx hm1 (by omega)
  rw [ent_ref hm1 hn] at hw
  obtain ⟨hi, he⟩ := in9 hj0 hj1 (by omega)
  refine va_aldq (D := D) hF.1 hF.2.1 (K9 hB hG) hR.1 q0 t0 hw (ht0 ty) hi hd ?_
  have hok := hR.2.2.2.2.1.at hx hm1 (by omega) j
  rw [ety_ref hn] at hok
  simp only [he, toNat9 hj0]
  have e9 : va_rf (rof ρ (m x j)) = vof ρ (10 + (c : Int)) (m x j) := by
    unfold vof rof
    rw [if_neg (show ¬ (10 + (c : Int) < 10) by omega)]
    by_cases hz : m x j = 0
    · rw [if_pos hz, if_pos hz]; rfl
    · rw [if_neg hz, if_neg hz]; rfl
  rw [e9]
  subst hτ
  exact kk ls' _ hL ⟨VR_vof hok (Or.inr ⟨by omega, rfl⟩), hs1⟩
theorem x_aast {d : Nat} {f : FM} {pc : Nat} {ls st : List SV} {m : Mem} {r : SV ⊕ String} {m' : Mem} (c n t0 : Nat) {C : String} {T : u_T} {N : Nat} (hc : vwCl[c]? = some (C, T, N)) (hn : n < 1000) (ht0 : ∀ ty : Nat → ClassId, (tys9 ty)[t0]? = some (ty (3 + c), .object C)) {t t2 x j v : Int} (ht : t = 400000 + 1000 * (c : Int) + (n : Int)) (ht2 : t2 = 10 + (c : Int)) (hx : 0 < x) (hv : 0 < v) (hj0 : 0 ≤ j) (hj1 : j < n) (hd : decode f.1 pc = .ok (.aastore, 1)) (k : Ex d f (pc + 1) ls st (upd9 m x j v) r m') : Ex d f pc ls ((t2, v) :: (0, j) :: (t, x) :: st) m r m' := by
  refine k.mstep rfl (mle9.upd hx) ?_
  intro S0 D ty xa xl xv hB p l e R s mid args below meth c9 hF hG hfr hlo H locs cells slots ρ L ls' st' Q hS hR hL hnn hst hcl hsl kk
  have hc13 := vwCl_at hc
  have ht10 : 10 ≤ t := by omega
  obtain ⟨v0, vs0, rfl, h0, hs0⟩ := hst.cons
  obtain ⟨v1, vs1, rfl, h1, hs1⟩ := hs0.cons
  obtain ⟨v2, vs2, rfl, h2, hs2⟩ := hs1.cons
  obtain ⟨rfl, r1⟩ := VR_int.mp h1
  rcases (VR_ref ht10).mp h2 with hz | ⟨-, hm1, rfl⟩
  · exact absurd hz.1 (by omega)
  subst ht
  subst ht2
  rcases (VR_ref (show (10 : Int) ≤ 10 + (c : Int) by omega)).mp h0 with hz | ⟨-, hmv, rfl⟩
  · exact absurd hz.1 (by omega)
  obtain ⟨q0, hq0, hw⟩ := hR.at hx hm1 (by omega)
  rw [ent_ref hm1 hn] at hw
  obtain ⟨qk, hqk, hwk⟩ := hR.at hv hmv (by omega)
  rw [ent_obj hmv hc13] at hwk
  obtain ⟨hi, he⟩ := in9 hj0 hj1 (by omega)
  refine va_astq (D := D) (r := (C, T, N)) hF.1 hF.2.1 (K9 hB hG) hR.1 hR.2.1 hS q0 t0 qk c hw (ht0 ty) hwk hc hi hd ?_
  intro H1 locs1 hP1 hD1 hS1
  have hok2 : okS m (ety (m (-1) x) j) v := by rw [hm1, ety_ref hn]; exact ⟨fun h5 => absurd h5 (by omega), fun h5 => absurd h5 (by omega), fun _ => Or.inr ⟨hv, hmv⟩⟩
  refine kk H1 locs1 cells slots ρ L ls' vs2 hS1 (hR.upd hx hok2 hq0 ?_ hP1 hD1) (Ext9.upd hx) (hL.ext (Ext9.upd hx)) (SRel.ext (Ext9.upd hx) hs2) ?_ ?_
  · rw [ent_ref (by rw [upd9_ne (by omega)]; exact hm1) hn]
    have e9 : (fun a : Nat => rof ρ (upd9 m x j v x a)) = va_up (fun a : Nat => rof ρ (m x a)) (Int32.ofInt j).toNatClampNeg (some (ρ v)) := by
      funext a
      unfold upd9 va_up
      rw [he]
      by_cases ha : (a : Int) = j
      · rw [if_pos ⟨rfl, ha⟩, if_pos (by omega)]
        unfold rof
        rw [if_neg (by omega)]
      · rw [if_neg (fun h9 => ha h9.2), if_neg (by omega)]
    rw [e9]
  · rw [upd9_ne (by omega)]; omega
  · rw [upd9_ne (by omega)]; omega
theorem X9 {S0 : State} {D : va_G} {ty : Nat → ClassId} {xa xl : Int → Nat} {xv : Int → Nat → Int32} (hB : BF S0 D ty xa xl xv) {s : State} (hG : GS S0 s) {k : Int} (h0 : 0 ≤ k) (h1 : k < 5) : va_X (xa k) (xl k) (xv k) s s.heap ∧ xa k < s.heap.size ∧ ¬ S0.heap.size ≤ xa k := by
  obtain ⟨h2, h3⟩ := hB.2.1 k h0 h1
  have h4 := hG.2.1
  exact ⟨(va_X.moved hG.1.alike h2).kept (hG.2.2 _ h3), by omega, by omega⟩
