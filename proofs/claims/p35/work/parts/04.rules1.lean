/-! the small machine's rules that leave the memory as it is -/
theorem SRel.cons {xa : Int → Nat} {ρ : Int → Nat} {m : Mem} {q : SV} {qs : List SV} {st' : List Value} (h : SRel xa ρ m (q :: qs) st') : ∃ v vs, st' = v :: vs ∧ VR xa ρ m q v ∧ SRel xa ρ m qs vs := by
  cases st' with
  | nil => exact h.elim
  | cons v vs => exact ⟨v, vs, rfl, h.1, h.2⟩
theorem VR_int {xa : Int → Nat} {ρ : Int → Nat} {m : Mem} {x : Int} {v : Value} : VR xa ρ m (0, x) v ↔ v = .int (Int32.ofInt x) ∧ inR x := by
  unfold VR
  rw [if_pos rfl]
theorem VR_long {xa : Int → Nat} {ρ : Int → Nat} {m : Mem} {x : Int} {v : Value} : VR xa ρ m (2, x) v ↔ v = .long (Int64.ofInt x) ∧ inR x := by
  unfold VR
  rw [if_neg (show ¬ (2 : Int) = 0 by decide), if_pos rfl]
theorem VR_ref {xa : Int → Nat} {ρ : Int → Nat} {m : Mem} {t x : Int} {v : Value} (ht : 10 ≤ t) : VR xa ρ m (t, x) v ↔ (x = 0 ∧ v = .null ∨ 0 < x ∧ m (-1) x = t ∧ v = .ref (ρ x)) := by
  unfold VR
  rw [if_neg (show ¬ t = 0 by omega), if_neg (show ¬ t = 2 by omega), if_neg (show ¬ t = 3 by omega), if_neg (show ¬ t = 7 by omega)]
  exact ⟨fun h => h.2, fun h => ⟨ht, h⟩⟩
theorem VR_script {xa : Int → Nat} {ρ : Int → Nat} {m : Mem} {x : Int} {v : Value} : VR xa ρ m (7, x) v ↔ v = .ref (xa x) := by
  unfold VR
  rw [if_neg (show ¬ (7 : Int) = 0 by decide), if_neg (show ¬ (7 : Int) = 2 by decide), if_neg (show ¬ (7 : Int) = 3 by decide), if_pos rfl]
theorem VR.cat {xa : Int → Nat} {ρ : Int → Nat} {m : Mem} {q : SV} {v : Value} (h : VR xa ρ m q v) (hq : q.1 ≠ 2) : v.category = 1 := by
  unfold VR at h
  rw [if_neg hq] at h
  by_cases h0 : q.1 = 0
  · rw [if_pos h0] at h
    rw [h.1]; rfl
  · rw [if_neg h0] at h
    by_cases h3 : q.1 = 3
    · rw [if_pos h3] at h; exact h
    · rw [if_neg h3] at h
      by_cases h7 : q.1 = 7
      · rw [if_pos h7] at h
        rw [h]; rfl
      · rw [if_neg h7] at h
        rcases h.2 with h | h
        · rw [h.2]; rfl
        · rw [h.2.2]; rfl
theorem i32_of {x : Int} (h : inR x) : (Int32.ofInt x).toInt = x := Int32.toInt_ofInt_of_le h.1 h.2
theorem i32_le {x y : Int} (h : inR x) (k : inR y) : Int32.ofInt x ≤ Int32.ofInt y ↔ x ≤ y := by rw [Int32.le_iff_toInt_le, i32_of h, i32_of k]
theorem i32_lt {x y : Int} (h : inR x) (k : inR y) : Int32.ofInt x < Int32.ofInt y ↔ x < y := by rw [Int32.lt_iff_toInt_lt, i32_of h, i32_of k]
theorem i32_eq {x y : Int} (h : inR x) (k : inR y) : Int32.ofInt x = Int32.ofInt y ↔ x = y := ⟨fun e => by rw [← i32_of h, ← i32_of k, e], fun e => by rw [e]⟩
theorem inR_0 : inR 0 := by unfold inR; omega
theorem i32_zero : Int32.ofInt 0 = 0 := rfl
theorem inR_of32 (x : Int32) : inR x.toInt := ⟨Int32.le_toInt x, Int32.toInt_lt x⟩
theorem ofInt_toInt32 (x : Int32) : Int32.ofInt x.toInt = x := Int32.ofInt_toInt x

theorem x_iconst {d : Nat} {f : FM} {pc : Nat} {ls st : List SV} {m : Mem} {r : SV ⊕ String} {m' : Mem} {n v : Int} (hd : decode f.1 pc = .ok (.iconst n, 1)) (hv : n = v) (hr : -10 ≤ n ∧ n ≤ 10) (k : Ex d f (pc + 1) ls ((0, v) :: st) m r m') : Ex d f pc ls st m r m' := by
  refine k.step rfl ?_
  intro S0 D ty xa xl xv hB p l e R s mid args below meth c hF hG hfr hlo H locs cells slots ρ L ls' st' Q hS hR hL hnn hst kk
  subst hv
  refine lv_iconst hF.1 hF.2.1 hd rfl ?_
  exact kk ls' _ hL ⟨VR_int.mpr ⟨rfl, by unfold inR; omega⟩, hst⟩
theorem x_bipush {d : Nat} {f : FM} {pc : Nat} {ls st : List SV} {m : Mem} {r : SV ⊕ String} {m' : Mem} {n v : Int} (hd : decode f.1 pc = .ok (.bipush n, 2)) (hv : (Int8.ofInt n).toInt32 = Int32.ofInt v) (hr : -1000 ≤ v ∧ v ≤ 1000) (k : Ex d f (pc + 2) ls ((0, v) :: st) m r m') : Ex d f pc ls st m r m' := by
  refine k.step rfl ?_
  intro S0 D ty xa xl xv hB p l e R s mid args below meth c hF hG hfr hlo H locs cells slots ρ L ls' st' Q hS hR hL hnn hst kk
  refine lv_bipush hF.1 hF.2.1 hd hv ?_
  exact kk ls' _ hL ⟨VR_int.mpr ⟨rfl, by unfold inR; omega⟩, hst⟩
theorem x_sipush {d : Nat} {f : FM} {pc : Nat} {ls st : List SV} {m : Mem} {r : SV ⊕ String} {m' : Mem} {n v : Int} (hd : decode f.1 pc = .ok (.sipush n, 3)) (hv : (Int16.ofInt n).toInt32 = Int32.ofInt v) (hr : -100000 ≤ v ∧ v ≤ 100000) (k : Ex d f (pc + 3) ls ((0, v) :: st) m r m') : Ex d f pc ls st m r m' := by
  refine k.step rfl ?_
  intro S0 D ty xa xl xv hB p l e R s mid args below meth c hF hG hfr hlo H locs cells slots ρ L ls' st' Q hS hR hL hnn hst kk
  refine lv_sipush hF.1 hF.2.1 hd hv ?_
  exact kk ls' _ hL ⟨VR_int.mpr ⟨rfl, by unfold inR; omega⟩, hst⟩
theorem x_lconst {d : Nat} {f : FM} {pc : Nat} {ls st : List SV} {m : Mem} {r : SV ⊕ String} {m' : Mem} {n : Fin 2} {v : Int} (hd : decode f.1 pc = .ok (.lconst n, 1)) (hv : Int64.ofNat (n : Nat) = Int64.ofInt v) (hr : 0 ≤ v ∧ v ≤ 1) (k : Ex d f (pc + 1) ls ((2, v) :: st) m r m') : Ex d f pc ls st m r m' := by
  refine k.step rfl ?_
  intro S0 D ty xa xl xv hB p l e R s mid args below meth c hF hG hfr hlo H locs cells slots ρ L ls' st' Q hS hR hL hnn hst kk
  refine lv_lconst hF.1 hF.2.1 hd hv ?_
  exact kk ls' _ hL ⟨VR_long.mpr ⟨rfl, by unfold inR; omega⟩, hst⟩
theorem x_null {d : Nat} {f : FM} {pc : Nat} {ls st : List SV} {m : Mem} {r : SV ⊕ String} {m' : Mem} (t : Int) (ht : 10 ≤ t) (hd : decode f.1 pc = .ok (.aconst_null, 1)) (k : Ex d f (pc + 1) ls ((t, 0) :: st) m r m') : Ex d f pc ls st m r m' := by
  refine k.step rfl ?_
  intro S0 D ty xa xl xv hB p l e R s mid args below meth c hF hG hfr hlo H locs cells slots ρ L ls' st' Q hS hR hL hnn hst kk
  refine lv_null hF.1 hF.2.1 hd ?_
  exact kk ls' _ hL ⟨(VR_ref ht).mpr (Or.inl ⟨rfl, rfl⟩), hst⟩
theorem x_iload_n {d : Nat} {f : FM} {pc : Nat} {ls st : List SV} {m : Mem} {r : SV ⊕ String} {m' : Mem} {j : Fin 4} {i : Nat} {x : Int} (hd : decode f.1 pc = .ok (.iload_n j, 1)) (hi : (j : Nat) = i) (hl : ls[i]? = some (0, x)) (k : Ex d f (pc + 1) ls ((0, x) :: st) m r m') : Ex d f pc ls st m r m' := by
  refine k.step rfl ?_
  intro S0 D ty xa xl xv hB p l e R s mid args below meth c hF hG hfr hlo H locs cells slots ρ L ls' st' Q hS hR hL hnn hst kk
  obtain ⟨lv, hlv, hq⟩ := hL
  rcases hq _ _ hl with h0 | ⟨-, v, hv, hr⟩
  · exact absurd h0 (by show ¬ (0 : Int) = 3; decide)
  · obtain ⟨rfl, hx⟩ := VR_int.mp hr
    refine lv_iload_n hF.1 hF.2.1 hd hi (hlv.2.2 _ hv) ?_
    exact kk ls' _ ⟨lv, hlv, hq⟩ ⟨VR_int.mpr ⟨rfl, hx⟩, hst⟩
theorem x_iload {d : Nat} {f : FM} {pc : Nat} {ls st : List SV} {m : Mem} {r : SV ⊕ String} {m' : Mem}  {i : Nat} {x : Int} (hd : decode f.1 pc = .ok (.iload i, 2)) (hl : ls[i]? = some (0, x)) (k : Ex d f (pc + 2) ls ((0, x) :: st) m r m') : Ex d f pc ls st m r m' := by
  refine k.step rfl ?_
  intro S0 D ty xa xl xv hB p l e R s mid args below meth c hF hG hfr hlo H locs cells slots ρ L ls' st' Q hS hR hL hnn hst kk
  obtain ⟨lv, hlv, hq⟩ := hL
  rcases hq _ _ hl with h0 | ⟨-, v, hv, hr⟩
  · exact absurd h0 (by show ¬ (0 : Int) = 3; decide)
  · obtain ⟨rfl, hx⟩ := VR_int.mp hr
    refine lv_iload hF.1 hF.2.1 hd (hlv.2.2 _ hv) ?_
    exact kk ls' _ ⟨lv, hlv, hq⟩ ⟨VR_int.mpr ⟨rfl, hx⟩, hst⟩
theorem VR.isRef {xa : Int → Nat} {ρ : Int → Nat} {m : Mem} {t x : Int} {v : Value} (h : VR xa ρ m (t, x) v) (ht : t = 7 ∨ 10 ≤ t) : v = .null ∨ ∃ a, v = .ref a := by
  rcases ht with rfl | ht
  · exact Or.inr ⟨_, VR_script.mp h⟩
  · rcases (VR_ref ht).mp h with h | h
    · exact Or.inl h.2
    · exact Or.inr ⟨_, h.2.2⟩
theorem x_aload_n {d : Nat} {f : FM} {pc : Nat} {ls st : List SV} {m : Mem} {r : SV ⊕ String} {m' : Mem} {j : Fin 4} {i : Nat} {t x : Int} (hd : decode f.1 pc = .ok (.aload_n j, 1)) (hi : (j : Nat) = i) (hl : ls[i]? = some (t, x)) (ht : t = 7 ∨ 10 ≤ t) (k : Ex d f (pc + 1) ls ((t, x) :: st) m r m') : Ex d f pc ls st m r m' := by
  refine k.step rfl ?_
  intro S0 D ty xa xl xv hB p l e R s mid args below meth c hF hG hfr hlo H locs cells slots ρ L ls' st' Q hS hR hL hnn hst kk
  obtain ⟨lv, hlv, hq⟩ := hL
  rcases hq _ _ hl with h0 | ⟨-, v, hv, hr⟩
  · exact absurd h0 (by show ¬ t = 3; omega)
  · have kk := kk ls' (v :: st') ⟨lv, hlv, hq⟩ ⟨hr, hst⟩
    rcases hr.isRef ht with rfl | ⟨a, rfl⟩
    · exact lv_aload_nN hF.1 hF.2.1 hd hi (hlv.2.2 _ hv) kk
    · exact lv_aload_n hF.1 hF.2.1 hd hi (hlv.2.2 _ hv) kk
theorem x_aload {d : Nat} {f : FM} {pc : Nat} {ls st : List SV} {m : Mem} {r : SV ⊕ String} {m' : Mem}  {i : Nat} {t x : Int} (hd : decode f.1 pc = .ok (.aload i, 2)) (hl : ls[i]? = some (t, x)) (ht : t = 7 ∨ 10 ≤ t) (k : Ex d f (pc + 2) ls ((t, x) :: st) m r m') : Ex d f pc ls st m r m' := by
  refine k.step rfl ?_
  intro S0 D ty xa xl xv hB p l e R s mid args below meth c hF hG hfr hlo H locs cells slots ρ L ls' st' Q hS hR hL hnn hst kk
  obtain ⟨lv, hlv, hq⟩ := hL
  rcases hq _ _ hl with h0 | ⟨-, v, hv, hr⟩
  · exact absurd h0 (by show ¬ t = 3; omega)
  · have kk := kk ls' (v :: st') ⟨lv, hlv, hq⟩ ⟨hr, hst⟩
    rcases hr.isRef ht with rfl | ⟨a, rfl⟩
    · exact lv_aloadN hF.1 hF.2.1 hd (hlv.2.2 _ hv) kk
    · exact lv_aload hF.1 hF.2.1 hd (hlv.2.2 _ hv) kk
theorem LRel.set {xa : Int → Nat} {ρ : Int → Nat} {m : Mem} {ls : List SV} {ls1 ls2 : Array Slot} {lv : List (Nat × Value)} {i : Nat} {q : SV} {v : Value} (h : ∀ (i : Nat) (q : SV), ls[i]? = some q → q.1 = 3 ∨ q.1 ≠ 2 ∧ ∃ v : Value, (i, v) ∈ lv ∧ VR xa ρ m q v) (h2 : lv_has ls2 ls.length ((i, v) :: lv.filter (fun q => !(q.1 == i) && !(q.1 + 1 == i && q.2.category == 2)))) (hq : VR xa ρ m q v) (hq2 : q.1 ≠ 2) : LRel xa ρ m (ls.set i q) ls2 := by
  refine ⟨_, by rw [List.length_set]; exact h2, fun j u hu => ?_⟩
  rw [List.getElem?_set] at hu
  by_cases hj : i = j
  · subst hj
    rw [if_pos rfl] at hu
    split at hu
    · cases hu
      exact Or.inr ⟨hq2, v, List.mem_cons_self, hq⟩
    · cases hu
  · rw [if_neg hj] at hu
    rcases h j u hu with h3 | ⟨h4, w, h5, h6⟩
    · exact Or.inl h3
    · refine Or.inr ⟨h4, w, List.mem_cons_of_mem _ (List.mem_filter.mpr ⟨h5, ?_⟩), h6⟩
      have hc : w.category = 1 := h6.cat h4
      have hji : (j == i) = false := by simpa using fun h => hj h.symm
      simp [hji, hc]
theorem x_istore_n {d : Nat} {f : FM} {pc : Nat} {ls st : List SV} {m : Mem} {r : SV ⊕ String} {m' : Mem} {j : Fin 4} {i : Nat} {x : Int} {ls2 : List SV} (hd : decode f.1 pc = .ok (.istore_n j, 1)) (hi : (j : Nat) = i) (hn : i < ls.length) (hl : ls.set i (0, x) = ls2) (k : Ex d f (pc + 1) ls2 st m r m') : Ex d f pc ls ((0, x) :: st) m r m' := by
  refine k.step (by rw [← hl, List.length_set]) ?_
  intro S0 D ty xa xl xv hB p l e R s mid args below meth c hF hG hfr hlo H locs cells slots ρ L ls' st' Q hS hR hL hnn hst kk
  obtain ⟨v0, vs0, rfl, h0, hs0⟩ := hst.cons
  obtain ⟨rfl, r0⟩ := VR_int.mp h0
  obtain ⟨lv, hlv, hq⟩ := hL
  refine lv_istore_n hF.1 hF.2.1 hd hi hlv hn rfl fun ls1 h1 => ?_
  exact kk ls1 vs0 (hl ▸ LRel.set (q := (0, x)) (ls1 := ls') hq h1 h0 (by show ¬ (0 : Int) = 2; decide)) hs0
theorem x_astore_n {d : Nat} {f : FM} {pc : Nat} {ls st : List SV} {m : Mem} {r : SV ⊕ String} {m' : Mem} {j : Fin 4} {i : Nat} {t x : Int} {ls2 : List SV} (hd : decode f.1 pc = .ok (.astore_n j, 1)) (hi : (j : Nat) = i) (hn : i < ls.length) (ht : t = 7 ∨ 10 ≤ t) (hl : ls.set i (t, x) = ls2) (k : Ex d f (pc + 1) ls2 st m r m') : Ex d f pc ls ((t, x) :: st) m r m' := by
  refine k.step (by rw [← hl, List.length_set]) ?_
  intro S0 D ty xa xl xv hB p l e R s mid args below meth c hF hG hfr hlo H locs cells slots ρ L ls' st' Q hS hR hL hnn hst kk
  obtain ⟨v0, vs0, rfl, h0, hs0⟩ := hst.cons
  obtain ⟨lv, hlv, hq⟩ := hL
  have ht2 : ¬ t = 2 := by omega
  rcases h0.isRef ht with rfl | ⟨a, rfl⟩
  · refine lv_astore_nN hF.1 hF.2.1 hd hi hlv hn rfl fun ls1 h1 => ?_
    exact kk ls1 vs0 (hl ▸ LRel.set (q := (t, x)) (ls1 := ls') hq h1 h0 ht2) hs0
  · refine lv_astore_n hF.1 hF.2.1 hd hi hlv hn rfl fun ls1 h1 => ?_
    exact kk ls1 vs0 (hl ▸ LRel.set (q := (t, x)) (ls1 := ls') hq h1 h0 ht2) hs0
theorem x_istore {d : Nat} {f : FM} {pc : Nat} {ls st : List SV} {m : Mem} {r : SV ⊕ String} {m' : Mem}  {i : Nat} {x : Int} {ls2 : List SV} (hd : decode f.1 pc = .ok (.istore i, 2)) (hn : i < ls.length) (hl : ls.set i (0, x) = ls2) (k : Ex d f (pc + 2) ls2 st m r m') : Ex d f pc ls ((0, x) :: st) m r m' := by
  refine k.step (by rw [← hl, List.length_set]) ?_
  intro S0 D ty xa xl xv hB p l e R s mid args below meth c hF hG hfr hlo H locs cells slots ρ L ls' st' Q hS hR hL hnn hst kk
  obtain ⟨v0, vs0, rfl, h0, hs0⟩ := hst.cons
  obtain ⟨rfl, r0⟩ := VR_int.mp h0
  obtain ⟨lv, hlv, hq⟩ := hL
  refine lv_istore hF.1 hF.2.1 hd hlv hn rfl fun ls1 h1 => ?_
  exact kk ls1 vs0 (hl ▸ LRel.set (q := (0, x)) (ls1 := ls') hq h1 h0 (by show ¬ (0 : Int) = 2; decide)) hs0
theorem x_astore {d : Nat} {f : FM} {pc : Nat} {ls st : List SV} {m : Mem} {r : SV ⊕ String} {m' : Mem}  {i : Nat} {t x : Int} {ls2 : List SV} (hd : decode f.1 pc = .ok (.astore i, 2)) (hn : i < ls.length) (ht : t = 7 ∨ 10 ≤ t) (hl : ls.set i (t, x) = ls2) (k : Ex d f (pc + 2) ls2 st m r m') : Ex d f pc ls ((t, x) :: st) m r m' := by
  refine k.step (by rw [← hl, List.length_set]) ?_
  intro S0 D ty xa xl xv hB p l e R s mid args below meth c hF hG hfr hlo H locs cells slots ρ L ls' st' Q hS hR hL hnn hst kk
  obtain ⟨v0, vs0, rfl, h0, hs0⟩ := hst.cons
  obtain ⟨lv, hlv, hq⟩ := hL
  have ht2 : ¬ t = 2 := by omega
  rcases h0.isRef ht with rfl | ⟨a, rfl⟩
  · refine lv_astoreN hF.1 hF.2.1 hd hlv hn rfl fun ls1 h1 => ?_
    exact kk ls1 vs0 (hl ▸ LRel.set (q := (t, x)) (ls1 := ls') hq h1 h0 ht2) hs0
  · refine lv_astore hF.1 hF.2.1 hd hlv hn rfl fun ls1 h1 => ?_
    exact kk ls1 vs0 (hl ▸ LRel.set (q := (t, x)) (ls1 := ls') hq h1 h0 ht2) hs0
theorem x_iinc {d : Nat} {f : FM} {pc : Nat} {ls st : List SV} {m : Mem} {r : SV ⊕ String} {m' : Mem} {i : Nat} {n x : Int} {ls2 : List SV} (hd : decode f.1 pc = .ok (.iinc i n, 3)) (hl : ls[i]? = some (0, x)) (hr : inR (x + n)) (hs : ls.set i (0, x + n) = ls2) (k : Ex d f (pc + 3) ls2 st m r m') : Ex d f pc ls st m r m' := by
  refine k.step (by rw [← hs, List.length_set]) ?_
  intro S0 D ty xa xl xv hB p l e R s mid args below meth c hF hG hfr hlo H locs cells slots ρ L ls' st' Q hS hR hL hnn hst kk
  obtain ⟨lv, hlv, hq⟩ := hL
  rcases hq _ _ hl with h0 | ⟨-, v, hv, hx⟩
  · exact absurd h0 (by show ¬ (0 : Int) = 3; decide)
  · obtain ⟨rfl, hx⟩ := VR_int.mp hx
    obtain ⟨kx, hkx⟩ := List.getElem?_of_mem hv
    have hn : i < ls.length := (List.getElem?_eq_some_iff.mp hl).1
    refine lv_iinc hF.1 hF.2.1 hd hlv hkx rfl hn rfl fun ls1 h1 => ?_
    rw [← Int32.ofInt_add] at h1
    exact kk ls1 st' (hs ▸ LRel.set (q := (0, x + n)) (ls1 := ls') hq h1 (VR_int.mpr ⟨rfl, hr⟩) (by show ¬ (0 : Int) = 2; decide)) hst
theorem x_iadd {d : Nat} {f : FM} {pc : Nat} {ls st : List SV} {m : Mem} {r : SV ⊕ String} {m' : Mem} {x y : Int} (hd : decode f.1 pc = .ok (.iadd, 1)) (hr : inR (x + y)) (k : Ex d f (pc + 1) ls ((0, x + y) :: st) m r m') : Ex d f pc ls ((0, y) :: (0, x) :: st) m r m' := by
  refine k.step rfl ?_
  intro S0 D ty xa xl xv hB p l e R s mid args below meth c hF hG hfr hlo H locs cells slots ρ L ls' st' Q hS hR hL hnn hst kk
  obtain ⟨v0, vs0, rfl, h0, hs0⟩ := hst.cons
  obtain ⟨rfl, r0⟩ := VR_int.mp h0
  obtain ⟨v1, vs1, rfl, h1, hs1⟩ := hs0.cons
  obtain ⟨rfl, r1⟩ := VR_int.mp h1
  refine lv_iadd hF.1 hF.2.1 hd ?_
  exact kk ls' _ hL ⟨VR_int.mpr ⟨by rw [Int32.ofInt_add], hr⟩, hs1⟩
theorem x_isub {d : Nat} {f : FM} {pc : Nat} {ls st : List SV} {m : Mem} {r : SV ⊕ String} {m' : Mem} {x y : Int} (hd : decode f.1 pc = .ok (.isub, 1)) (hr : inR (x - y)) (k : Ex d f (pc + 1) ls ((0, x - y) :: st) m r m') : Ex d f pc ls ((0, y) :: (0, x) :: st) m r m' := by
  refine k.step rfl ?_
  intro S0 D ty xa xl xv hB p l e R s mid args below meth c hF hG hfr hlo H locs cells slots ρ L ls' st' Q hS hR hL hnn hst kk
  obtain ⟨v0, vs0, rfl, h0, hs0⟩ := hst.cons
  obtain ⟨rfl, r0⟩ := VR_int.mp h0
  obtain ⟨v1, vs1, rfl, h1, hs1⟩ := hs0.cons
  obtain ⟨rfl, r1⟩ := VR_int.mp h1
  refine lv_isub hF.1 hF.2.1 hd ?_
  exact kk ls' _ hL ⟨VR_int.mpr ⟨by rw [Int32.ofInt_sub], hr⟩, hs1⟩
theorem x_imul {d : Nat} {f : FM} {pc : Nat} {ls st : List SV} {m : Mem} {r : SV ⊕ String} {m' : Mem} {x y : Int} (hd : decode f.1 pc = .ok (.imul, 1)) (hr : inR (x * y)) (k : Ex d f (pc + 1) ls ((0, x * y) :: st) m r m') : Ex d f pc ls ((0, y) :: (0, x) :: st) m r m' := by
  refine k.step rfl ?_
  intro S0 D ty xa xl xv hB p l e R s mid args below meth c hF hG hfr hlo H locs cells slots ρ L ls' st' Q hS hR hL hnn hst kk
  obtain ⟨v0, vs0, rfl, h0, hs0⟩ := hst.cons
  obtain ⟨rfl, r0⟩ := VR_int.mp h0
  obtain ⟨v1, vs1, rfl, h1, hs1⟩ := hs0.cons
  obtain ⟨rfl, r1⟩ := VR_int.mp h1
  refine lv_imul hF.1 hF.2.1 hd ?_
  exact kk ls' _ hL ⟨VR_int.mpr ⟨by rw [Int32.ofInt_mul], hr⟩, hs1⟩
theorem i32_div {x y : Int} (hx : inR x) (hy : inR y) (h0 : 0 ≤ x) (h1 : 0 < y) : Int32.ofInt x / Int32.ofInt y = Int32.ofInt (x / y) := by
  apply Int32.toInt_inj.mp
  have h2 : 0 ≤ x / y := Int.ediv_nonneg h0 (by omega)
  have h3 : x / y ≤ x := Int.ediv_le_self _ h0
  have h4 : inR (x / y) := by unfold inR at *; omega
  rw [Int32.toInt_div, i32_of hx, i32_of hy, i32_of h4, Int.tdiv_eq_ediv_of_nonneg h0]
  rw [Int.bmod_def]; unfold inR at h4; omega
theorem i32_mod {x y : Int} (hx : inR x) (hy : inR y) (h0 : 0 ≤ x) (h1 : 0 < y) : Int32.ofInt x % Int32.ofInt y = Int32.ofInt (x % y) := by
  apply Int32.toInt_inj.mp
  have h2 : 0 ≤ x % y := Int.emod_nonneg _ (by omega)
  have h3 : x % y < y := Int.emod_lt_of_pos _ h1
  have h4 : inR (x % y) := by unfold inR at *; omega
  rw [Int32.toInt_mod, i32_of hx, i32_of hy, i32_of h4, Int.tmod_eq_emod_of_nonneg h0]
theorem i32_sub9 {x y : Int} (hx : inR x) (hy : inR y) (h0 : 0 ≤ x) (h1 : 0 < y) : Int32.ofInt x - Int32.ofInt x / Int32.ofInt y * Int32.ofInt y = Int32.ofInt (x % y) := by
  rw [i32_div hx hy h0 h1, ← Int32.ofInt_mul, ← Int32.ofInt_sub, Int.emod_def, Int.mul_comm]
theorem inR_div {x y : Int} (hx : inR x) (h0 : 0 ≤ x) (h1 : 0 < y) : inR (x / y) := by
  have h2 : 0 ≤ x / y := Int.ediv_nonneg h0 (by omega)
  have h3 : x / y ≤ x := Int.ediv_le_self _ h0
  unfold inR at *; omega
theorem inR_mod {x y : Int} (hy : inR y) (h1 : 0 < y) : inR (x % y) := by
  have h2 : 0 ≤ x % y := Int.emod_nonneg _ (by omega)
  have h3 : x % y < y := Int.emod_lt_of_pos _ h1
  unfold inR at *; omega
theorem x_idiv {d : Nat} {f : FM} {pc : Nat} {ls st : List SV} {m : Mem} {r : SV ⊕ String} {m' : Mem} {x y : Int} (hd : decode f.1 pc = .ok (.idiv, 1)) (hx0 : 0 ≤ x) (hy0 : 0 < y) (k : Ex d f (pc + 1) ls ((0, x / y) :: st) m r m') : Ex d f pc ls ((0, y) :: (0, x) :: st) m r m' := by
  refine k.step rfl ?_
  intro S0 D ty xa xl xv hB p l e R s mid args below meth c hF hG hfr hlo H locs cells slots ρ L ls' st' Q hS hR hL hnn hst kk
  obtain ⟨v0, vs0, rfl, h0, hs0⟩ := hst.cons
  obtain ⟨rfl, r0⟩ := VR_int.mp h0
  obtain ⟨v1, vs1, rfl, h1, hs1⟩ := hs0.cons
  obtain ⟨rfl, r1⟩ := VR_int.mp h1
  refine lv_idiv hF.1 hF.2.1 hd (fun h9 => ?_) ?_
  · have h8 := (i32_eq r0 inR_0).mp (h9.trans i32_zero.symm)
    omega
  · exact kk ls' _ hL ⟨VR_int.mpr ⟨by rw [i32_div r1 r0 hx0 hy0], inR_div r1 hx0 hy0⟩, hs1⟩
theorem x_irem {d : Nat} {f : FM} {pc : Nat} {ls st : List SV} {m : Mem} {r : SV ⊕ String} {m' : Mem} {x y : Int} (hd : decode f.1 pc = .ok (.irem, 1)) (hx0 : 0 ≤ x) (hy0 : 0 < y) (k : Ex d f (pc + 1) ls ((0, x % y) :: st) m r m') : Ex d f pc ls ((0, y) :: (0, x) :: st) m r m' := by
  refine k.step rfl ?_
  intro S0 D ty xa xl xv hB p l e R s mid args below meth c hF hG hfr hlo H locs cells slots ρ L ls' st' Q hS hR hL hnn hst kk
  obtain ⟨v0, vs0, rfl, h0, hs0⟩ := hst.cons
  obtain ⟨rfl, r0⟩ := VR_int.mp h0
  obtain ⟨v1, vs1, rfl, h1, hs1⟩ := hs0.cons
  obtain ⟨rfl, r1⟩ := VR_int.mp h1
  refine lv_irem hF.1 hF.2.1 hd (fun h9 => ?_) ?_
  · have h8 := (i32_eq r0 inR_0).mp (h9.trans i32_zero.symm)
    omega
  · exact kk ls' _ hL ⟨VR_int.mpr ⟨by rw [i32_sub9 r1 r0 hx0 hy0], inR_mod r0 hy0⟩, hs1⟩
theorem x_iand {d : Nat} {f : FM} {pc : Nat} {ls st : List SV} {m : Mem} {r : SV ⊕ String} {m' : Mem} {x y : Int} (hd : decode f.1 pc = .ok (.iand, 1)) (k : Ex d f (pc + 1) ls ((0, (Int32.ofInt x &&& Int32.ofInt y).toInt) :: st) m r m') : Ex d f pc ls ((0, y) :: (0, x) :: st) m r m' := by
  refine k.step rfl ?_
  intro S0 D ty xa xl xv hB p l e R s mid args below meth c hF hG hfr hlo H locs cells slots ρ L ls' st' Q hS hR hL hnn hst kk
  obtain ⟨v0, vs0, rfl, h0, hs0⟩ := hst.cons
  obtain ⟨rfl, r0⟩ := VR_int.mp h0
  obtain ⟨v1, vs1, rfl, h1, hs1⟩ := hs0.cons
  obtain ⟨rfl, r1⟩ := VR_int.mp h1
  refine lv_iand hF.1 hF.2.1 hd ?_
  exact kk ls' _ hL ⟨VR_int.mpr ⟨by rw [ofInt_toInt32], inR_of32 _⟩, hs1⟩
theorem x_ior {d : Nat} {f : FM} {pc : Nat} {ls st : List SV} {m : Mem} {r : SV ⊕ String} {m' : Mem} {x y : Int} (hd : decode f.1 pc = .ok (.ior, 1)) (k : Ex d f (pc + 1) ls ((0, (Int32.ofInt x ||| Int32.ofInt y).toInt) :: st) m r m') : Ex d f pc ls ((0, y) :: (0, x) :: st) m r m' := by
  refine k.step rfl ?_
  intro S0 D ty xa xl xv hB p l e R s mid args below meth c hF hG hfr hlo H locs cells slots ρ L ls' st' Q hS hR hL hnn hst kk
  obtain ⟨v0, vs0, rfl, h0, hs0⟩ := hst.cons
  obtain ⟨rfl, r0⟩ := VR_int.mp h0
  obtain ⟨v1, vs1, rfl, h1, hs1⟩ := hs0.cons
  obtain ⟨rfl, r1⟩ := VR_int.mp h1
  refine lv_ior hF.1 hF.2.1 hd ?_
  exact kk ls' _ hL ⟨VR_int.mpr ⟨by rw [ofInt_toInt32], inR_of32 _⟩, hs1⟩
theorem x_ishl {d : Nat} {f : FM} {pc : Nat} {ls st : List SV} {m : Mem} {r : SV ⊕ String} {m' : Mem} {x y : Int} (hd : decode f.1 pc = .ok (.ishl, 1)) (k : Ex d f (pc + 1) ls ((0, (Int32.ofInt x <<< (Int32.ofInt y &&& 31)).toInt) :: st) m r m') : Ex d f pc ls ((0, y) :: (0, x) :: st) m r m' := by
  refine k.step rfl ?_
  intro S0 D ty xa xl xv hB p l e R s mid args below meth c hF hG hfr hlo H locs cells slots ρ L ls' st' Q hS hR hL hnn hst kk
  obtain ⟨v0, vs0, rfl, h0, hs0⟩ := hst.cons
  obtain ⟨rfl, r0⟩ := VR_int.mp h0
  obtain ⟨v1, vs1, rfl, h1, hs1⟩ := hs0.cons
  obtain ⟨rfl, r1⟩ := VR_int.mp h1
  refine lv_ishl hF.1 hF.2.1 hd ?_
  exact kk ls' _ hL ⟨VR_int.mpr ⟨by rw [ofInt_toInt32], inR_of32 _⟩, hs1⟩
theorem x_ishr {d : Nat} {f : FM} {pc : Nat} {ls st : List SV} {m : Mem} {r : SV ⊕ String} {m' : Mem} {x y : Int} (hd : decode f.1 pc = .ok (.ishr, 1)) (k : Ex d f (pc + 1) ls ((0, (Int32.ofInt x >>> (Int32.ofInt y &&& 31)).toInt) :: st) m r m') : Ex d f pc ls ((0, y) :: (0, x) :: st) m r m' := by
  refine k.step rfl ?_
  intro S0 D ty xa xl xv hB p l e R s mid args below meth c hF hG hfr hlo H locs cells slots ρ L ls' st' Q hS hR hL hnn hst kk
  obtain ⟨v0, vs0, rfl, h0, hs0⟩ := hst.cons
  obtain ⟨rfl, r0⟩ := VR_int.mp h0
  obtain ⟨v1, vs1, rfl, h1, hs1⟩ := hs0.cons
  obtain ⟨rfl, r1⟩ := VR_int.mp h1
  refine lv_ishr hF.1 hF.2.1 hd ?_
  exact kk ls' _ hL ⟨VR_int.mpr ⟨by rw [ofInt_toInt32], inR_of32 _⟩, hs1⟩
theorem x_icmp_ge {d : Nat} {f : FM} {pc : Nat} {ls st : List SV} {m : Mem} {r : SV ⊕ String} {m' : Mem} {x y off : Int} {tgt : Nat} (hd : decode f.1 pc = .ok (.if_icmp .ge off, 3)) (ht : (pc : Int) + off = (tgt : Int)) (hP : y ≤ x) (k : Ex d f tgt ls st m r m') : Ex d f pc ls ((0, y) :: (0, x) :: st) m r m' := by
  refine k.step rfl ?_
  intro S0 D ty xa xl xv hB p l e R s mid args below meth c hF hG hfr hlo H locs cells slots ρ L ls' st' Q hS hR hL hnn hst kk
  obtain ⟨v0, vs0, rfl, h0, hs0⟩ := hst.cons
  obtain ⟨rfl, r0⟩ := VR_int.mp h0
  obtain ⟨v1, vs1, rfl, h1, hs1⟩ := hs0.cons
  obtain ⟨rfl, r1⟩ := VR_int.mp h1
  exact lv_icmp_ge hF.1 hF.2.1 hd ht (fun _ => kk ls' _ hL hs1) fun h9 => absurd ((i32_le r0 r1).mpr hP) h9
theorem x_icmp_geN {d : Nat} {f : FM} {pc : Nat} {ls st : List SV} {m : Mem} {r : SV ⊕ String} {m' : Mem} {x y off : Int} (hd : decode f.1 pc = .ok (.if_icmp .ge off, 3)) (ht : 0 ≤ (pc : Int) + off) (hP : ¬ (y ≤ x)) (k : Ex d f (pc + 3) ls st m r m') : Ex d f pc ls ((0, y) :: (0, x) :: st) m r m' := by
  refine k.step rfl ?_
  intro S0 D ty xa xl xv hB p l e R s mid args below meth c hF hG hfr hlo H locs cells slots ρ L ls' st' Q hS hR hL hnn hst kk
  obtain ⟨v0, vs0, rfl, h0, hs0⟩ := hst.cons
  obtain ⟨rfl, r0⟩ := VR_int.mp h0
  obtain ⟨v1, vs1, rfl, h1, hs1⟩ := hs0.cons
  obtain ⟨rfl, r1⟩ := VR_int.mp h1
  obtain ⟨tgt, htg⟩ := Int.eq_ofNat_of_zero_le ht
  exact lv_icmp_ge hF.1 hF.2.1 hd htg (fun h9 => absurd ((i32_le r0 r1).mp h9) hP) fun _ => kk ls' _ hL hs1
theorem x_icmp_lt {d : Nat} {f : FM} {pc : Nat} {ls st : List SV} {m : Mem} {r : SV ⊕ String} {m' : Mem} {x y off : Int} {tgt : Nat} (hd : decode f.1 pc = .ok (.if_icmp .lt off, 3)) (ht : (pc : Int) + off = (tgt : Int)) (hP : x < y) (k : Ex d f tgt ls st m r m') : Ex d f pc ls ((0, y) :: (0, x) :: st) m r m' := by
  refine k.step rfl ?_
  intro S0 D ty xa xl xv hB p l e R s mid args below meth c hF hG hfr hlo H locs cells slots ρ L ls' st' Q hS hR hL hnn hst kk
  obtain ⟨v0, vs0, rfl, h0, hs0⟩ := hst.cons
  obtain ⟨rfl, r0⟩ := VR_int.mp h0
  obtain ⟨v1, vs1, rfl, h1, hs1⟩ := hs0.cons
  obtain ⟨rfl, r1⟩ := VR_int.mp h1
  exact lv_icmp_lt hF.1 hF.2.1 hd ht (fun _ => kk ls' _ hL hs1) fun h9 => absurd ((i32_lt r1 r0).mpr hP) h9
theorem x_icmp_ltN {d : Nat} {f : FM} {pc : Nat} {ls st : List SV} {m : Mem} {r : SV ⊕ String} {m' : Mem} {x y off : Int} (hd : decode f.1 pc = .ok (.if_icmp .lt off, 3)) (ht : 0 ≤ (pc : Int) + off) (hP : ¬ (x < y)) (k : Ex d f (pc + 3) ls st m r m') : Ex d f pc ls ((0, y) :: (0, x) :: st) m r m' := by
  refine k.step rfl ?_
  intro S0 D ty xa xl xv hB p l e R s mid args below meth c hF hG hfr hlo H locs cells slots ρ L ls' st' Q hS hR hL hnn hst kk
  obtain ⟨v0, vs0, rfl, h0, hs0⟩ := hst.cons
  obtain ⟨rfl, r0⟩ := VR_int.mp h0
  obtain ⟨v1, vs1, rfl, h1, hs1⟩ := hs0.cons
  obtain ⟨rfl, r1⟩ := VR_int.mp h1
  obtain ⟨tgt, htg⟩ := Int.eq_ofNat_of_zero_le ht
  exact lv_icmp_lt hF.1 hF.2.1 hd htg (fun h9 => absurd ((i32_lt r1 r0).mp h9) hP) fun _ => kk ls' _ hL hs1
theorem x_icmp_eq {d : Nat} {f : FM} {pc : Nat} {ls st : List SV} {m : Mem} {r : SV ⊕ String} {m' : Mem} {x y off : Int} {tgt : Nat} (hd : decode f.1 pc = .ok (.if_icmp .eq off, 3)) (ht : (pc : Int) + off = (tgt : Int)) (hP : x = y) (k : Ex d f tgt ls st m r m') : Ex d f pc ls ((0, y) :: (0, x) :: st) m r m' := by
  refine k.step rfl ?_
  intro S0 D ty xa xl xv hB p l e R s mid args below meth c hF hG hfr hlo H locs cells slots ρ L ls' st' Q hS hR hL hnn hst kk
  obtain ⟨v0, vs0, rfl, h0, hs0⟩ := hst.cons
  obtain ⟨rfl, r0⟩ := VR_int.mp h0
  obtain ⟨v1, vs1, rfl, h1, hs1⟩ := hs0.cons
  obtain ⟨rfl, r1⟩ := VR_int.mp h1
  exact lv_icmp_eq hF.1 hF.2.1 hd ht (fun _ => kk ls' _ hL hs1) fun h9 => absurd ((i32_eq r1 r0).mpr hP) h9
theorem x_icmp_eqN {d : Nat} {f : FM} {pc : Nat} {ls st : List SV} {m : Mem} {r : SV ⊕ String} {m' : Mem} {x y off : Int} (hd : decode f.1 pc = .ok (.if_icmp .eq off, 3)) (ht : 0 ≤ (pc : Int) + off) (hP : ¬ (x = y)) (k : Ex d f (pc + 3) ls st m r m') : Ex d f pc ls ((0, y) :: (0, x) :: st) m r m' := by
  refine k.step rfl ?_
  intro S0 D ty xa xl xv hB p l e R s mid args below meth c hF hG hfr hlo H locs cells slots ρ L ls' st' Q hS hR hL hnn hst kk
  obtain ⟨v0, vs0, rfl, h0, hs0⟩ := hst.cons
  obtain ⟨rfl, r0⟩ := VR_int.mp h0
  obtain ⟨v1, vs1, rfl, h1, hs1⟩ := hs0.cons
  obtain ⟨rfl, r1⟩ := VR_int.mp h1
  obtain ⟨tgt, htg⟩ := Int.eq_ofNat_of_zero_le ht
  exact lv_icmp_eq hF.1 hF.2.1 hd htg (fun h9 => absurd ((i32_eq r1 r0).mp h9) hP) fun _ => kk ls' _ hL hs1
theorem x_icmp_ne {d : Nat} {f : FM} {pc : Nat} {ls st : List SV} {m : Mem} {r : SV ⊕ String} {m' : Mem} {x y off : Int} {tgt : Nat} (hd : decode f.1 pc = .ok (.if_icmp .ne off, 3)) (ht : (pc : Int) + off = (tgt : Int)) (hP : x ≠ y) (k : Ex d f tgt ls st m r m') : Ex d f pc ls ((0, y) :: (0, x) :: st) m r m' := by
  refine k.step rfl ?_
  intro S0 D ty xa xl xv hB p l e R s mid args below meth c hF hG hfr hlo H locs cells slots ρ L ls' st' Q hS hR hL hnn hst kk
  obtain ⟨v0, vs0, rfl, h0, hs0⟩ := hst.cons
  obtain ⟨rfl, r0⟩ := VR_int.mp h0
  obtain ⟨v1, vs1, rfl, h1, hs1⟩ := hs0.cons
  obtain ⟨rfl, r1⟩ := VR_int.mp h1
  exact lv_icmp_ne hF.1 hF.2.1 hd ht (fun _ => kk ls' _ hL hs1) fun h9 => absurd ((not_congr (i32_eq r1 r0)).mpr hP) (not_not_intro h9)
theorem x_icmp_neN {d : Nat} {f : FM} {pc : Nat} {ls st : List SV} {m : Mem} {r : SV ⊕ String} {m' : Mem} {x y off : Int} (hd : decode f.1 pc = .ok (.if_icmp .ne off, 3)) (ht : 0 ≤ (pc : Int) + off) (hP : ¬ (x ≠ y)) (k : Ex d f (pc + 3) ls st m r m') : Ex d f pc ls ((0, y) :: (0, x) :: st) m r m' := by
  refine k.step rfl ?_
  intro S0 D ty xa xl xv hB p l e R s mid args below meth c hF hG hfr hlo H locs cells slots ρ L ls' st' Q hS hR hL hnn hst kk
  obtain ⟨v0, vs0, rfl, h0, hs0⟩ := hst.cons
  obtain ⟨rfl, r0⟩ := VR_int.mp h0
  obtain ⟨v1, vs1, rfl, h1, hs1⟩ := hs0.cons
  obtain ⟨rfl, r1⟩ := VR_int.mp h1
  obtain ⟨tgt, htg⟩ := Int.eq_ofNat_of_zero_le ht
  exact lv_icmp_ne hF.1 hF.2.1 hd htg (fun h9 => absurd ((not_congr (i32_eq r1 r0)).mp h9) hP) fun _ => kk ls' _ hL hs1
theorem x_icmp_gt {d : Nat} {f : FM} {pc : Nat} {ls st : List SV} {m : Mem} {r : SV ⊕ String} {m' : Mem} {x y off : Int} {tgt : Nat} (hd : decode f.1 pc = .ok (.if_icmp .gt off, 3)) (ht : (pc : Int) + off = (tgt : Int)) (hP : y < x) (k : Ex d f tgt ls st m r m') : Ex d f pc ls ((0, y) :: (0, x) :: st) m r m' := by
  refine k.step rfl ?_
  intro S0 D ty xa xl xv hB p l e R s mid args below meth c hF hG hfr hlo H locs cells slots ρ L ls' st' Q hS hR hL hnn hst kk
  obtain ⟨v0, vs0, rfl, h0, hs0⟩ := hst.cons
  obtain ⟨rfl, r0⟩ := VR_int.mp h0
  obtain ⟨v1, vs1, rfl, h1, hs1⟩ := hs0.cons
  obtain ⟨rfl, r1⟩ := VR_int.mp h1
  exact lv_icmp_gt hF.1 hF.2.1 hd ht (fun _ => kk ls' _ hL hs1) fun h9 => absurd ((i32_lt r0 r1).mpr hP) h9
theorem x_icmp_gtN {d : Nat} {f : FM} {pc : Nat} {ls st : List SV} {m : Mem} {r : SV ⊕ String} {m' : Mem} {x y off : Int} (hd : decode f.1 pc = .ok (.if_icmp .gt off, 3)) (ht : 0 ≤ (pc : Int) + off) (hP : ¬ (y < x)) (k : Ex d f (pc + 3) ls st m r m') : Ex d f pc ls ((0, y) :: (0, x) :: st) m r m' := by
  refine k.step rfl ?_
  intro S0 D ty xa xl xv hB p l e R s mid args below meth c hF hG hfr hlo H locs cells slots ρ L ls' st' Q hS hR hL hnn hst kk
  obtain ⟨v0, vs0, rfl, h0, hs0⟩ := hst.cons
  obtain ⟨rfl, r0⟩ := VR_int.mp h0
  obtain ⟨v1, vs1, rfl, h1, hs1⟩ := hs0.cons
  obtain ⟨rfl, r1⟩ := VR_int.mp h1
  obtain ⟨tgt, htg⟩ := Int.eq_ofNat_of_zero_le ht
  exact lv_icmp_gt hF.1 hF.2.1 hd htg (fun h9 => absurd ((i32_lt r0 r1).mp h9) hP) fun _ => kk ls' _ hL hs1
theorem x_icmp_le {d : Nat} {f : FM} {pc : Nat} {ls st : List SV} {m : Mem} {r : SV ⊕ String} {m' : Mem} {x y off : Int} {tgt : Nat} (hd : decode f.1 pc = .ok (.if_icmp .le off, 3)) (ht : (pc : Int) + off = (tgt : Int)) (hP : x ≤ y) (k : Ex d f tgt ls st m r m') : Ex d f pc ls ((0, y) :: (0, x) :: st) m r m' := by
  refine k.step rfl ?_
  intro S0 D ty xa xl xv hB p l e R s mid args below meth c hF hG hfr hlo H locs cells slots ρ L ls' st' Q hS hR hL hnn hst kk
  obtain ⟨v0, vs0, rfl, h0, hs0⟩ := hst.cons
  obtain ⟨rfl, r0⟩ := VR_int.mp h0
  obtain ⟨v1, vs1, rfl, h1, hs1⟩ := hs0.cons
  obtain ⟨rfl, r1⟩ := VR_int.mp h1
  exact lv_icmp_le hF.1 hF.2.1 hd ht (fun _ => kk ls' _ hL hs1) fun h9 => absurd ((i32_le r1 r0).mpr hP) h9
theorem x_icmp_leN {d : Nat} {f : FM} {pc : Nat} {ls st : List SV} {m : Mem} {r : SV ⊕ String} {m' : Mem} {x y off : Int} (hd : decode f.1 pc = .ok (.if_icmp .le off, 3)) (ht : 0 ≤ (pc : Int) + off) (hP : ¬ (x ≤ y)) (k : Ex d f (pc + 3) ls st m r m') : Ex d f pc ls ((0, y) :: (0, x) :: st) m r m' := by
  refine k.step rfl ?_
  intro S0 D ty xa xl xv hB p l e R s mid args below meth c hF hG hfr hlo H locs cells slots ρ L ls' st' Q hS hR hL hnn hst kk
  obtain ⟨v0, vs0, rfl, h0, hs0⟩ := hst.cons
  obtain ⟨rfl, r0⟩ := VR_int.mp h0
  obtain ⟨v1, vs1, rfl, h1, hs1⟩ := hs0.cons
  obtain ⟨rfl, r1⟩ := VR_int.mp h1
  obtain ⟨tgt, htg⟩ := Int.eq_ofNat_of_zero_le ht
  exact lv_icmp_le hF.1 hF.2.1 hd htg (fun h9 => absurd ((i32_le r1 r0).mp h9) hP) fun _ => kk ls' _ hL hs1
theorem x_if_ge {d : Nat} {f : FM} {pc : Nat} {ls st : List SV} {m : Mem} {r : SV ⊕ String} {m' : Mem} {x off : Int} {tgt : Nat} (hd : decode f.1 pc = .ok (.ifCond .ge off, 3)) (ht : (pc : Int) + off = (tgt : Int)) (hP : 0 ≤ x) (k : Ex d f tgt ls st m r m') : Ex d f pc ls ((0, x) :: st) m r m' := by
  refine k.step rfl ?_
  intro S0 D ty xa xl xv hB p l e R s mid args below meth c hF hG hfr hlo H locs cells slots ρ L ls' st' Q hS hR hL hnn hst kk
  obtain ⟨v0, vs0, rfl, h0, hs0⟩ := hst.cons
  obtain ⟨rfl, r0⟩ := VR_int.mp h0
  exact lv_if_ge hF.1 hF.2.1 hd ht (fun _ => kk ls' _ hL hs0) fun h9 => absurd ((i32_le inR_0 r0).mpr hP) h9
theorem x_if_geN {d : Nat} {f : FM} {pc : Nat} {ls st : List SV} {m : Mem} {r : SV ⊕ String} {m' : Mem} {x off : Int} (hd : decode f.1 pc = .ok (.ifCond .ge off, 3)) (ht : 0 ≤ (pc : Int) + off) (hP : ¬ (0 ≤ x)) (k : Ex d f (pc + 3) ls st m r m') : Ex d f pc ls ((0, x) :: st) m r m' := by
  refine k.step rfl ?_
  intro S0 D ty xa xl xv hB p l e R s mid args below meth c hF hG hfr hlo H locs cells slots ρ L ls' st' Q hS hR hL hnn hst kk
  obtain ⟨v0, vs0, rfl, h0, hs0⟩ := hst.cons
  obtain ⟨rfl, r0⟩ := VR_int.mp h0
  obtain ⟨tgt, htg⟩ := Int.eq_ofNat_of_zero_le ht
  exact lv_if_ge hF.1 hF.2.1 hd htg (fun h9 => absurd ((i32_le inR_0 r0).mp h9) hP) fun _ => kk ls' _ hL hs0
theorem x_if_lt {d : Nat} {f : FM} {pc : Nat} {ls st : List SV} {m : Mem} {r : SV ⊕ String} {m' : Mem} {x off : Int} {tgt : Nat} (hd : decode f.1 pc = .ok (.ifCond .lt off, 3)) (ht : (pc : Int) + off = (tgt : Int)) (hP : x < 0) (k : Ex d f tgt ls st m r m') : Ex d f pc ls ((0, x) :: st) m r m' := by
  refine k.step rfl ?_
  intro S0 D ty xa xl xv hB p l e R s mid args below meth c hF hG hfr hlo H locs cells slots ρ L ls' st' Q hS hR hL hnn hst kk
  obtain ⟨v0, vs0, rfl, h0, hs0⟩ := hst.cons
  obtain ⟨rfl, r0⟩ := VR_int.mp h0
  exact lv_if_lt hF.1 hF.2.1 hd ht (fun _ => kk ls' _ hL hs0) fun h9 => absurd ((i32_lt r0 inR_0).mpr hP) h9
theorem x_if_ltN {d : Nat} {f : FM} {pc : Nat} {ls st : List SV} {m : Mem} {r : SV ⊕ String} {m' : Mem} {x off : Int} (hd : decode f.1 pc = .ok (.ifCond .lt off, 3)) (ht : 0 ≤ (pc : Int) + off) (hP : ¬ (x < 0)) (k : Ex d f (pc + 3) ls st m r m') : Ex d f pc ls ((0, x) :: st) m r m' := by
  refine k.step rfl ?_
  intro S0 D ty xa xl xv hB p l e R s mid args below meth c hF hG hfr hlo H locs cells slots ρ L ls' st' Q hS hR hL hnn hst kk
  obtain ⟨v0, vs0, rfl, h0, hs0⟩ := hst.cons
  obtain ⟨rfl, r0⟩ := VR_int.mp h0
  obtain ⟨tgt, htg⟩ := Int.eq_ofNat_of_zero_le ht
  exact lv_if_lt hF.1 hF.2.1 hd htg (fun h9 => absurd ((i32_lt r0 inR_0).mp h9) hP) fun _ => kk ls' _ hL hs0
theorem x_if_eq {d : Nat} {f : FM} {pc : Nat} {ls st : List SV} {m : Mem} {r : SV ⊕ String} {m' : Mem} {x off : Int} {tgt : Nat} (hd : decode f.1 pc = .ok (.ifCond .eq off, 3)) (ht : (pc : Int) + off = (tgt : Int)) (hP : x = 0) (k : Ex d f tgt ls st m r m') : Ex d f pc ls ((0, x) :: st) m r m' := by
  refine k.step rfl ?_
  intro S0 D ty xa xl xv hB p l e R s mid args below meth c hF hG hfr hlo H locs cells slots ρ L ls' st' Q hS hR hL hnn hst kk
  obtain ⟨v0, vs0, rfl, h0, hs0⟩ := hst.cons
  obtain ⟨rfl, r0⟩ := VR_int.mp h0
  exact lv_if_eq hF.1 hF.2.1 hd ht (fun _ => kk ls' _ hL hs0) fun h9 => absurd ((i32_eq r0 inR_0).mpr hP) h9
theorem x_if_eqN {d : Nat} {f : FM} {pc : Nat} {ls st : List SV} {m : Mem} {r : SV ⊕ String} {m' : Mem} {x off : Int} (hd : decode f.1 pc = .ok (.ifCond .eq off, 3)) (ht : 0 ≤ (pc : Int) + off) (hP : ¬ (x = 0)) (k : Ex d f (pc + 3) ls st m r m') : Ex d f pc ls ((0, x) :: st) m r m' := by
  refine k.step rfl ?_
  intro S0 D ty xa xl xv hB p l e R s mid args below meth c hF hG hfr hlo H locs cells slots ρ L ls' st' Q hS hR hL hnn hst kk
  obtain ⟨v0, vs0, rfl, h0, hs0⟩ := hst.cons
  obtain ⟨rfl, r0⟩ := VR_int.mp h0
  obtain ⟨tgt, htg⟩ := Int.eq_ofNat_of_zero_le ht
  exact lv_if_eq hF.1 hF.2.1 hd htg (fun h9 => absurd ((i32_eq r0 inR_0).mp h9) hP) fun _ => kk ls' _ hL hs0
theorem x_if_ne {d : Nat} {f : FM} {pc : Nat} {ls st : List SV} {m : Mem} {r : SV ⊕ String} {m' : Mem} {x off : Int} {tgt : Nat} (hd : decode f.1 pc = .ok (.ifCond .ne off, 3)) (ht : (pc : Int) + off = (tgt : Int)) (hP : x ≠ 0) (k : Ex d f tgt ls st m r m') : Ex d f pc ls ((0, x) :: st) m r m' := by
  refine k.step rfl ?_
  intro S0 D ty xa xl xv hB p l e R s mid args below meth c hF hG hfr hlo H locs cells slots ρ L ls' st' Q hS hR hL hnn hst kk
  obtain ⟨v0, vs0, rfl, h0, hs0⟩ := hst.cons
  obtain ⟨rfl, r0⟩ := VR_int.mp h0
  exact lv_if_ne hF.1 hF.2.1 hd ht (fun _ => kk ls' _ hL hs0) fun h9 => absurd ((not_congr (i32_eq r0 inR_0)).mpr hP) (not_not_intro h9)
theorem x_if_neN {d : Nat} {f : FM} {pc : Nat} {ls st : List SV} {m : Mem} {r : SV ⊕ String} {m' : Mem} {x off : Int} (hd : decode f.1 pc = .ok (.ifCond .ne off, 3)) (ht : 0 ≤ (pc : Int) + off) (hP : ¬ (x ≠ 0)) (k : Ex d f (pc + 3) ls st m r m') : Ex d f pc ls ((0, x) :: st) m r m' := by
  refine k.step rfl ?_
  intro S0 D ty xa xl xv hB p l e R s mid args below meth c hF hG hfr hlo H locs cells slots ρ L ls' st' Q hS hR hL hnn hst kk
  obtain ⟨v0, vs0, rfl, h0, hs0⟩ := hst.cons
  obtain ⟨rfl, r0⟩ := VR_int.mp h0
  obtain ⟨tgt, htg⟩ := Int.eq_ofNat_of_zero_le ht
  exact lv_if_ne hF.1 hF.2.1 hd htg (fun h9 => absurd ((not_congr (i32_eq r0 inR_0)).mp h9) hP) fun _ => kk ls' _ hL hs0
theorem x_if_gt {d : Nat} {f : FM} {pc : Nat} {ls st : List SV} {m : Mem} {r : SV ⊕ String} {m' : Mem} {x off : Int} {tgt : Nat} (hd : decode f.1 pc = .ok (.ifCond .gt off, 3)) (ht : (pc : Int) + off = (tgt : Int)) (hP : 0 < x) (k : Ex d f tgt ls st m r m') : Ex d f pc ls ((0, x) :: st) m r m' := by
  refine k.step rfl ?_
  intro S0 D ty xa xl xv hB p l e R s mid args below meth c hF hG hfr hlo H locs cells slots ρ L ls' st' Q hS hR hL hnn hst kk
  obtain ⟨v0, vs0, rfl, h0, hs0⟩ := hst.cons
  obtain ⟨rfl, r0⟩ := VR_int.mp h0
  exact lv_if_gt hF.1 hF.2.1 hd ht (fun _ => kk ls' _ hL hs0) fun h9 => absurd ((i32_lt inR_0 r0).mpr hP) h9
theorem x_if_gtN {d : Nat} {f : FM} {pc : Nat} {ls st : List SV} {m : Mem} {r : SV ⊕ String} {m' : Mem} {x off : Int} (hd : decode f.1 pc = .ok (.ifCond .gt off, 3)) (ht : 0 ≤ (pc : Int) + off) (hP : ¬ (0 < x)) (k : Ex d f (pc + 3) ls st m r m') : Ex d f pc ls ((0, x) :: st) m r m' := by
  refine k.step rfl ?_
  intro S0 D ty xa xl xv hB p l e R s mid args below meth c hF hG hfr hlo H locs cells slots ρ L ls' st' Q hS hR hL hnn hst kk
  obtain ⟨v0, vs0, rfl, h0, hs0⟩ := hst.cons
  obtain ⟨rfl, r0⟩ := VR_int.mp h0
  obtain ⟨tgt, htg⟩ := Int.eq_ofNat_of_zero_le ht
  exact lv_if_gt hF.1 hF.2.1 hd htg (fun h9 => absurd ((i32_lt inR_0 r0).mp h9) hP) fun _ => kk ls' _ hL hs0
theorem x_if_le {d : Nat} {f : FM} {pc : Nat} {ls st : List SV} {m : Mem} {r : SV ⊕ String} {m' : Mem} {x off : Int} {tgt : Nat} (hd : decode f.1 pc = .ok (.ifCond .le off, 3)) (ht : (pc : Int) + off = (tgt : Int)) (hP : x ≤ 0) (k : Ex d f tgt ls st m r m') : Ex d f pc ls ((0, x) :: st) m r m' := by
  refine k.step rfl ?_
  intro S0 D ty xa xl xv hB p l e R s mid args below meth c hF hG hfr hlo H locs cells slots ρ L ls' st' Q hS hR hL hnn hst kk
  obtain ⟨v0, vs0, rfl, h0, hs0⟩ := hst.cons
  obtain ⟨rfl, r0⟩ := VR_int.mp h0
  exact lv_if_le hF.1 hF.2.1 hd ht (fun _ => kk ls' _ hL hs0) fun h9 => absurd ((i32_le r0 inR_0).mpr hP) h9
theorem x_if_leN {d : Nat} {f : FM} {pc : Nat} {ls st : List SV} {m : Mem} {r : SV ⊕ String} {m' : Mem} {x off : Int} (hd : decode f.1 pc = .ok (.ifCond .le off, 3)) (ht : 0 ≤ (pc : Int) + off) (hP : ¬ (x ≤ 0)) (k : Ex d f (pc + 3) ls st m r m') : Ex d f pc ls ((0, x) :: st) m r m' := by
  refine k.step rfl ?_
  intro S0 D ty xa xl xv hB p l e R s mid args below meth c hF hG hfr hlo H locs cells slots ρ L ls' st' Q hS hR hL hnn hst kk
  obtain ⟨v0, vs0, rfl, h0, hs0⟩ := hst.cons
  obtain ⟨rfl, r0⟩ := VR_int.mp h0
  obtain ⟨tgt, htg⟩ := Int.eq_ofNat_of_zero_le ht
  exact lv_if_le hF.1 hF.2.1 hd htg (fun h9 => absurd ((i32_le r0 inR_0).mp h9) hP) fun _ => kk ls' _ hL hs0
theorem x_goto {d : Nat} {f : FM} {pc : Nat} {ls st : List SV} {m : Mem} {r : SV ⊕ String} {m' : Mem} {off : Int} {tgt : Nat} (hd : decode f.1 pc = .ok (.goto off, 3)) (ht : (pc : Int) + off = (tgt : Int)) (k : Ex d f tgt ls st m r m') : Ex d f pc ls st m r m' := by
  refine k.step rfl ?_
  intro S0 D ty xa xl xv hB p l e R s mid args below meth c hF hG hfr hlo H locs cells slots ρ L ls' st' Q hS hR hL hnn hst kk
  exact lv_goto hF.1 hF.2.1 hd ht (kk ls' st' hL hst)
theorem x_dup {d : Nat} {f : FM} {pc : Nat} {ls st : List SV} {m : Mem} {r : SV ⊕ String} {m' : Mem} {q : SV} (hq : q.1 ≠ 2) (hd : decode f.1 pc = .ok (.dup, 1)) (k : Ex d f (pc + 1) ls (q :: q :: st) m r m') : Ex d f pc ls (q :: st) m r m' := by
  refine k.step rfl ?_
  intro S0 D ty xa xl xv hB p l e R s mid args below meth c hF hG hfr hlo H locs cells slots ρ L ls' st' Q hS hR hL hnn hst kk
  obtain ⟨v0, vs0, rfl, h0, hs0⟩ := hst.cons
  exact lv_dup hF.1 hF.2.1 hd (h0.cat hq) (kk ls' _ hL ⟨h0, h0, hs0⟩)
theorem x_pop {d : Nat} {f : FM} {pc : Nat} {ls st : List SV} {m : Mem} {r : SV ⊕ String} {m' : Mem} {q : SV} (hq : q.1 ≠ 2) (hd : decode f.1 pc = .ok (.pop, 1)) (k : Ex d f (pc + 1) ls st m r m') : Ex d f pc ls (q :: st) m r m' := by
  refine k.step rfl ?_
  intro S0 D ty xa xl xv hB p l e R s mid args below meth c hF hG hfr hlo H locs cells slots ρ L ls' st' Q hS hR hL hnn hst kk
  obtain ⟨v0, vs0, rfl, h0, hs0⟩ := hst.cons
  exact lv_pop hF.1 hF.2.1 hd (h0.cat hq) (kk ls' _ hL hs0)
theorem x_dup2 {d : Nat} {f : FM} {pc : Nat} {ls st : List SV} {m : Mem} {r : SV ⊕ String} {m' : Mem} {q u : SV} (hq : q.1 ≠ 2) (hu : u.1 ≠ 2) (hd : decode f.1 pc = .ok (.dup2, 1)) (k : Ex d f (pc + 1) ls (q :: u :: q :: u :: st) m r m') : Ex d f pc ls (q :: u :: st) m r m' := by
  refine k.step rfl ?_
  intro S0 D ty xa xl xv hB p l e R s mid args below meth c hF hG hfr hlo H locs cells slots ρ L ls' st' Q hS hR hL hnn hst kk
  obtain ⟨v0, vs0, rfl, h0, hs0⟩ := hst.cons
  obtain ⟨v1, vs1, rfl, h1, hs1⟩ := hs0.cons
  exact lv_dup2_11 hF.1 hF.2.1 hd (h0.cat hq) (h1.cat hu) (kk ls' _ hL ⟨h0, h1, h0, h1, hs1⟩)
theorem x_ifnull {d : Nat} {f : FM} {pc : Nat} {ls st : List SV} {m : Mem} {r : SV ⊕ String} {m' : Mem} {t off : Int} {tgt : Nat} (ht10 : 10 ≤ t) (hd : decode f.1 pc = .ok (.ifnull off, 3)) (ht : (pc : Int) + off = (tgt : Int)) (k : Ex d f tgt ls st m r m') : Ex d f pc ls ((t, 0) :: st) m r m' := by
  refine k.step rfl ?_
  intro S0 D ty xa xl xv hB p l e R s mid args below meth c hF hG hfr hlo H locs cells slots ρ L ls' st' Q hS hR hL hnn hst kk
  obtain ⟨v0, vs0, rfl, h0, hs0⟩ := hst.cons
  rcases (VR_ref ht10).mp h0 with h | h
  · obtain ⟨-, rfl⟩ := h
    exact lv_ifnullN hF.1 hF.2.1 hd ht (kk ls' _ hL hs0)
  · exact absurd h.1 (by omega)
theorem x_ifnullN {d : Nat} {f : FM} {pc : Nat} {ls st : List SV} {m : Mem} {r : SV ⊕ String} {m' : Mem} {t x off : Int} (ht10 : 10 ≤ t) (hx : x ≠ 0) (hd : decode f.1 pc = .ok (.ifnull off, 3)) (k : Ex d f (pc + 3) ls st m r m') : Ex d f pc ls ((t, x) :: st) m r m' := by
  refine k.step rfl ?_
  intro S0 D ty xa xl xv hB p l e R s mid args below meth c hF hG hfr hlo H locs cells slots ρ L ls' st' Q hS hR hL hnn hst kk
  obtain ⟨v0, vs0, rfl, h0, hs0⟩ := hst.cons
  rcases (VR_ref ht10).mp h0 with h | h
  · exact absurd h.1 hx
  · obtain ⟨-, -, rfl⟩ := h
    exact lv_ifnull hF.1 hF.2.1 hd (kk ls' _ hL hs0)
theorem x_ifnonnull {d : Nat} {f : FM} {pc : Nat} {ls st : List SV} {m : Mem} {r : SV ⊕ String} {m' : Mem} {t x off : Int} {tgt : Nat} (ht10 : 10 ≤ t) (hx : x ≠ 0) (hd : decode f.1 pc = .ok (.ifnonnull off, 3)) (ht : (pc : Int) + off = (tgt : Int)) (k : Ex d f tgt ls st m r m') : Ex d f pc ls ((t, x) :: st) m r m' := by
  refine k.step rfl ?_
  intro S0 D ty xa xl xv hB p l e R s mid args below meth c hF hG hfr hlo H locs cells slots ρ L ls' st' Q hS hR hL hnn hst kk
  obtain ⟨v0, vs0, rfl, h0, hs0⟩ := hst.cons
  rcases (VR_ref ht10).mp h0 with h | h
  · exact absurd h.1 hx
  · obtain ⟨-, -, rfl⟩ := h
    exact lv_ifnonnull hF.1 hF.2.1 hd ht (kk ls' _ hL hs0)
theorem x_ifnonnullN {d : Nat} {f : FM} {pc : Nat} {ls st : List SV} {m : Mem} {r : SV ⊕ String} {m' : Mem} {t off : Int} (ht10 : 10 ≤ t) (hd : decode f.1 pc = .ok (.ifnonnull off, 3)) (k : Ex d f (pc + 3) ls st m r m') : Ex d f pc ls ((t, 0) :: st) m r m' := by
  refine k.step rfl ?_
  intro S0 D ty xa xl xv hB p l e R s mid args below meth c hF hG hfr hlo H locs cells slots ρ L ls' st' Q hS hR hL hnn hst kk
  obtain ⟨v0, vs0, rfl, h0, hs0⟩ := hst.cons
  rcases (VR_ref ht10).mp h0 with h | h
  · obtain ⟨-, rfl⟩ := h
    exact lv_ifnonnullN hF.1 hF.2.1 hd (kk ls' _ hL hs0)
  · exact absurd h.1 (by omega)
theorem i64_of {x : Int} (h : inR x) : (Int64.ofInt x).toInt = x := Int64.toInt_ofInt_of_le (by unfold inR at h; omega) (by unfold inR at h; omega)
theorem i32_64 {x : Int} (h : inR x) : (Int32.ofInt x).toInt64 = Int64.ofInt x := by
  apply Int64.toInt_inj.mp
  rw [Int32.toInt_toInt64, i32_of h, i64_of h]
theorem x_i2l {d : Nat} {f : FM} {pc : Nat} {ls st : List SV} {m : Mem} {r : SV ⊕ String} {m' : Mem} {x : Int} (hd : decode f.1 pc = .ok (.i2l, 1)) (k : Ex d f (pc + 1) ls ((2, x) :: st) m r m') : Ex d f pc ls ((0, x) :: st) m r m' := by
  refine k.step rfl ?_
  intro S0 D ty xa xl xv hB p l e R s mid args below meth c hF hG hfr hlo H locs cells slots ρ L ls' st' Q hS hR hL hnn hst kk
  obtain ⟨v0, vs0, rfl, h0, hs0⟩ := hst.cons
  obtain ⟨rfl, r0⟩ := VR_int.mp h0
  exact lv_i2l hF.1 hF.2.1 hd (i32_64 r0) (kk ls' _ hL ⟨VR_long.mpr ⟨rfl, r0⟩, hs0⟩)
theorem x_tableIn {d : Nat} {f : FM} {pc : Nat} {ls st : List SV} {m : Mem} {r : SV ⊕ String} {m' : Mem} {x dflt lo hi off : Int} {offs : Array Int} {len tgt : Nat} (hd : decode f.1 pc = .ok (.tableswitch dflt lo hi offs, len)) (h1 : ¬ x < lo) (h2 : ¬ hi < x) (ho : offs[(x - lo).toNat]? = some off) (ht : (pc : Int) + off = (tgt : Int)) (k : Ex d f tgt ls st m r m') : Ex d f pc ls ((0, x) :: st) m r m' := by
  refine k.step rfl ?_
  intro S0 D ty xa xl xv hB p l e R s mid args below meth c hF hG hfr hlo H locs cells slots ρ L ls' st' Q hS hR hL hnn hst kk
  obtain ⟨v0, vs0, rfl, h0, hs0⟩ := hst.cons
  obtain ⟨rfl, r0⟩ := VR_int.mp h0
  exact lv_tableIn hF.1 hF.2.1 hd (by rw [i32_of r0]; exact h1) (by rw [i32_of r0]; exact h2) (by rw [i32_of r0]; exact ho) ht (kk ls' _ hL hs0)
theorem x_tableOut {d : Nat} {f : FM} {pc : Nat} {ls st : List SV} {m : Mem} {r : SV ⊕ String} {m' : Mem} {x dflt lo hi : Int} {offs : Array Int} {len tgt : Nat} (hd : decode f.1 pc = .ok (.tableswitch dflt lo hi offs, len)) (h : x < lo ∨ hi < x) (ht : (pc : Int) + dflt = (tgt : Int)) (k : Ex d f tgt ls st m r m') : Ex d f pc ls ((0, x) :: st) m r m' := by
  refine k.step rfl ?_
  intro S0 D ty xa xl xv hB p l e R s mid args below meth c hF hG hfr hlo H locs cells slots ρ L ls' st' Q hS hR hL hnn hst kk
  obtain ⟨v0, vs0, rfl, h0, hs0⟩ := hst.cons
  obtain ⟨rfl, r0⟩ := VR_int.mp h0
  exact lv_tableOut hF.1 hF.2.1 hd (by rw [i32_of r0]; exact h) ht (kk ls' _ hL hs0)
