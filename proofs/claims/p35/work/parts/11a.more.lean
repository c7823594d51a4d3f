/-! what p35's law wants besides: a constant of the pool, sums and products that wrap around, the quotient of -1, calls that don't throw -/
def w32 (x : Int) : Int := (Int32.ofInt x).toInt
theorem w32_in {x : Int} : inR (w32 x) := inR_of32 _
theorem w32_of {x : Int} : Int32.ofInt (w32 x) = Int32.ofInt x := ofInt_toInt32 _
theorem w32_id {x : Int} (h : inR x) : w32 x = x := i32_of h
def cal0 {α : Type} (o : Option R3) (k : Int → Mem → Option α) : Option α := match o with
  | some (e, v, m) => if e = 0 then k v m else none
  | none => none
theorem cal0_some {α : Type} {o : Option R3} {k : Int → Mem → Option α} {x : α} (h : cal0 o k = some x) : ∃ v m, o = some (0, v, m) ∧ k v m = some x := by
  unfold cal0 at h
  split at h
  · rename_i e v m
    rcases ite_some h with ⟨h0, h1⟩ | ⟨h0, h1⟩
    · subst h0; exact ⟨_, _, rfl, h1⟩
    · cases h1
  · cases h
theorem cal0_e {α : Type} {v : Int} {m : Mem} {k : Int → Mem → Option α} : cal0 (some (0, v, m)) k = k v m := by
  unfold cal0
  exact if_pos rfl
theorem x_ldc {d : Nat} {f : FM} {pc : Nat} {ls st : List SV} {m : Mem} {r : SV ⊕ String} {m' : Mem} {idx : Nat} {v : Int32} {x : Int} (hc : Cond.constant f.2.1.cls idx v ∈ TS) (hd : decode f.1 pc = .ok (.ldc idx, 2)) (hv : v = Int32.ofInt x) (hr : -2147483648 ≤ x ∧ x < 2147483648) (k : Ex d f (pc + 2) ls ((0, x) :: st) m r m') : Ex d f pc ls st m r m' := by
  refine k.step rfl ?_
  intro S0 D ty xa xl xv hB p l e R s mid args below meth c hF hG hfr hlo H locs cells slots ρ L ls' st' Q hS hR hL hnn hst kk
  subst hv
  refine lv_ldc hF.1 hF.2.1 hF.2.2.2.2.2.1 (hF.2.2.2.2.2.2.1 _ hc) hd ?_
  exact kk ls' _ hL ⟨VR_int.mpr ⟨rfl, hr⟩, hst⟩
theorem x_iaddW {d : Nat} {f : FM} {pc : Nat} {ls st : List SV} {m : Mem} {r : SV ⊕ String} {m' : Mem} {x y : Int} (hd : decode f.1 pc = .ok (.iadd, 1)) (k : Ex d f (pc + 1) ls ((0, w32 (x + y)) :: st) m r m') : Ex d f pc ls ((0, y) :: (0, x) :: st) m r m' := by
  refine k.step rfl ?_
  intro S0 D ty xa xl xv hB p l e R s mid args below meth c hF hG hfr hlo H locs cells slots ρ L ls' st' Q hS hR hL hnn hst kk
  obtain ⟨v0, vs0, rfl, h0, hs0⟩ := hst.cons
  obtain ⟨rfl, r0⟩ := VR_int.mp h0
  obtain ⟨v1, vs1, rfl, h1, hs1⟩ := hs0.cons
  obtain ⟨rfl, r1⟩ := VR_int.mp h1
  refine lv_iadd hF.1 hF.2.1 hd ?_
  exact kk ls' _ hL ⟨VR_int.mpr ⟨by rw [w32_of, Int32.ofInt_add], w32_in⟩, hs1⟩
theorem x_imulW {d : Nat} {f : FM} {pc : Nat} {ls st : List SV} {m : Mem} {r : SV ⊕ String} {m' : Mem} {x y : Int} (hd : decode f.1 pc = .ok (.imul, 1)) (k : Ex d f (pc + 1) ls ((0, w32 (x * y)) :: st) m r m') : Ex d f pc ls ((0, y) :: (0, x) :: st) m r m' := by
  refine k.step rfl ?_
  intro S0 D ty xa xl xv hB p l e R s mid args below meth c hF hG hfr hlo H locs cells slots ρ L ls' st' Q hS hR hL hnn hst kk
  obtain ⟨v0, vs0, rfl, h0, hs0⟩ := hst.cons
  obtain ⟨rfl, r0⟩ := VR_int.mp h0
  obtain ⟨v1, vs1, rfl, h1, hs1⟩ := hs0.cons
  obtain ⟨rfl, r1⟩ := VR_int.mp h1
  refine lv_imul hF.1 hF.2.1 hd ?_
  exact kk ls' _ hL ⟨VR_int.mpr ⟨by rw [w32_of, Int32.ofInt_mul], w32_in⟩, hs1⟩
theorem i32_divN {y : Int} (hy : inR y) (h1 : 1 < y) : Int32.ofInt (-1) / Int32.ofInt y = Int32.ofInt 0 := by
  apply Int32.toInt_inj.mp
  have h2 : Int.tdiv (-1) y = 0 := by
    rw [Int.neg_tdiv, Int.tdiv_eq_ediv_of_nonneg (by omega), Int.ediv_eq_zero_of_lt (by omega) h1]
    rfl
  rw [Int32.toInt_div, i32_of (show inR (-1) by unfold inR; omega), i32_of hy, i32_of inR_0, h2]
  decide
theorem x_idivN {d : Nat} {f : FM} {pc : Nat} {ls st : List SV} {m : Mem} {r : SV ⊕ String} {m' : Mem} {x y : Int} (hd : decode f.1 pc = .ok (.idiv, 1)) (hx0 : -1 ≤ x) (hy0 : 1 < y) (k : Ex d f (pc + 1) ls ((0, if x < 0 then 0 else x / y) :: st) m r m') : Ex d f pc ls ((0, y) :: (0, x) :: st) m r m' := by
  refine k.step rfl ?_
  intro S0 D ty xa xl xv hB p l e R s mid args below meth c hF hG hfr hlo H locs cells slots ρ L ls' st' Q hS hR hL hnn hst kk
  obtain ⟨v0, vs0, rfl, h0, hs0⟩ := hst.cons
  obtain ⟨rfl, r0⟩ := VR_int.mp h0
  obtain ⟨v1, vs1, rfl, h1, hs1⟩ := hs0.cons
  obtain ⟨rfl, r1⟩ := VR_int.mp h1
  refine lv_idiv hF.1 hF.2.1 hd (fun h9 => ?_) ?_
  · have h8 := (i32_eq r0 inR_0).mp (h9.trans i32_zero.symm)
    omega
  · refine kk ls' _ hL ⟨VR_int.mpr ?_, hs1⟩
    by_cases c0 : x < 0
    · have e : x = -1 := by omega
      rw [if_pos c0, e]
      exact ⟨by rw [i32_divN r0 hy0], inR_0⟩
    · rw [if_neg c0]
      exact ⟨by rw [i32_div r1 r0 (by omega) (by omega)], inR_div r1 (by omega) (by omega)⟩
