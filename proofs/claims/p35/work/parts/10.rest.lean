/-! the rest of the rules: Object's constructor, Math, references compared, longs compared, throws, calls of what catches -/
theorem locs9 {S0 : State} {xa : Int → Nat} {ρ : Int → Nat} {m : Mem} {ls : List SV} {ls' : Array Slot} (h : LRel xa ρ m ls ls') : ls'.size = ls.length := h.choose_spec.1.1
theorem x_objInit {d : Nat} {f : FM} {pc : Nat} {ls st : List SV} {m : Mem} {r : SV ⊕ String} {m' : Mem} {t x : Int} (ht : 10 ≤ t) (hx : 0 < x) {idx : Nat} (hlink : Cond.methodLink f.2.1.cls idx Lib.objectInit ∈ TS) (hinst : Cond.instanceMethod Lib.objectInit ∈ TS) (hcode : Cond.code Lib.objectInit ⟨#[0xb1]⟩ 1 none ∈ TS) (hrest : st.length ≤ 4) (hd : decode f.1 pc = .ok (.invokespecial idx, 3)) (k : Ex d f (pc + 3) ls st m r m') : Ex d f pc ls ((t, x) :: st) m r m' := by
  refine k.step rfl ?_
  intro S0 D ty xa xl xv hB p l e R s mid args below meth c hF hG hfr hlo H locs cells slots ρ L ls' st' Q hS hR hL hn hst kk
  obtain ⟨v0, vs0, rfl, h0, hs0⟩ := hst.cons
  rcases (VR_ref ht).mp h0 with hz | ⟨-, hm1, rfl⟩
  · exact absurd hz.1 (by omega)
  have hts := hF.2.2.2.2.2.2.1
  have hl2 : 256 ≤ R.locals := Nat.le_trans (by unfold loc9; exact Nat.le_add_left _ _) hlo
  have hr9 : 2 * (F0 mid pc ls' (.ref (ρ x) :: vs0)).monitorRoom + (vs0.map fun v => v.category).sum ≤ 8 := room9 (by rw [← hs0.len]; exact hrest)
  refine W.objInit hF.1 hF.2.1 hF.2.2.2.2.2.1 (hts _ hlink) (hts _ hinst) (hts _ hcode) rfl (by rw [hF.2.2.1, ← hn]; exact hL.choose_spec.1.1) rfl hd (by unfold frm9 at *; omega) (by omega) ?_
  exact kk ls' vs0 hL hs0
theorem x_mmax {d : Nat} {f : FM} {pc : Nat} {ls st : List SV} {m : Mem} {r : SV ⊕ String} {m' : Mem} {x y : Int} {idx : Nat} (hlink : Cond.methodLink f.2.1.cls idx Lib.Math.max.name ∈ TS) (hstat : Cond.static Lib.Math.max.name ∈ TS) (hini : Cond.initialized "java/lang/Math" ∈ TS) (hcode : Cond.code Lib.Math.max.name Lib.Math.max.code 2 (some .int) ∈ TS) (hrest : st.length ≤ 4) (hd : decode f.1 pc = .ok (.invokestatic idx, 3)) (k : Ex d f (pc + 3) ls ((0, if x < y then y else x) :: st) m r m') : Ex d f pc ls ((0, y) :: (0, x) :: st) m r m' := by
  refine k.mstep rfl ⟨Int.le_refl _, Int.le_refl _⟩ ?_
  intro S0 D ty xa xl xv hB p l e R s mid args below meth c hF hG hfr hlo H locs cells slots ρ L ls' st' Q hS hR hL hn hst hcl hsl kk
  obtain ⟨v0, vs0, rfl, h0, hs0⟩ := hst.cons
  obtain ⟨v1, vs1, rfl, h1, hs1⟩ := hs0.cons
  obtain ⟨rfl, r0⟩ := VR_int.mp h0
  obtain ⟨rfl, r1⟩ := VR_int.mp h1
  have hts := hF.2.2.2.2.2.2.1
  have hl2 : 256 ≤ R.locals := Nat.le_trans (by unfold loc9; exact Nat.le_add_left _ _) hlo
  have hr9 : 2 * (F0 mid pc ls' vs1).monitorRoom + (vs1.map fun v => v.category).sum ≤ 8 := room9 (by rw [← hs1.len]; exact hrest)
  refine va_mmax hF.1 hF.2.1 (by rw [hF.2.2.1, ← hn]; exact hL.choose_spec.1.1.symm) hF.2.2.2.2.2.1 (hts _ hlink) (hts _ hstat) (hts _ hini) (hts _ hcode) (by unfold frm9 at *; omega) (by omega) (by omega) (by omega) hd ?_
  refine kk H locs cells slots ρ L ls' _ hS hR Ext9.rf hL ⟨VR_int.mpr ⟨?_, ?_⟩, hs1⟩ (by omega) (by omega)
  · by_cases hlt : x < y
    · rw [if_pos hlt, if_pos ((i32_lt r1 r0).mpr hlt)]
    · rw [if_neg hlt, if_neg (fun h => hlt ((i32_lt r1 r0).mp h))]
  · split <;> assumption
theorem x_mmin {d : Nat} {f : FM} {pc : Nat} {ls st : List SV} {m : Mem} {r : SV ⊕ String} {m' : Mem} {x y : Int} {idx : Nat} (hlink : Cond.methodLink f.2.1.cls idx Lib.Math.min.name ∈ TS) (hstat : Cond.static Lib.Math.min.name ∈ TS) (hini : Cond.initialized "java/lang/Math" ∈ TS) (hcode : Cond.code Lib.Math.min.name Lib.Math.min.code 2 (some .int) ∈ TS) (hrest : st.length ≤ 4) (hd : decode f.1 pc = .ok (.invokestatic idx, 3)) (k : Ex d f (pc + 3) ls ((0, if y < x then y else x) :: st) m r m') : Ex d f pc ls ((0, y) :: (0, x) :: st) m r m' := by
  refine k.mstep rfl ⟨Int.le_refl _, Int.le_refl _⟩ ?_
  intro S0 D ty xa xl xv hB p l e R s mid args below meth c hF hG hfr hlo H locs cells slots ρ L ls' st' Q hS hR hL hn hst hcl hsl kk
  obtain ⟨v0, vs0, rfl, h0, hs0⟩ := hst.cons
  obtain ⟨v1, vs1, rfl, h1, hs1⟩ := hs0.cons
  obtain ⟨rfl, r0⟩ := VR_int.mp h0
  obtain ⟨rfl, r1⟩ := VR_int.mp h1
  have hts := hF.2.2.2.2.2.2.1
  have hl2 : 256 ≤ R.locals := Nat.le_trans (by unfold loc9; exact Nat.le_add_left _ _) hlo
  have hr9 : 2 * (F0 mid pc ls' vs1).monitorRoom + (vs1.map fun v => v.category).sum ≤ 8 := room9 (by rw [← hs1.len]; exact hrest)
  refine va_mmin hF.1 hF.2.1 (by rw [hF.2.2.1, ← hn]; exact hL.choose_spec.1.1.symm) hF.2.2.2.2.2.1 (hts _ hlink) (hts _ hstat) (hts _ hini) (hts _ hcode) (by unfold frm9 at *; omega) (by omega) (by omega) (by omega) hd ?_
  refine kk H locs cells slots ρ L ls' _ hS hR Ext9.rf hL ⟨VR_int.mpr ⟨?_, ?_⟩, hs1⟩ (by omega) (by omega)
  · by_cases hlt : y < x
    · rw [if_pos hlt, if_pos ((i32_lt r0 r1).mpr hlt)]
    · rw [if_neg hlt, if_neg (fun h => hlt ((i32_lt r0 r1).mp h))]
  · split <;> assumption
theorem rho_inj {S0 : State} {D : va_G} {ty : Nat → ClassId} {xl : Int → Nat} {xv : Int → Nat → Int32} {ρ : Int → Nat} {m : Mem} {L : List Int} {H : Heap} (h : RelH S0 D ty xl xv ρ m L H) {x y : Int} (hx : 0 < x) (hy : 0 < y) (hx0 : m (-1) x ≠ 0) (hy0 : m (-1) y ≠ 0) (e : ρ x = ρ y) : x = y := by
  obtain ⟨a, ha, wa⟩ := h.at hx rfl hx0
  obtain ⟨b, hb, wb⟩ := h.at hy rfl hy0
  have := h.2.1.1 a b _ _ wa wb e
  subst this
  rw [ha] at hb
  exact Option.some.inj hb
theorem rf9 {xa ρ : Int → Nat} {m : Mem} {t x : Int} {v : Value} (ht : 10 ≤ t) (h : VR xa ρ m (t, x) v) : v = va_rf (rof ρ x) := by
  unfold rof
  rcases (VR_ref ht).mp h with ⟨h1, rfl⟩ | ⟨h1, -, rfl⟩
  · rw [if_pos h1]; rfl
  · rw [if_neg (by omega)]; rfl
theorem rof_inj {S0 : State} {D : va_G} {ty : Nat → ClassId} {xl : Int → Nat} {xv : Int → Nat → Int32} {xa ρ : Int → Nat} {m : Mem} {L : List Int} {H : Heap} (h : RelH S0 D ty xl xv ρ m L H) {t u x y : Int} {v w : Value} (ht : 10 ≤ t) (hu : 10 ≤ u) (hv : VR xa ρ m (t, x) v) (hw : VR xa ρ m (u, y) w) : rof ρ x = rof ρ y ↔ x = y := by
  refine ⟨fun e => ?_, fun e => by rw [e]⟩
  unfold rof at e
  rcases (VR_ref ht).mp hv with ⟨h1, -⟩ | ⟨h1, h2, -⟩ <;> rcases (VR_ref hu).mp hw with ⟨k1, -⟩ | ⟨k1, k2, -⟩
  · omega
  · rw [if_pos h1, if_neg (by omega)] at e; cases e
  · rw [if_neg (by omega), if_pos k1] at e; cases e
  · rw [if_neg (by omega), if_neg (by omega)] at e
    exact rho_inj h h1 k1 (by omega) (by omega) (Option.some.inj e)
theorem x_acmp_ne {d : Nat} {f : FM} {pc : Nat} {ls st : List SV} {m : Mem} {r : SV ⊕ String} {m' : Mem} {t u x y off : Int} {tgt : Nat} (ht10 : 10 ≤ t) (hu10 : 10 ≤ u) (hd : decode f.1 pc = .ok (.if_acmp .ne off, 3)) (ht : (pc : Int) + off = (tgt : Int)) (hP : x ≠ y) (k : Ex d f tgt ls st m r m') : Ex d f pc ls ((u, y) :: (t, x) :: st) m r m' := by
  refine k.step rfl ?_
  intro S0 D ty xa xl xv hB p l e R s mid args below meth c hF hG hfr hlo H locs cells slots ρ L ls' st' Q hS hR hL hn hst kk
  obtain ⟨v0, vs0, rfl, h0, hs0⟩ := hst.cons
  obtain ⟨v1, vs1, rfl, h1, hs1⟩ := hs0.cons
  have hi := rof_inj hR ht10 hu10 h1 h0
  rw [rf9 hu10 h0, rf9 ht10 h1]
  exact lv_acmp_ne hF.1 hF.2.1 hd ht (fun _ => kk ls' vs1 hL hs1) (fun e => absurd (hi.mp e) hP)
theorem x_acmp_neN {d : Nat} {f : FM} {pc : Nat} {ls st : List SV} {m : Mem} {r : SV ⊕ String} {m' : Mem} {t u x y off : Int} {tgt : Nat} (ht10 : 10 ≤ t) (hu10 : 10 ≤ u) (hd : decode f.1 pc = .ok (.if_acmp .ne off, 3)) (ht : (pc : Int) + off = (tgt : Int)) (hP : x = y) (k : Ex d f (pc + 3) ls st m r m') : Ex d f pc ls ((u, y) :: (t, x) :: st) m r m' := by
  refine k.step rfl ?_
  intro S0 D ty xa xl xv hB p l e R s mid args below meth c hF hG hfr hlo H locs cells slots ρ L ls' st' Q hS hR hL hn hst kk
  obtain ⟨v0, vs0, rfl, h0, hs0⟩ := hst.cons
  obtain ⟨v1, vs1, rfl, h1, hs1⟩ := hs0.cons
  have hi := rof_inj hR ht10 hu10 h1 h0
  rw [rf9 hu10 h0, rf9 ht10 h1]
  exact lv_acmp_ne hF.1 hF.2.1 hd ht (fun e => absurd (hi.mpr hP) e) (fun _ => kk ls' vs1 hL hs1)
theorem i64_of9 {x : Int} (h : inR x) : (Int64.ofInt x).toInt = x := Int64.toInt_ofInt_of_le (by unfold inR at h; omega) (by unfold inR at h; omega)
theorem x_lcmp {d : Nat} {f : FM} {pc : Nat} {ls st : List SV} {m : Mem} {r : SV ⊕ String} {m' : Mem} {x y : Int} (hd : decode f.1 pc = .ok (.lcmp, 1)) (k : Ex d f (pc + 1) ls ((0, if y < x then 1 else if x = y then 0 else -1) :: st) m r m') : Ex d f pc ls ((2, y) :: (2, x) :: st) m r m' := by
  refine k.step rfl ?_
  intro S0 D ty xa xl xv hB p l e R s mid args below meth c hF hG hfr hlo H locs cells slots ρ L ls' st' Q hS hR hL hn hst kk
  obtain ⟨v0, vs0, rfl, h0, hs0⟩ := hst.cons
  obtain ⟨v1, vs1, rfl, h1, hs1⟩ := hs0.cons
  obtain ⟨rfl, r0⟩ := VR_long.mp h0
  obtain ⟨rfl, r1⟩ := VR_long.mp h1
  refine W.lcmp hF.1 hF.2.1 hd ?_
  have e1 : Int64.ofInt x > Int64.ofInt y ↔ y < x := by
    rw [gt_iff_lt, Int64.lt_iff_toInt_lt, i64_of9 r0, i64_of9 r1]
  have e2 : Int64.ofInt x = Int64.ofInt y ↔ x = y := by
    rw [← Int64.toInt_inj, i64_of9 r0, i64_of9 r1]
  refine kk ls' _ hL ⟨VR_int.mpr ⟨?_, ?_⟩, hs1⟩
  · unfold lg_cmp
    simp only [e1, e2]
    split
    · rfl
    · split <;> rfl
  · unfold inR
    split
    · omega
    · split <;> omega
/-! throws -/
theorem thr9_ne {m : Mem} {a b : Int} (h : a ≠ -2) : thr9 m a b = m a b := by
  unfold thr9
  rw [if_neg (fun h1 => h h1.1), if_neg (fun h1 => h h1.1)]
theorem thr9_c {m : Mem} : thr9 m (-2) 0 = m (-2) 0 + 1 := by
  unfold thr9; rw [if_pos ⟨rfl, rfl⟩]
theorem thr9_s {m : Mem} : thr9 m (-2) 1 = m (-2) 1 + 6 := by
  unfold thr9; rw [if_neg (by decide), if_pos ⟨rfl, rfl⟩]
theorem Ext9.thr {ρ : Int → Nat} {m : Mem} : Ext9 ρ m ρ (thr9 m) := fun i _ _ => ⟨thr9_ne (by decide), rfl⟩
theorem ent_thr {ty : Nat → ClassId} {ρ : Int → Nat} {m : Mem} {i : Int} (hi : 0 < i) : ent ty ρ (thr9 m) i = ent ty ρ m i := by
  unfold ent
  rw [thr9_ne (by decide)]
  have e : ∀ j, thr9 m i j = m i j := fun j => thr9_ne (by omega)
  simp only [e]
theorem RelH.thr {S0 : State} {D : va_G} {ty : Nat → ClassId} {xl : Int → Nat} {xv : Int → Nat → Int32} {ρ : Int → Nat} {m : Mem} {L : List Int} {H H1 : Heap} (h : RelH S0 D ty xl xv ρ m L H) (hsz : H.size ≤ H1.size) (hq : ∀ q : Nat, q < H.size → H1[q]? = H[q]?) : RelH S0 D ty xl xv ρ (thr9 m) L H1 := by
  have hw : wld ty ρ (thr9 m) L = wld ty ρ m L := by
    unfold wld
    refine List.map_congr_left fun i hi => ?_
    rw [ent_thr ((h.2.2.2.1 i).mp hi).1]
  refine ⟨?_, ?_, h.2.2.1, fun i => ?_, ?_, ?_⟩
  · rw [hw]
    refine h.1.kept fun k q hk => ?_
    have hlt : q.1 < H.size := (h.1 k q hk).lt
    exact hq _ hlt
  · rw [hw]; exact h.2.1
  · rw [thr9_ne (by decide)]; exact h.2.2.2.1 i
  · intro i hi h0 j
    rw [thr9_ne (by decide)] at h0
    rw [thr9_ne (by decide), thr9_ne (a := i) (by omega)]
    have hh := h.2.2.2.2.1 i hi h0 j
    exact ⟨hh.1, hh.2.1, fun h1 => by rw [thr9_ne (by decide)]; exact hh.2.2 h1⟩
  · have hs := h.2.2.2.2.2
    unfold SC9 at hs ⊢
    rw [thr9_ne (by decide)]
    refine ⟨hs.1, fun j hj => ?_⟩
    rw [thr9_ne (by decide)]
    exact hs.2 j hj
theorem nw9 {S0 s : State} {w : Cond} (hw : w ∈ NW9) (h : va_Nw w S0) (hG : GS S0 s) {args : Array Value} : w.before args s = true := by
  have h1 : isNW9 w = true := (List.mem_filter.mp hw).2
  cases w <;> first | exact (va_Nw.warmC hG.1 h).use rfl | exact (va_Nw.warmM hG.1 h).use rfl | exact (va_Nw.warmD hG.1 h).use rfl | exact absurd h1 (by unfold isNW9; exact Bool.false_ne_true)
def UP9 : List String := ["java/lang/RuntimeException", "java/lang/Exception"]
/-- what a throw's place must show -/
def thrOK9 (own : String) (ik is ic : Nat) (E tx : String) : Prop := Bundle.fit E = true ∧ (∀ n ∈ UP9, Bundle.fit n = true) ∧ Cond.classLink own ik E ∈ TS ∧ Cond.initialized E ∈ TS ∧ (own, is, tx) ∈ ST9 ∧ (∀ w ∈ (vx_atS own ic E UP9).filter goodWord, w ∈ TS) ∧ (∀ w ∈ (vx_atS own ic E UP9).filter (fun w => !goodWord w), w ∈ NW9) ∧ ∀ w ∈ Cond.classLink own ik E :: Cond.initialized E :: vx_atS own ic E UP9, vx_ot w = true
theorem x_throw {d : Nat} {f : FM} {pc : Nat} {ls st : List SV} {m : Mem} {ik is ic : Nat} {E tx : String} (hk : thrOK9 f.2.1.cls ik is ic E tx) (ht : f.2.2.2.2 = []) (hrest : st.length ≤ 4)
    (d0 : decode f.1 pc = .ok (.new ik, 3)) (d3 : decode f.1 (pc + 3) = .ok (.dup, 1)) (d4 : decode f.1 (pc + 4) = .ok (.ldc is, 2)) (d6 : decode f.1 (pc + 6) = .ok (.invokespecial ic, 3)) (d9 : decode f.1 (pc + 9) = .ok (.athrow, 1)) : Ex d f pc ls st m (.inr E) (thr9 m) := by
  obtain ⟨hfit, hup, hcl9, hini, hstr, hat1, hat2, hgood⟩ := hk
  refine ⟨⟨by rw [thr9_c]; omega, by rw [thr9_s]; omega⟩, fun S0 D ty xa xl xv hB p l e R s mid args below meth c hF hG hfr hlo H locs cells slots ρ L ls' st' Q hS hR hL hn hst hc hs hE => ?_⟩
  rw [thr9_c] at hc
  rw [thr9_s] at hs
  obtain ⟨Qc, XC, free, rfl, hfree, hXC⟩ := hE
  have hts := hF.2.2.2.2.2.2.1
  obtain ⟨sa, hsa⟩ := hB.2.2.2.2.2.2.2.2.1 _ hstr
  have hl2 : 256 ≤ R.locals := Nat.le_trans (by unfold loc9; exact Nat.le_add_left _ _) hlo
  have hr9 : 2 * (F0 mid pc ls' st').monitorRoom + (st'.map fun v => v.category).sum ≤ 8 := room9 (by rw [← hst.len]; exact hrest)
  refine vx_throwS (A := fun q => S0.heap.size ≤ q) (names := UP9) hF.1 hF.2.1 (by unfold Launch.stackTraces; rw [hF.2.2.2.2.2.2.2.2.1]; decide +kernel) hF.2.2.2.2.2.1 hfit hup (hts _ hcl9) (hts _ hini) (hsa.warm hG.1)
    (vx_hat (fun w hw => hts _ (hat1 w hw)) (fun w hw => hw) (fun w hw => nw9 (hat2 w hw) (hB.2.2.2.2.1 _ (hat2 w hw)) hG)) hgood
    ((hB.2.2.2.2.2.2.1.moved hG.1.alike).kept fun a ha hA => hG.2.2 a ha) ((hB.2.2.2.2.2.2.2.1.moved hG.1.alike).kept fun a ha hA => hG.2.2 a ha) hS (by rw [hF.2.2.1, ← hn]; exact hL.choose_spec.1.1) d0 d3 d4 d6 d9 ?_ (by unfold frm9 at hfr; show 2 + 3 < R.frames; omega) (by show _ + (13 * (2 + 1) + 43) ≤ _; omega) (by omega) (by omega) hF.2.2.2.2.1 ?_ (fun z hz => hfree _ (hS.2.2 z hz)) (by omega) (by omega)
  · intro z hz
    rw [hF.2.2.2.2.2.2.2.2.2, ht, tableOf_nil] at hz
    cases hz
  · intro t hvm hsz hq
    refine hXC t ρ L hvm ⟨Nat.le_trans hS.1 hsz, fun q hq1 hq2 => ?_⟩ Ext9.thr (hR.thr hsz hq)
    rw [hq q (Nat.lt_of_lt_of_le hq1 hS.1)]
    exact hS.2.1 q hq1 hq2
theorem x_throwW {d : Nat} {f : FM} {pc : Nat} {ls st : List SV} {m : Mem} {ik is ic : Nat} {E tx : String} (hk : thrOK9 f.2.1.cls ik is ic E tx) (ht : f.2.2.2.2 = []) (hrest : st.length ≤ 4)
    (d0 : decode f.1 pc = .ok (.new ik, 3)) (d3 : decode f.1 (pc + 3) = .ok (.dup, 1)) (d4 : decode f.1 (pc + 4) = .ok (.ldc_w is, 3)) (d6 : decode f.1 (pc + 7) = .ok (.invokespecial ic, 3)) (d9 : decode f.1 (pc + 10) = .ok (.athrow, 1)) : Ex d f pc ls st m (.inr E) (thr9 m) := by
  obtain ⟨hfit, hup, hcl9, hini, hstr, hat1, hat2, hgood⟩ := hk
  refine ⟨⟨by rw [thr9_c]; omega, by rw [thr9_s]; omega⟩, fun S0 D ty xa xl xv hB p l e R s mid args below meth c hF hG hfr hlo H locs cells slots ρ L ls' st' Q hS hR hL hn hst hc hs hE => ?_⟩
  rw [thr9_c] at hc
  rw [thr9_s] at hs
  obtain ⟨Qc, XC, free, rfl, hfree, hXC⟩ := hE
  have hts := hF.2.2.2.2.2.2.1
  obtain ⟨sa, hsa⟩ := hB.2.2.2.2.2.2.2.2.1 _ hstr
  have hl2 : 256 ≤ R.locals := Nat.le_trans (by unfold loc9; exact Nat.le_add_left _ _) hlo
  have hr9 : 2 * (F0 mid pc ls' st').monitorRoom + (st'.map fun v => v.category).sum ≤ 8 := room9 (by rw [← hst.len]; exact hrest)
  refine vx_throwSW (A := fun q => S0.heap.size ≤ q) (names := UP9) hF.1 hF.2.1 (by unfold Launch.stackTraces; rw [hF.2.2.2.2.2.2.2.2.1]; decide +kernel) hF.2.2.2.2.2.1 hfit hup (hts _ hcl9) (hts _ hini) (hsa.warm hG.1)
    (vx_hat (fun w hw => hts _ (hat1 w hw)) (fun w hw => hw) (fun w hw => nw9 (hat2 w hw) (hB.2.2.2.2.1 _ (hat2 w hw)) hG)) hgood
    ((hB.2.2.2.2.2.2.1.moved hG.1.alike).kept fun a ha hA => hG.2.2 a ha) ((hB.2.2.2.2.2.2.2.1.moved hG.1.alike).kept fun a ha hA => hG.2.2 a ha) hS (by rw [hF.2.2.1, ← hn]; exact hL.choose_spec.1.1) d0 d3 d4 d6 d9 ?_ (by unfold frm9 at hfr; show 2 + 3 < R.frames; omega) (by show _ + (13 * (2 + 1) + 43) ≤ _; omega) (by omega) (by omega) hF.2.2.2.2.1 ?_ (fun z hz => hfree _ (hS.2.2 z hz)) (by omega) (by omega)
  · intro z hz
    rw [hF.2.2.2.2.2.2.2.2.2, ht, tableOf_nil] at hz
    cases hz
  · intro t hvm hsz hq
    refine hXC t ρ L hvm ⟨Nat.le_trans hS.1 hsz, fun q hq1 hq2 => ?_⟩ Ext9.thr (hR.thr hsz hq)
    rw [hq q (Nat.lt_of_lt_of_le hq1 hS.1)]
    exact hS.2.1 q hq1 hq2
/-! a static call of a method that has a table and comes back -/
theorem x_callSW {d : Nat} {f : FM} {pc : Nat} {ls st as : List SV} {m m1 : Mem} {v1 : SV} {r : SV ⊕ String} {m' : Mem} {g : FM} {n : Nat} (hM : ExM d g as m (.inl v1) m1) (k : Ex (d + 1) f (pc + 3) ls (push9 v1 st) m1 r m') (hg : okG9 g n) (hg0 : g.2.2.2.2 ≠ []) {idx : Nat} (hlink : Cond.methodLink f.2.1.cls idx g.2.1 ∈ TS) (hstat : Cond.static g.2.1 ∈ TS) (hlen : as.length = n) (hrest : st.length ≤ 4) (hd : decode f.1 pc = .ok (.invokestatic idx, 3)) : Ex (d + 1) f pc ls (as.reverse ++ st) m r m' := by
  refine ⟨⟨Int.le_trans hM.1.1 k.1.1, Int.le_trans hM.1.2 k.1.2⟩, fun S0 D ty xa xl xv hB p l e R s mid args below meth c9 hF hG hfr hlo H locs cells slots ρ L ls' st' Q hS hR hL hn hst hcl hsl hE => ?_⟩
  have k1 := hM.1.1
  have k2 := hM.1.2
  have k3 := k.1.1
  have k4 := k.1.2
  have hts := hF.2.2.2.2.2.2.1
  obtain ⟨x9, y9, rfl, ha9, hb9⟩ := SRel.app hst
  have hav := SRel.rev ha9
  rw [List.reverse_reverse] at hav
  have hcode : Cond.codeWith g.2.1 g.1 g.2.2.1 g.2.2.2.1 g.2.2.2.2 ∈ TS := by
    rcases hg.1 with ⟨h, -⟩ | ⟨-, h⟩
    · exact absurd h hg0
    · exact h
  refine x_after hB hF hG hfr hlo hS hL hn hb9 hM.1 hcl hsl hE (r1 := .inl v1) k (a9 := (x9.reverse).toArray) ?_
  have hlen9 : x9.reverse.length = n := by rw [← hav.len]; exact hlen
  have hMet0 := hM.2.2 S0 D ty xa xl xv hB l hF.2.2.2.2.2.2.2.2.1 ρ L x9.reverse hav
  have hMet : Met l g.2.1 (WS9 g) (RM9 d m m1) (Pc9 S0 D ty xl xv ρ m L x9.reverse) (Qc9 S0 D ty xa xl xv ρ m (.inl v1) m1) (m1 (-2) 0 - m (-2) 0).toNat (m1 (-2) 1 - m (-2) 1).toNat (fun q => S0.heap.size ≤ q) := by
    intro p e ha hc hk s m args below hf happ hP hK
    obtain ⟨n, o, h1, h2, h3, h4⟩ := hMet0 p e ha hc hk s m args below hf happ hP hK
    refine ⟨n, o, h1, h2, h3, ?_⟩
    rcases h4 with h4 | ⟨q, -, E, ce, L, ⟨hr, -⟩, -⟩
    · exact h4
    · cases hr
  have hrun := vx_runSW (bytes := g.1) (maxL := g.2.2.1) (ret := g.2.2.2.1) (hh := g.2.2.2.2) (Ts := TS) (own := f.2.1.cls) (R := R) (p := p) (l := l) (e := e) (args := args) (below := below) (meth := meth) (c := c9) (m := mid) (s := s) (H := H) (locs := locs) (cells := cells) (slots := slots) (n := n) (As := x9.reverse) (rest := y9) (g := F0 mid pc ls' (x9 ++ y9)) ⟨hF.1, hF.2.1, hF.2.2.1, hF.2.2.2.2.2.1, hts⟩ hMet
    ⟨⟨rfl, rfl, room46 hfr, room45 hlo hg.2.2.2.2, pay_in hts (WS_good hg), by unfold WS9 headW; rw [if_neg hg0]; exact List.mem_cons_self⟩, hts _ hcode, hts _ hg.2.1, hg.2.2.1, fun sig h9 => by have h2 := hg.2.2.2.1; rw [h9] at h2; exact (Option.some.inj h2).symm, hts _ hlink, hts _ hstat⟩
    ⟨Pc9.blind, fun U hU hW => Pc9.at hG hS hR U hU hW⟩ rfl hlen9 (by rw [← hn]; exact hL.choose_spec.1.1) (by rw [List.reverse_reverse]) (room9 (by rw [← hb9.len]; exact hrest)) hd ⟨by show cells + (m1 (-2) 0 - m (-2) 0).toNat ≤ R.cells; omega, by show slots + (m1 (-2) 1 - m (-2) 1).toNat ≤ R.slots; omega⟩
  intro T hT X
  exact Or.inl (hrun T hT X)
