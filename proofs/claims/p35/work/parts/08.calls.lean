/-! a method's end, its contract, and calls -/
theorem x_ret {d : Nat} {f : FM} {pc : Nat} {ls : List SV} {m : Mem} {v : SV} (hd : RetI f.1 f.2.2.2.1 pc) (hv : v.1 ≠ 3) : Ex d f pc ls [v] m (.inl v) m := by
  refine ⟨⟨Int.le_refl _, Int.le_refl _⟩, fun S0 D ty xa xl xv hB p l e R s mid args below meth c hF hG hfr hlo H locs cells slots ρ L ls' st' Q hS hR hL hn hst hc hs hE => ?_⟩
  obtain ⟨w, ws, rfl, h0, h1⟩ := hst.cons
  cases ws with
  | cons _ _ => exact h1.elim
  | nil => exact hE.2 pc ls' [w] H locs cells slots ρ L hd hS Ext9.rf hR (Or.inr ⟨hv, w, h0, rfl⟩) (by omega) (by omega)
theorem x_retv {d : Nat} {f : FM} {pc : Nat} {ls : List SV} {m : Mem} (hd : RetI f.1 f.2.2.2.1 pc) : Ex d f pc ls [] m (.inl (3, 0)) m := by
  refine ⟨⟨Int.le_refl _, Int.le_refl _⟩, fun S0 D ty xa xl xv hB p l e R s mid args below meth c hF hG hfr hlo H locs cells slots ρ L ls' st' Q hS hR hL hn hst hc hs hE => ?_⟩
  cases st' with
  | cons _ _ => exact hst.elim
  | nil => exact hE.2 pc ls' [] H locs cells slots ρ L hd hS Ext9.rf hR (Or.inl ⟨rfl, rfl⟩) (by omega) (by omega)
def RM9 (d : Nat) (m m' : Mem) : Room := { frames := frm9 d, cells := (m' (-2) 0 - m (-2) 0).toNat, slots := (m' (-2) 1 - m (-2) 1).toNat, locals := loc9 d }
def headW (f : FM) : Cond := if f.2.2.2.2 = [] then Cond.code f.2.1 f.1 f.2.2.1 f.2.2.2.1 else Cond.codeWith f.2.1 f.1 f.2.2.1 f.2.2.2.1 f.2.2.2.2
def WS9 (f : FM) : List Cond := headW f :: TS
section SM2
variable (S0 : State) (D : va_G) (ty : Nat → ClassId) (xa : Int → Nat) (xl : Int → Nat) (xv : Int → Nat → Int32)
def Pc9 (ρ : Int → Nat) (m : Mem) (L : List Int) (av : List Value) : Array Value → State → Prop := fun a U => a = av.toArray ∧ GS S0 U ∧ RelH S0 D ty xl xv ρ m L U.heap
def Qc9 (ρ : Int → Nat) (m : Mem) (r : SV ⊕ String) (m' : Mem) : Array Value → State → Outcome → State → Prop := fun _ st o t => ∃ (v : SV) (w : Option Value) (ρ2 : Int → Nat) (L2 : List Int), r = .inl v ∧ o = .returned w ∧
  (v.1 = 3 ∧ w = none ∨ v.1 ≠ 3 ∧ ∃ w2, w = some w2 ∧ VR xa ρ2 m' v w2) ∧ Ext9 ρ m ρ2 m' ∧ RelH S0 D ty xl xv ρ2 m' L2 t.heap ∧ va_F (fun q => S0.heap.size ≤ q) st t
def XC9 (ρ : Int → Nat) (m : Mem) (r : SV ⊕ String) (m' : Mem) : String → State → State → Prop := fun E st t => r = .inr E ∧ ∃ (ρ2 : Int → Nat) (L2 : List Int), Ext9 ρ m ρ2 m' ∧ RelH S0 D ty xl xv ρ2 m' L2 t.heap ∧ va_F (fun q => S0.heap.size ≤ q) st t
end SM2
/-- a method's contract: from 'as' and m it comes to r and m' -/
def ExM (d : Nat) (f : FM) (as : List SV) (m : Mem) (r : SV ⊕ String) (m' : Mem) : Prop :=
  mle9 m m' ∧ (∀ v, r = .inl v → RetV f.2.2.2.1 v) ∧ ∀ (S0 : State) (D : va_G) (ty : Nat → ClassId) (xa : Int → Nat) (xl : Int → Nat) (xv : Int → Nat → Int32), BF S0 D ty xa xl xv → ∀ (l : Launch), l.flags = flags0 →
    ∀ (ρ : Int → Nat) (L : List Int) (av : List Value), SRel xa ρ m as av → vx_Met l f.2.1 (WS9 f) (RM9 d m m') (Pc9 S0 D ty xl xv ρ m L av) (Qc9 S0 D ty xa xl xv ρ m r m') (XC9 S0 D ty xl xv ρ m r m') (m' (-2) 0 - m (-2) 0).toNat (m' (-2) 1 - m (-2) 1).toNat (fun q => S0.heap.size ≤ q)
theorem lv_args_mem {vs : List Value} : ∀ {i j : Nat} {v : Value}, (∀ w ∈ vs, w.category = 1) → vs[j]? = some v → (i + j, v) ∈ lv_args i vs := by
  induction vs with
  | nil => intro i j v _ h; cases h
  | cons w ws ih =>
    intro i j v hc h
    have hw : w.category = 1 := hc w List.mem_cons_self
    show (i + j, v) ∈ (i, w) :: lv_args (if w.category = 2 then i + 2 else i + 1) ws
    rw [if_neg (by omega)]
    cases j with
    | zero =>
      cases h
      exact List.mem_cons_self
    | succ j =>
      have := ih (i := i + 1) (j := j) (v := v) (fun u hu => hc u (List.mem_cons_of_mem _ hu)) h
      exact List.mem_cons_of_mem _ (by rw [show i + (j + 1) = i + 1 + j by omega]; exact this)
theorem lg_sl_len {vs : List Value} (hc : ∀ w ∈ vs, w.category = 1) : (lg_sl vs).length = vs.length := by
  induction vs with
  | nil => rfl
  | cons w ws ih =>
    have hw : w.category = 1 := hc w List.mem_cons_self
    have e : lg_sl (w :: ws) = Slot.val w :: lg_sl ws := by
      unfold lg_sl
      rw [List.flatMap_cons, if_neg (by omega)]
      rfl
    rw [e, List.length_cons, List.length_cons, ih fun u hu => hc u (List.mem_cons_of_mem _ hu)]
theorem SRel.len {xa : Int → Nat} {ρ : Int → Nat} {m : Mem} : ∀ {qs : List SV} {vs : List Value}, SRel xa ρ m qs vs → qs.length = vs.length
  | [], [], _ => rfl
  | _ :: _, _ :: _, h => by rw [List.length_cons, List.length_cons, SRel.len h.2]
  | [], _ :: _, h => h.elim
  | _ :: _, [], h => h.elim
theorem SRel.cats {xa : Int → Nat} {ρ : Int → Nat} {m : Mem} : ∀ {qs : List SV} {vs : List Value}, SRel xa ρ m qs vs → (∀ q ∈ qs, q.1 ≠ 2) → ∀ w ∈ vs, w.category = 1
  | [], [], _, _ => fun w hw => by cases hw
  | _ :: _, _ :: _, h, hq => fun w hw => by
    rcases List.mem_cons.mp hw with rfl | hw
    · exact h.1.cat (hq _ List.mem_cons_self)
    · exact SRel.cats h.2 (fun q h => hq q (List.mem_cons_of_mem _ h)) w hw
  | [], _ :: _, h, _ => h.elim
  | _ :: _, [], h, _ => h.elim
theorem SRel.at {xa : Int → Nat} {ρ : Int → Nat} {m : Mem} : ∀ {qs : List SV} {vs : List Value}, SRel xa ρ m qs vs → ∀ (j : Nat) {q : SV}, qs[j]? = some q → ∃ v, vs[j]? = some v ∧ VR xa ρ m q v
  | [], [], _, _, _, hq => by cases hq
  | _ :: _, v :: _, h, 0, _, hq => by
    cases hq
    exact ⟨v, rfl, h.1⟩
  | _ :: _, _ :: _, h, j + 1, _, hq => SRel.at h.2 j hq
  | [], _ :: _, h, _, _, _ => h.elim
  | _ :: _, [], h, _, _, _ => h.elim
def ent9 (as : List SV) (n : Nat) : List SV := as ++ List.replicate (n - as.length) (3, 0)
theorem LRel.entry {xa : Int → Nat} {ρ : Int → Nat} {m : Mem} {as : List SV} {av : List Value} (h : SRel xa ρ m as av) (hq : ∀ q ∈ as, q.1 ≠ 2) {n : Nat} (hn : as.length ≤ n) : LRel xa ρ m (ent9 as n) ((lg_sl av ++ List.replicate (n - (lg_sl av).length) Slot.unset).toArray) := by
  have hc := h.cats hq
  have hl := h.len
  have hlen : (ent9 as n).length = n := by
    unfold ent9
    rw [List.length_append, List.length_replicate]; omega
  refine ⟨lv_args 0 av, by rw [hlen]; exact lv_entry av (by rw [lg_sl_len hc]; omega), fun i q hi => ?_⟩
  by_cases hlt : i < as.length
  · unfold ent9 at hi
    rw [List.getElem?_append_left hlt] at hi
    obtain ⟨v, hv, hr⟩ := h.at i hi
    have := lv_args_mem (i := 0) hc hv
    rw [Nat.zero_add] at this
    exact Or.inr ⟨hq q (List.mem_of_getElem? hi), v, this, hr⟩
  · unfold ent9 at hi
    rw [List.getElem?_append_right (by omega), List.getElem?_replicate] at hi
    split at hi
    · cases hi
      exact Or.inl rfl
    · cases hi
theorem tableOf_nil : tableOf [] = [] := rfl
theorem ExM.of {d : Nat} {f : FM} {as : List SV} {m : Mem} {r : SV ⊕ String} {m' : Mem} (hy : plainName f.2.1.cls = true) (hlen : as.length ≤ f.2.2.1) (hcat : ∀ q ∈ as, q.1 ≠ 2) (hret : ∀ v, r = .inl v → RetV f.2.2.2.1 v) (k : Ex d f 0 (ent9 as f.2.2.1) [] m r m') : ExM d f as m r m' := by
  refine ⟨k.1, hret, fun S0 D ty xa xl xv hB l hl ρ L av hav => ?_⟩
  have key : ∀ p e s mid args below meth c s₁, BodyLoose p l f.2.1 (headSpec (WS9 f) (RM9 d m m')) f.1 f.2.2.1 f.2.2.2.1 e s mid args below meth c s₁ → c.maxLocals = f.2.2.1 → c.exceptionTable.toList = tableOf f.2.2.2.2 → Pc9 S0 D ty xl xv ρ m L av args s →
      W p l e (headSpec (WS9 f) (RM9 d m m')).room s mid args below meth c s.heap [] 0 0 (vx_MQ below (Qc9 S0 D ty xa xl xv ρ m r m') (XC9 S0 D ty xl xv ρ m r m') args s (m' (-2) 0 - m (-2) 0).toNat (m' (-2) 1 - m (-2) 1).toNat (fun q => S0.heap.size ≤ q)) (entryFrame mid args f.2.2.1) := by
    intro p e s mid args below meth c s₁ B hml htab hv
    obtain ⟨rfl, hG, hR⟩ := hv
    have hts := atoms_spec (ws := WS9 f) B.pre
    have hFC : FC f p l s mid av.toArray meth c := ⟨B.exec, B.bytes, hml, B.returns, B.notSynchronized, findClass_of_methodNamed B.named, fun w hw => hts w (List.mem_cons_of_mem _ hw), (name_of_methodNamed B.named B.method).1, hl, htab⟩
    have hk1 := k.1.1
    have hk2 := k.1.2
    rw [lg_entry_eq]
    refine k.2 S0 D ty xa xl xv hB p l e _ s mid av.toArray below meth c hFC hG (Nat.le_refl _) (Nat.le_refl _) s.heap [] 0 0 ρ L _ [] _ va_S.rf hR (LRel.entry hav hcat hlen) ?_ trivial ?_ ?_ ?_
    · unfold ent9
      rw [List.length_append, List.length_replicate]; omega
    · show ((0 : Nat) : Int) + (m' (-2) 0 - m (-2) 0) ≤ ((m' (-2) 0 - m (-2) 0).toNat : Nat)
      omega
    · show ((0 : Nat) : Int) + (m' (-2) 1 - m (-2) 1) ≤ ((m' (-2) 1 - m (-2) 1).toNat : Nat)
      omega
    · cases r with
      | inr E =>
        exact ⟨_, _, _, rfl, fun z hz => hz, fun t ρ2 L2 _ hva hX2 hR2 => ⟨rfl, ρ2, L2, hX2, hR2, hva⟩⟩
      | inl v =>
        refine ⟨hret v rfl, fun pc2 ls2 st2 H2 locs2 cells2 slots2 ρ2 L2 hdec hS2 hX2 hR2 hv2 hc2 hs2 => ?_⟩
        have hrv := hret v rfl
        have hq : ∀ (w : Option Value) (t : State), (v.1 = 3 ∧ w = none ∨ v.1 ≠ 3 ∧ ∃ w2, w = some w2 ∧ VR xa ρ2 m' v w2) → t.heap = H2 → Qc9 S0 D ty xa xl xv ρ m (.inl v) m' av.toArray s (.returned w) t := fun w t hw ht => ⟨v, w, ρ2, L2, rfl, rfl, hw, hX2, by rw [ht]; exact hR2, hS2.F ht⟩
        refine W.widen (k := (m' (-2) 0 - m (-2) 0).toNat) (n := (m' (-2) 1 - m (-2) 1).toNat) hc2 hs2 (vx_ret ?_)
        have hr := hFC.2.2.2.1
        unfold RetV at hrv
        unfold RetI at hdec
        cases hret9 : f.2.2.2.1 with
        | none =>
          rw [hret9] at hrv hdec hr
          rcases hv2 with ⟨h3, rfl⟩ | ⟨h3, -⟩
          · exact W.vret hFC.1 hFC.2.1 hr (fun t ht _ => hq none t (Or.inl ⟨h3, rfl⟩) ht) hS2.2.2 hdec hFC.2.2.2.2.1
          · exact absurd hrv h3
        | some ft =>
          rw [hret9] at hrv hdec hr
          cases ft with
          | int =>
            rcases hv2 with ⟨h3, rfl⟩ | ⟨h3, w, hw, rfl⟩
            · exact absurd (h3.symm.trans hrv) (by decide)
            · have hw' := hw
              obtain ⟨v1, v2⟩ := v
              have hv1 : v1 = 0 := hrv
              subst hv1
              obtain ⟨rfl, -⟩ := VR_int.mp hw'
              exact W.iret hFC.1 hFC.2.1 hr (fun t ht _ => hq _ t (Or.inr ⟨h3, _, rfl, hw⟩) ht) hS2.2.2 hdec hFC.2.2.2.2.1
          | boolean =>
            rcases hv2 with ⟨h3, rfl⟩ | ⟨h3, w, hw, rfl⟩
            · exact absurd (h3.symm.trans hrv.1) (by decide)
            · have hw' := hw
              obtain ⟨v1, v2⟩ := v
              obtain ⟨hv1, hv2⟩ := hrv
              have hv1 : v1 = 0 := hv1
              have hv2 : v2 = 0 ∨ v2 = 1 := hv2
              subst hv1
              obtain ⟨rfl, -⟩ := VR_int.mp hw'
              refine W.zret hFC.1 hFC.2.1 hr ?_ (fun t ht _ => hq _ t (Or.inr ⟨h3, _, rfl, hw⟩) ht) hS2.2.2 hdec hFC.2.2.2.2.1
              rcases hv2 with rfl | rfl <;> rfl
          | object nm =>
            rcases hv2 with ⟨h3, rfl⟩ | ⟨h3, w, hw, rfl⟩
            · have h10 : 10 ≤ v.1 := hrv
              omega
            · have h10 : 10 ≤ v.1 := hrv
              have hw' : VR xa ρ2 m' (v.1, v.2) w := hw
              exact W.aret hFC.1 hFC.2.1 hr (Or.inl ⟨nm, rfl⟩) (hw'.isRef (Or.inr h10)) (fun t ht _ => hq _ t (Or.inr ⟨h3, _, rfl, hw⟩) ht) hS2.2.2 hdec hFC.2.2.2.2.1
          | _ => exact hrv.elim
  by_cases hh : f.2.2.2.2 = []
  · have hw : WS9 f = Cond.code f.2.1 f.1 f.2.2.1 f.2.2.2.1 :: TS := by unfold WS9 headW; rw [if_pos hh]
    refine vx_ofW (cc := f.1) (maxL := f.2.2.1) (ret := f.2.2.2.1) hy hw ?_
    intro p e s mid args below meth c s₁ B hml hno hv
    refine key p e s mid args below meth c s₁ B hml ?_ hv
    rw [hh, tableOf_nil]
    exact List.eq_nil_iff_forall_not_mem.mpr fun x hx => hno x hx
  · have hw : WS9 f = Cond.codeWith f.2.1 f.1 f.2.2.1 f.2.2.2.1 f.2.2.2.2 :: TS := by unfold WS9 headW; rw [if_neg hh]
    refine vx_ofWH (cc := f.1) (maxL := f.2.2.1) (ret := f.2.2.2.1) (hh := f.2.2.2.2) hy hw ?_
    intro p e s mid args below meth c s₁ B hml hv
    refine key p e s mid args below meth c s₁ B hml ?_ hv
    exact vx_table (x := f.2.1) (y := f.2.1) B (atoms_spec (ws := WS9 f) B.pre _ (by rw [hw]; exact List.mem_cons_self))
