/-! calls -/
theorem room45 {d k L : Nat} (h : loc9 (d + 1) ≤ L) (h45 : k ≤ 45) : 8 + (k + 11) + loc9 d ≤ L := by
  have e1 : loc9 (d + 1) = loc9 d + 64 := by unfold loc9; rw [Nat.mul_add]
  rw [e1] at h
  generalize loc9 d = z at *
  omega
theorem room46 {d L : Nat} (h : frm9 (d + 1) ≤ L) : frm9 d + 1 ≤ L := by
  unfold frm9 at *
  omega
theorem SRel.app {xa : Int → Nat} {ρ : Int → Nat} {m : Mem} : ∀ {a b : List SV} {st : List Value}, SRel xa ρ m (a ++ b) st → ∃ x y, st = x ++ y ∧ SRel xa ρ m a x ∧ SRel xa ρ m b y
  | [], _, st, h => ⟨[], st, rfl, trivial, h⟩
  | _ :: _, _, v :: vs, h => by
    obtain ⟨x, y, e, h1, h2⟩ := SRel.app h.2
    exact ⟨v :: x, y, by rw [e]; rfl, ⟨h.1, h1⟩, h2⟩
  | _ :: _, _, [], h => h.elim
theorem SRel.app2 {xa : Int → Nat} {ρ : Int → Nat} {m : Mem} : ∀ {a b : List SV} {x y : List Value}, SRel xa ρ m a x → SRel xa ρ m b y → SRel xa ρ m (a ++ b) (x ++ y)
  | [], _, [], _, _, h => h
  | _ :: _, _, _ :: _, _, h, k => ⟨h.1, SRel.app2 h.2 k⟩
  | [], _, _ :: _, _, h, _ => h.elim
  | _ :: _, _, [], _, h, _ => h.elim
theorem SRel.rev {xa : Int → Nat} {ρ : Int → Nat} {m : Mem} : ∀ {a : List SV} {x : List Value}, SRel xa ρ m a x → SRel xa ρ m a.reverse x.reverse
  | [], [], _ => trivial
  | q :: a, v :: x, h => by
    rw [List.reverse_cons, List.reverse_cons]
    exact SRel.app2 (SRel.rev h.2) ⟨h.1, trivial⟩
  | [], _ :: _, h => h.elim
  | _ :: _, [], h => h.elim
theorem cats9 (vs : List Value) : (vs.map fun v => v.category).sum ≤ 2 * vs.length := by
  induction vs with
  | nil => exact Nat.le_refl _
  | cons v vs ih =>
    rw [List.map_cons, List.sum_cons, List.length_cons]
    have : v.category ≤ 2 := by rcases lv_cat v with h | h <;> omega
    omega
def push9 (v : SV) (st : List SV) : List SV := if v.1 = 3 then st else v :: st
/-- as Ex, at a handler's first instruction: what was thrown lies on the stack -/
def ExH (d : Nat) (f : FM) (pc : Nat) (ls : List SV) (m : Mem) (r : SV ⊕ String) (m' : Mem) : Prop :=
  mle9 m m' ∧ ∀ (S0 : State) (D : va_G) (ty : Nat → ClassId) (xa : Int → Nat) (xl : Int → Nat) (xv : Int → Nat → Int32), BF S0 D ty xa xl xv →
    ∀ (p : Program) (l : Launch) (e : Env) (R : Room) (s : State) (mid : MethodId) (args : Array Value) (below : List Frame) (meth : Method) (c : Code), FC f p l s mid args meth c → GS S0 s → frm9 d ≤ R.frames → loc9 d ≤ R.locals →
    ∀ (H : Heap) (locs : List Loc) (cells slots : Nat) (ρ : Int → Nat) (L : List Int) (ls' : Array Slot) (q : Addr) (Q : State → Prop), va_S (fun q => S0.heap.size ≤ q) s.heap H locs → RelH S0 D ty xl xv ρ m L H → LRel xa ρ m ls ls' → ls.length = f.2.2.1 →
    (cells : Int) + (m' (-2) 0 - m (-2) 0) ≤ R.cells → (slots : Int) + (m' (-2) 1 - m (-2) 1) ≤ R.slots → End9 S0 D ty xa xl xv f p l e R s mid args below meth c ρ m r m' Q → W p l e R s mid args below meth c H locs cells slots Q (F0 mid pc ls' [.ref q])
/-- how it goes on behind a call that came to r1 and m1; (a, b, h, ct) a row of the table -/
def Cont9 (d : Nat) (f : FM) (pc : Nat) (ls st : List SV) (r1 : SV ⊕ String) (m1 : Mem) (r : SV ⊕ String) (m' : Mem) : Prop := match r1 with
  | .inl v => Ex d f (pc + 3) ls (push9 v st) m1 r m'
  | .inr E => (f.2.2.2.2 = [] ∧ r = .inr E ∧ m' = m1) ∨ ∃ (pre suf : List (Nat × Nat × Nat × Nat)) (x : Nat × Nat × Nat × Nat), f.2.2.2.2 = pre ++ x :: suf ∧ (x.1 ≤ pc ∧ pc < x.2.1) ∧ x.2.2.2 ≠ 0 ∧ Cond.classLink f.2.1.cls x.2.2.2 E ∈ TS ∧ Cond.castable E E ∈ NW9 ∧
      (∀ z ∈ pre, z.2.2.2 ≠ 0 ∧ ∃ nm : String, Cond.classLink f.2.1.cls z.2.2.2 nm ∈ TS ∧ (E, nm) ∈ NC9) ∧ ExH d f x.2.2.1 ls m1 r m'
theorem Cont9.mle {d : Nat} {f : FM} {pc : Nat} {ls st : List SV} {r1 : SV ⊕ String} {m1 : Mem} {r : SV ⊕ String} {m' : Mem} (h : Cont9 d f pc ls st r1 m1 r m') : mle9 m1 m' := by
  cases r1 with
  | inl v => exact h.1
  | inr E =>
    rcases h with ⟨-, -, rfl⟩ | ⟨_, _, _, -, -, -, -, -, -, h⟩
    · exact ⟨Int.le_refl _, Int.le_refl _⟩
    · exact h.1
def okG9 (g : FM) (n : Nat) : Prop := (g.2.2.2.2 = [] ∧ Cond.code g.2.1 g.1 g.2.2.1 g.2.2.2.1 ∈ TS ∨ g.2.2.2.2 ≠ [] ∧ Cond.codeWith g.2.1 g.1 g.2.2.1 g.2.2.2.1 g.2.2.2.2 ∈ TS) ∧ Cond.initialized g.2.1.cls ∈ TS ∧ (g.2.1.cls ≠ "java/lang/invoke/MethodHandle" ∧ g.2.1.cls ≠ "java/lang/invoke/VarHandle") ∧ (parseMethodDescriptor g.2.1.desc).map (fun d => d.parameters.length) = some n ∧ g.2.2.1 ≤ 45
theorem TS_good {w : Cond} (h : w ∈ TS) : goodWord w = true := (List.mem_filter.mp h).2
theorem WS_good {g : FM} {n : Nat} (h : okG9 g n) : GoodIn TS (WS9 g) := by
  intro w hw
  have h1 : w ∈ TS := by
    unfold WS9 headW at hw
    rcases h.1 with ⟨h0, h1⟩ | ⟨h0, h1⟩
    · rw [if_pos h0] at hw
      rcases List.mem_cons.mp hw with rfl | hw
      · exact h1
      · exact hw
    · rw [if_neg h0] at hw
      rcases List.mem_cons.mp hw with rfl | hw
      · exact h1
      · exact hw
  exact ⟨h1, good_of_word (TS_good h1)⟩
def tableRow9 (x : Nat × Nat × Nat × Nat) : ExceptionTableEntry := ⟨x.1, x.2.1, x.2.2.1, x.2.2.2⟩
theorem tableOf_app9 (pre : List (Nat × Nat × Nat × Nat)) (x : Nat × Nat × Nat × Nat) (suf : List (Nat × Nat × Nat × Nat)) : tableOf (pre ++ x :: suf) = tableOf pre ++ tableRow9 x :: tableOf suf := by
  unfold tableOf
  rw [List.map_append, List.map_cons]
  rfl
theorem tableOf_mem9 {pre : List (Nat × Nat × Nat × Nat)} {z : ExceptionTableEntry} (h : z ∈ tableOf pre) : ∃ y ∈ pre, z = tableRow9 y := by
  obtain ⟨y, hy, e⟩ := List.mem_map.mp h
  exact ⟨y, hy, e.symm⟩
theorem covers_row9 {x : Nat × Nat × Nat × Nat} {pc : Nat} (h : x.1 ≤ pc ∧ pc < x.2.1) : covers (tableRow9 x) pc = true := by
  unfold covers tableRow9
  simp [h.1, h.2]
theorem x_after {S0 : State} {D : va_G} {ty : Nat → ClassId} {xa : Int → Nat} {xl : Int → Nat} {xv : Int → Nat → Int32} (hB : BF S0 D ty xa xl xv) {p : Program} {l : Launch} {e : Env} {R : Room} {s : State} {mid : MethodId} {args : Array Value} {below : List Frame} {meth : Method} {c : Code} {d : Nat} {f : FM} (hF : FC f p l s mid args meth c) (hG : GS S0 s) (hfr : frm9 d ≤ R.frames) (hlo : loc9 d ≤ R.locals)
    {H : Heap} {locs : List Loc} {cells slots : Nat} {ρ : Int → Nat} {ls : List SV} {ls' : Array Slot} {m m1 m' : Mem} {st : List SV} {rest st0 : List Value} {Q : State → Prop} {pc : Nat} {r1 r : SV ⊕ String} {a9 : Array Value}
    (hS : va_S (fun q => S0.heap.size ≤ q) s.heap H locs) (hL : LRel xa ρ m ls ls') (hnn : ls.length = f.2.2.1) (hst : SRel xa ρ m st rest) (hm1 : mle9 m m1)
    (hc : (cells : Int) + (m' (-2) 0 - m (-2) 0) ≤ R.cells) (hs : (slots : Int) + (m' (-2) 1 - m (-2) 1) ≤ R.slots) (hE : End9 S0 D ty xa xl xv f p l e R s mid args below meth c ρ m r m' Q) (k : Cont9 d f pc ls st r1 m1 r m')
    (hr : vx_Run p l e R s mid args below meth c H locs cells slots (m1 (-2) 0 - m (-2) 0).toNat (m1 (-2) 1 - m (-2) 1).toNat (F0 mid pc ls' st0) rest (Qc9 S0 D ty xa xl xv ρ m r1 m1 a9) (XC9 S0 D ty xl xv ρ m r1 m1) (fun q => S0.heap.size ≤ q)) :
    W p l e R s mid args below meth c H locs cells slots Q (F0 mid pc ls' st0) := by
  have k1 := hm1.1
  have k2 := hm1.2
  have k3 := k.mle.1
  have k4 := k.mle.2
  intro T hT X
  rcases hr T hT X with ⟨v, st₀, t, T', L, h0, X', hLf, e1, e2, ⟨v1, w, ρ2, L2, hr1, hw, hvw, hX2, hR2, hva⟩, hgo⟩ | ⟨q, st₀, t, T', L, E, ce, h0, X', hLf, e1, e2, ⟨hr1, ρ2, L2, hX2, hR2, hva⟩, hce, hcv, hcl, hgo⟩
  · obtain ⟨-, -, kS⟩ := vx_keep (A0 := fun q => S0.heap.size ≤ q) (A1 := fun q => S0.heap.size ≤ q) h0 e1 hS (fun _ _ h => h) (fun _ h => h) hLf hva
    cases hw
    subst hr1
    have hR3 : RelH S0 D ty xl xv ρ2 m1 L2 T'.heap := by rw [e1]; exact hR2
    have hst2 : SRel xa ρ2 m1 (push9 v1 st) (v.toList ++ rest) := by
      unfold push9
      rcases hvw with ⟨h3, rfl⟩ | ⟨h3, w2, rfl, hw2⟩
      · rw [if_pos h3]
        exact hst.ext hX2
      · rw [if_neg h3]
        exact ⟨hw2, hst.ext hX2⟩
    obtain ⟨t2, a1, b1⟩ := k.2 S0 D ty xa xl xv hB p l e R s mid args below meth c hF hG hfr hlo T'.heap (locs ++ L) (cells + (m1 (-2) 0 - m (-2) 0).toNat) (slots + (m1 (-2) 1 - m (-2) 1).toNat) ρ2 L2 ls' (v.toList ++ rest) Q kS hR3 (hL.ext hX2) hnn hst2 (by omega) (by omega) (hE.ext hX2) T' rfl X'
    exact ⟨t2, hgo t2 a1, b1⟩
  · obtain ⟨-, -, kS⟩ := vx_keep (A0 := fun q => S0.heap.size ≤ q) (A1 := fun q => S0.heap.size ≤ q) h0 e1 hS (fun _ _ h => h) (fun _ h => h) hLf hva
    subst hr1
    have hR3 : RelH S0 D ty xl xv ρ2 m1 L2 T'.heap := by rw [e1]; exact hR2
    have hce2 : T'.heap[q]? = some ce := by rw [e1]; exact hce
    rcases k with ⟨hh, rfl, rfl⟩ | ⟨pre, suf, x, hh, hcov, hx0, hlk, hcast, hpre, kE⟩
    · obtain ⟨Qc, XC, free, rfl, hfree, hXC⟩ := hE
      have hout : ∀ z ∈ c.exceptionTable.toList, covers z pc = false := by
        intro z hz
        rw [hF.2.2.2.2.2.2.2.2.2, hh, tableOf_nil] at hz
        cases hz
      obtain ⟨t2, a1, b1⟩ := vx_out (mc := R.cells) (ms := R.slots) (Qc := Qc) (XC := XC) (rest := rest) (ls := ls') (R := R) (l := l) (p := p) (e := e) (args := args) (below := below) hout hF.2.2.2.2.1 hce2 hcv hcl (fun t9 ht9 hvm9 => hXC t9 ρ2 L2 hvm9 (kS.F ht9) hX2 (by rw [ht9]; exact hR3)) (fun z hz => hfree _ (kS.2.2 z hz)) (by omega) (by omega) T' rfl X'
      exact ⟨t2, hgo.trans a1, b1⟩
    · have htab : c.exceptionTable.toList = tableOf pre ++ tableRow9 x :: tableOf suf := by
        rw [hF.2.2.2.2.2.2.2.2.2, hh]
        exact tableOf_app9 pre x suf
      have hts := hF.2.2.2.2.2.2.1
      have hcov2 : covers (tableRow9 x) pc = true := covers_row9 hcov
      obtain ⟨t2, a1, b1⟩ := vx_catch (rest := rest) (ls := ls') (R := R) (l := l) (p := p) (e := e) (args := args) (below := below) (meth := meth) (pc := pc) (name := E) (E := E) hF.2.2.2.2.2.1 (tableOf pre) (tableRow9 x) (tableOf suf) htab
        (fun z hz => by
          obtain ⟨y, hy, rfl⟩ := tableOf_mem9 hz
          obtain ⟨h1, nm, h2, h3⟩ := hpre y hy
          exact Or.inr ⟨h1, nm, hts _ h2, va_Nc.moved hG.1.alike (hB.2.2.2.2.2.1 _ h3)⟩) hcov2 hx0 (hts _ hlk) ((va_Nw.warmC hG.1 (hB.2.2.2.2.1 _ hcast)).use rfl) hce2 hcv hcl
        (kE.2 S0 D ty xa xl xv hB p l e R s mid args below meth c hF hG hfr hlo T'.heap (locs ++ L) (cells + (m1 (-2) 0 - m (-2) 0).toNat) (slots + (m1 (-2) 1 - m (-2) 1).toNat) ρ2 L2 ls' q Q kS hR3 (hL.ext hX2) hnn (by omega) (by omega) (hE.ext hX2)) T' rfl X'
      exact ⟨t2, hgo.trans a1, b1⟩
theorem mon9 (mid : MethodId) (pc : Nat) (ls : Array Slot) (st : List Value) : (F0 mid pc ls st).monitorRoom = 0 := rfl
theorem room9 {mid : MethodId} {pc : Nat} {ls : Array Slot} {st rest : List Value} (h : rest.length ≤ 4) : 2 * (F0 mid pc ls st).monitorRoom + (rest.map fun v => v.category).sum ≤ 8 := by
  have := cats9 rest
  rw [mon9]
  omega
theorem Pc9.blind {S0 : State} {D : va_G} {ty : Nat → ClassId} {xl : Int → Nat} {xv : Int → Nat → Int32} {ρ : Int → Nat} {m : Mem} {L : List Int} {av : List Value} : FrameBlind (Pc9 S0 D ty xl xv ρ m L av) := fun _ _ _ _ h => h
theorem Pc9.at {S0 : State} {D : va_G} {ty : Nat → ClassId} {xl : Int → Nat} {xv : Int → Nat → Int32} {ρ : Int → Nat} {m : Mem} {L : List Int} {av : List Value} {s : State} {H : Heap} {locs : List Loc} (hG : GS S0 s) (hS : va_S (fun q => S0.heap.size ≤ q) s.heap H locs) (hR : RelH S0 D ty xl xv ρ m L H) (U : State) (hU : U.heap = H) (hW : s.WarmedH U.vm) : Pc9 S0 D ty xl xv ρ m L av av.toArray U := by
  refine ⟨rfl, ⟨State.WarmedH.trans hG.1 hW, by rw [hU]; exact Nat.le_trans hG.2.1 hS.1, fun q hq => ?_⟩, by rw [hU]; exact hR⟩
  rw [hU, hS.2.1 q (Nat.lt_of_lt_of_le hq hG.2.1) (by omega)]
  exact hG.2.2 q hq
/-- the receiver lies in the heap -/
theorem recv9 {S0 : State} {D : va_G} {ty : Nat → ClassId} {xl : Int → Nat} {xv : Int → Nat → Int32} {ρ : Int → Nat} {m : Mem} {L : List Int} {H : Heap} (hR : RelH S0 D ty xl xv ρ m L H) {s : State} (hK : va_K D vwCl (tys9 ty) s) {x : Int} {c : Nat} {C : String} {T : u_T} {N : Nat} (hx : 0 < x) (hm : m (-1) x = 10 + (c : Int)) (hc : vwCl[c]? = some (C, T, N)) : ∃ cellB : Cell, H[ρ x]? = some cellB ∧ cellB.vm.isStatics = false ∧ s.vm.findClass C = some cellB.cls := by
  obtain ⟨q0, -, hw⟩ := hR.at hx hm (by omega)
  rw [ent_obj hm (vwCl_at hc)] at hw
  obtain ⟨r, hr, cell, h1, h2, h3, -⟩ := hR.1 _ _ hw
  refine ⟨cell, h1, by rw [h3]; rfl, ?_⟩
  rw [h2]
  exact (hK.1 _ _ hc).2.1
theorem x_callV {d : Nat} {f : FM} {pc : Nat} {ls st as : List SV} {m m1 : Mem} {r1 r : SV ⊕ String} {m' : Mem} {t x : Int} {g : FM} {n : Nat} (hM : ExM d g ((t, x) :: as) m r1 m1) (k : Cont9 (d + 1) f pc ls st r1 m1 r m') (hg : okG9 g n) (hg0 : g.2.2.2.2 = []) {idx : Nat} (hlink : Cond.methodLink f.2.1.cls idx g.2.1 ∈ TS) {C : String} {T : u_T} {N : Nat} (c : Nat) (hc : vwCl[c]? = some (C, T, N)) (ht : t = 10 + (c : Int)) (hx : 0 < x) (hinst : Cond.instanceMethod g.2.1 ∈ TS) (hsel : Cond.selects C g.2.1 g.2.1 ∈ TS) (hlen : as.length = n) (hrest : st.length ≤ 4) (hd : decode f.1 pc = .ok (.invokevirtual idx, 3)) : Ex (d + 1) f pc ls (as.reverse ++ (t, x) :: st) m r m' := by
  refine ⟨⟨Int.le_trans hM.1.1 k.mle.1, Int.le_trans hM.1.2 k.mle.2⟩, fun S0 D ty xa xl xv hB p l e R s mid args below meth c9 hF hG hfr hlo H locs cells slots ρ L ls' st' Q hS hR hL hn hst hcl hsl hE => ?_⟩
  have k1 := hM.1.1
  have k2 := hM.1.2
  have k3 := k.mle.1
  have k4 := k.mle.2
  have hts := hF.2.2.2.2.2.2.1
  obtain ⟨x9, y9, rfl, ha9, hb9⟩ := SRel.app hst
  have hav := SRel.rev ha9
  rw [List.reverse_reverse] at hav
  have hcode : Cond.code g.2.1 g.1 g.2.2.1 g.2.2.2.1 ∈ TS := by
    rcases hg.1 with ⟨-, h⟩ | ⟨h, -⟩
    · exact h
    · exact absurd hg0 h
  obtain ⟨v0, vs0, rfl, h0, hs0⟩ := hb9.cons
  rcases (VR_ref (show (10 : Int) ≤ t by omega)).mp h0 with hz | ⟨-, hm1, rfl⟩
  · exact absurd hz.1 (by omega)
  have hm2 := hm1
  rw [ht] at hm2
  refine x_after hB hF hG hfr hlo hS hL hn hs0 hM.1 hcl hsl hE k (a9 := (Value.ref (ρ x) :: x9.reverse).toArray) ?_
  have hlen9 : x9.reverse.length = n := by rw [← hav.len]; exact hlen
  have hMet := hM.2.2 S0 D ty xa xl xv hB l hF.2.2.2.2.2.2.2.2.1 ρ L (Value.ref (ρ x) :: x9.reverse) ⟨h0, hav⟩
  refine vx_runV (bytes := g.1) (maxL := g.2.2.1) (ret := g.2.2.2.1) (C := C) (Ts := TS) (own := f.2.1.cls) ⟨hF.1, hF.2.1, hF.2.2.1, hF.2.2.2.2.2.1, hts⟩ hMet ?_ ?_ rfl hlen9 (by rw [← hn]; exact hL.choose_spec.1.1) (by rw [List.reverse_reverse]) (room9 (by rw [← hs0.len]; exact hrest)) hd ⟨by show cells + (m1 (-2) 0 - m (-2) 0).toNat ≤ R.cells; omega, by show slots + (m1 (-2) 1 - m (-2) 1).toNat ≤ R.slots; omega⟩
  · exact ⟨⟨rfl, rfl, room46 hfr, room45 hlo hg.2.2.2.2, pay_in hts (WS_good hg), by unfold WS9 headW; rw [if_pos hg0]; exact List.mem_cons_self, hts _ hcode, hts _ hg.2.1, hg.2.2.1, fun sig h9 => by have h2 := hg.2.2.2.1; rw [h9] at h2; exact (Option.some.inj h2).symm, hts _ hlink⟩, hts _ hinst, hts _ hsel⟩
  · exact ⟨Pc9.blind, recv9 hR (K9 hB hG) hx hm2 hc, fun U hU hW => Pc9.at hG hS hR U hU hW⟩
theorem x_callS {d : Nat} {f : FM} {pc : Nat} {ls st as : List SV} {m m1 : Mem} {r1 r : SV ⊕ String} {m' : Mem} {g : FM} {n : Nat} (hM : ExM d g as m r1 m1) (k : Cont9 (d + 1) f pc ls st r1 m1 r m') (hg : okG9 g n) (hg0 : g.2.2.2.2 = []) {idx : Nat} (hlink : Cond.methodLink f.2.1.cls idx g.2.1 ∈ TS) (hstat : Cond.static g.2.1 ∈ TS) (hlen : as.length = n) (hrest : st.length ≤ 4) (hd : decode f.1 pc = .ok (.invokestatic idx, 3)) : Ex (d + 1) f pc ls (as.reverse ++ st) m r m' := by
  refine ⟨⟨Int.le_trans hM.1.1 k.mle.1, Int.le_trans hM.1.2 k.mle.2⟩, fun S0 D ty xa xl xv hB p l e R s mid args below meth c9 hF hG hfr hlo H locs cells slots ρ L ls' st' Q hS hR hL hn hst hcl hsl hE => ?_⟩
  have k1 := hM.1.1
  have k2 := hM.1.2
  have k3 := k.mle.1
  have k4 := k.mle.2
  have hts := hF.2.2.2.2.2.2.1
  obtain ⟨x9, y9, rfl, ha9, hb9⟩ := SRel.app hst
  have hav := SRel.rev ha9
  rw [List.reverse_reverse] at hav
  have hcode : Cond.code g.2.1 g.1 g.2.2.1 g.2.2.2.1 ∈ TS := by
    rcases hg.1 with ⟨-, h⟩ | ⟨h, -⟩
    · exact h
    · exact absurd hg0 h
  refine x_after hB hF hG hfr hlo hS hL hn hb9 hM.1 hcl hsl hE k (a9 := (x9.reverse).toArray) ?_
  have hlen9 : x9.reverse.length = n := by rw [← hav.len]; exact hlen
  have hMet := hM.2.2 S0 D ty xa xl xv hB l hF.2.2.2.2.2.2.2.2.1 ρ L x9.reverse hav
  refine vx_runS (bytes := g.1) (maxL := g.2.2.1) (ret := g.2.2.2.1) (Ts := TS) (own := f.2.1.cls) ⟨hF.1, hF.2.1, hF.2.2.1, hF.2.2.2.2.2.1, hts⟩ hMet ?_ ?_ rfl hlen9 (by rw [← hn]; exact hL.choose_spec.1.1) (by rw [List.reverse_reverse]) (room9 (by rw [← hb9.len]; exact hrest)) hd ⟨by show cells + (m1 (-2) 0 - m (-2) 0).toNat ≤ R.cells; omega, by show slots + (m1 (-2) 1 - m (-2) 1).toNat ≤ R.slots; omega⟩
  · exact ⟨⟨rfl, rfl, room46 hfr, room45 hlo hg.2.2.2.2, pay_in hts (WS_good hg), by unfold WS9 headW; rw [if_pos hg0]; exact List.mem_cons_self, hts _ hcode, hts _ hg.2.1, hg.2.2.1, fun sig h9 => by have h2 := hg.2.2.2.1; rw [h9] at h2; exact (Option.some.inj h2).symm, hts _ hlink⟩, hts _ hstat⟩
  · exact ⟨Pc9.blind, fun U hU hW => Pc9.at hG hS hR U hU hW⟩
theorem x_callI {d : Nat} {f : FM} {pc : Nat} {ls st as : List SV} {m m1 : Mem} {r1 r : SV ⊕ String} {m' : Mem} {t x : Int} {g : FM} {n : Nat} (hM : ExM d g ((t, x) :: as) m r1 m1) (k : Cont9 (d + 1) f pc ls st r1 m1 r m') (hg : okG9 g n) (hg0 : g.2.2.2.2 = []) {idx : Nat} (hlink : Cond.methodLink f.2.1.cls idx g.2.1 ∈ TS) (hret : g.2.2.2.1 = none) (hinit : g.2.1.name = "<init>") (ht : 10 ≤ t) (hx : 0 < x) (hinst : Cond.instanceMethod g.2.1 ∈ TS) (hlen : as.length = n) (hrest : st.length ≤ 4) (hd : decode f.1 pc = .ok (.invokespecial idx, 3)) : Ex (d + 1) f pc ls (as.reverse ++ (t, x) :: st) m r m' := by
  refine ⟨⟨Int.le_trans hM.1.1 k.mle.1, Int.le_trans hM.1.2 k.mle.2⟩, fun S0 D ty xa xl xv hB p l e R s mid args below meth c9 hF hG hfr hlo H locs cells slots ρ L ls' st' Q hS hR hL hn hst hcl hsl hE => ?_⟩
  have k1 := hM.1.1
  have k2 := hM.1.2
  have k3 := k.mle.1
  have k4 := k.mle.2
  have hts := hF.2.2.2.2.2.2.1
  obtain ⟨x9, y9, rfl, ha9, hb9⟩ := SRel.app hst
  have hav := SRel.rev ha9
  rw [List.reverse_reverse] at hav
  have hcode : Cond.code g.2.1 g.1 g.2.2.1 g.2.2.2.1 ∈ TS := by
    rcases hg.1 with ⟨-, h⟩ | ⟨h, -⟩
    · exact h
    · exact absurd hg0 h
  rw [hret] at hcode
  obtain ⟨v0, vs0, rfl, h0, hs0⟩ := hb9.cons
  rcases (VR_ref ht).mp h0 with hz | ⟨-, hm1, rfl⟩
  · exact absurd hz.1 (by omega)
  refine x_after hB hF hG hfr hlo hS hL hn hs0 hM.1 hcl hsl hE k (a9 := (Value.ref (ρ x) :: x9.reverse).toArray) ?_
  have hlen9 : x9.reverse.length = n := by rw [← hav.len]; exact hlen
  have hMet := hM.2.2 S0 D ty xa xl xv hB l hF.2.2.2.2.2.2.2.2.1 ρ L (Value.ref (ρ x) :: x9.reverse) ⟨h0, hav⟩
  refine vx_runI (bytes := g.1) (maxL := g.2.2.1) (Ts := TS) (own := f.2.1.cls) ⟨hF.1, hF.2.1, hF.2.2.1, hF.2.2.2.2.2.1, hts⟩ hMet ?_ ?_ rfl hlen9 (by rw [← hn]; exact hL.choose_spec.1.1) (by rw [List.reverse_reverse]) (room9 (by rw [← hs0.len]; exact hrest)) hd ⟨by show cells + (m1 (-2) 0 - m (-2) 0).toNat ≤ R.cells; omega, by show slots + (m1 (-2) 1 - m (-2) 1).toNat ≤ R.slots; omega⟩
  · exact ⟨⟨rfl, rfl, room46 hfr, room45 hlo hg.2.2.2.2, pay_in hts (WS_good hg), by unfold WS9 headW; rw [if_pos hg0, hret]; exact List.mem_cons_self, hts _ hcode, hts _ hg.2.1, hg.2.2.1, fun sig h9 => by have h2 := hg.2.2.2.1; rw [h9] at h2; exact (Option.some.inj h2).symm, hts _ hlink⟩, hinit, hts _ hinst⟩
  · exact ⟨Pc9.blind, fun U hU hW => Pc9.at hG hS hR U hU hW⟩
theorem x_callIN {d : Nat} {f : FM} {pc : Nat} {ls st as : List SV} {m m1 : Mem} {r1 r : SV ⊕ String} {m' : Mem} {t x : Int} {g : FM} {n : Nat} (hM : ExM d g ((t, x) :: as) m r1 m1) (k : Cont9 (d + 1) f pc ls st r1 m1 r m') (hg : okG9 g n) (hg0 : g.2.2.2.2 = []) {idx : Nat} {host : String} (hlink : Cond.methodLinkNest f.2.1.cls idx g.2.1 host ∈ NW9) (hret : g.2.2.2.1 = none) (hinit : g.2.1.name = "<init>") (ht : 10 ≤ t) (hx : 0 < x) (hinst : Cond.instanceMethod g.2.1 ∈ TS) (hlen : as.length = n) (hrest : st.length ≤ 4) (hd : decode f.1 pc = .ok (.invokespecial idx, 3)) : Ex (d + 1) f pc ls (as.reverse ++ (t, x) :: st) m r m' := by
  refine ⟨⟨Int.le_trans hM.1.1 k.mle.1, Int.le_trans hM.1.2 k.mle.2⟩, fun S0 D ty xa xl xv hB p l e R s mid args below meth c9 hF hG hfr hlo H locs cells slots ρ L ls' st' Q hS hR hL hn hst hcl hsl hE => ?_⟩
  have k1 := hM.1.1
  have k2 := hM.1.2
  have k3 := k.mle.1
  have k4 := k.mle.2
  have hts := hF.2.2.2.2.2.2.1
  obtain ⟨x9, y9, rfl, ha9, hb9⟩ := SRel.app hst
  have hav := SRel.rev ha9
  rw [List.reverse_reverse] at hav
  have hcode : Cond.code g.2.1 g.1 g.2.2.1 g.2.2.2.1 ∈ TS := by
    rcases hg.1 with ⟨-, h⟩ | ⟨h, -⟩
    · exact h
    · exact absurd hg0 h
  rw [hret] at hcode
  obtain ⟨v0, vs0, rfl, h0, hs0⟩ := hb9.cons
  rcases (VR_ref ht).mp h0 with hz | ⟨-, hm1, rfl⟩
  · exact absurd hz.1 (by omega)
  refine x_after hB hF hG hfr hlo hS hL hn hs0 hM.1 hcl hsl hE k (a9 := (Value.ref (ρ x) :: x9.reverse).toArray) ?_
  have hlen9 : x9.reverse.length = n := by rw [← hav.len]; exact hlen
  have hMet := hM.2.2 S0 D ty xa xl xv hB l hF.2.2.2.2.2.2.2.2.1 ρ L (Value.ref (ρ x) :: x9.reverse) ⟨h0, hav⟩
  refine vx_runIN (bytes := g.1) (maxL := g.2.2.1) (host := host) (Ts := TS) (own := f.2.1.cls) ⟨hF.1, hF.2.1, hF.2.2.1, hF.2.2.2.2.2.1, hts⟩ hMet ?_ ?_ rfl hlen9 (by rw [← hn]; exact hL.choose_spec.1.1) (by rw [List.reverse_reverse]) (room9 (by rw [← hs0.len]; exact hrest)) hd ⟨by show cells + (m1 (-2) 0 - m (-2) 0).toNat ≤ R.cells; omega, by show slots + (m1 (-2) 1 - m (-2) 1).toNat ≤ R.slots; omega⟩
  · exact ⟨⟨⟨rfl, rfl, room46 hfr, room45 hlo hg.2.2.2.2, pay_in hts (WS_good hg), by unfold WS9 headW; rw [if_pos hg0, hret]; exact List.mem_cons_self⟩, hts _ hcode, hts _ hg.2.1, hg.2.2.1, fun sig h9 => by have h2 := hg.2.2.2.1; rw [h9] at h2; exact (Option.some.inj h2).symm, (va_Nw.warmM hG.1 (hB.2.2.2.2.1 _ hlink)).use rfl⟩, hinit, hts _ hinst⟩
  · exact ⟨Pc9.blind, fun U hU hW => Pc9.at hG hS hR U hU hW⟩
