/-! A SMALL MACHINE over mathematical integers: memory 'id, place ↦ Int', typed values (tag, Int), and what it means that the real machine comes from one of its points to its method's end. -/
/-- 0 int, 2 long, 3 anything of one slot, 7 a fixed array of ints that is only read, 10 + c a reference to an object of class c or null (0), 100000 + n an int[n], 200000 + n a boolean[n], 300000 + n a long[n], 400000 + 1000 c + n an array of n references to class c -/
abbrev SV : Type := Int × Int
abbrev Mem : Type := Int → Int → Int
def inR (x : Int) : Prop := -2147483648 ≤ x ∧ x < 2147483648
def upd9 (m : Mem) (i j v : Int) : Mem := fun a b => if a = i ∧ b = j then v else m a b
/-- a new thing with the type t and n places; places (-2, 0), (-2, 1) count things and places -/
def alo9 (m : Mem) (i t n : Int) : Mem := fun a b => if a = i then 0 else if a = -1 ∧ b = i then t else if a = -2 ∧ b = 0 then m (-2) 0 + 1 else if a = -2 ∧ b = 1 then m (-2) 1 + n else m a b
/-- behind a throw -/
def thr9 (m : Mem) : Mem := fun a b => if a = -2 ∧ b = 0 then m (-2) 0 + 1 else if a = -2 ∧ b = 1 then m (-2) 1 + 6 else m a b
/-- the types of the fields: 5 is a boolean -/
def ftl : List (List Int) := [
  [17, 0, 0, 0, 0, 0, 0, 0, 0, 0],
  [100080, 100080, 100080, 0, 0, 0, 0, 5, 5, 13, 0, 0],
  [405004, 0, 15],
  [100080, 100080, 100080, 0],
  [11, 200080, 0, 408003, 100080, 100080, 0, 15, 0, 0, 0, 0, 0, 0, 5, 5, 0, 0, 0, 0],
  [100012, 100012, 100012, 0],
  [100003, 0, 0],
  [13, 400080, 100080, 0, 0, 0, 0, 0, 0, 0, 5],
  [0, 0, 0, 0, 0, 0, 5, 5],
  [5, 10],
  [0, 0, 0, 100002, 407009, 0, 17, 0, 0, 0, 0],
  [402003, 410010, 406002, 409004, 14, 0, 0, 0],
  [0, 0, 100180, 100180, 100180, 100015, 100003, 100010, 100010, 100010, 100010, 100010, 100010, 100020, 100010, 100010, 0, 100090, 100090, 107200, 107200, 107200, 100010, 100800, 100800, 100800, 100800, 100800, 100800, 0, 100010, 100800, 100010, 100800, 100800, 100002, 100002, 100006, 200004, 100004, 0, 0, 0, 0, 0, 0, 5, 5, 0, 0, 0, 0, 0, 0, 0, 0, 100003, 100003, 100003, 100003, 200003, 200003, 100003, 200003, 0, 100080, 100080, 200080, 0, 105200, 105200, 0, 105200, 105200, 105200, 105200, 0, 0, 0, 0, 5, 100016, 0, 0]]
def nf9 (c : Nat) : Nat := (ftl.getD c []).length
def fty (c j : Nat) : Int := (ftl.getD c []).getD j 0
def ety (t j : Int) : Int := if t < 100 then fty (t - 10).toNat j.toNat else if t < 200000 then 0 else if t < 300000 then 5 else if t < 400000 then 2 else 10 + (t - 400000) / 1000
def vof (ρ : Int → Nat) (τ x : Int) : Value := if τ < 10 then .int (Int32.ofInt x) else if x = 0 then .null else .ref (ρ x)
def rof (ρ : Int → Nat) (x : Int) : Option Nat := if x = 0 then none else some (ρ x)
def ent (ty : Nat → ClassId) (ρ : Int → Nat) (m : Mem) (i : Int) : va_E :=
  if m (-1) i < 100 then .inr ((m (-1) i - 10).toNat, (List.range (nf9 (m (-1) i - 10).toNat)).map (fun j : Nat => vof ρ (fty (m (-1) i - 10).toNat j) (m i j)))
  else if m (-1) i < 200000 then .inl (ty 0, (m (-1) i - 100000).toNat, .inl (fun j : Nat => Int32.ofInt (m i j)))
  else if m (-1) i < 300000 then .inl (ty 1, (m (-1) i - 200000).toNat, .inl (fun j : Nat => Int32.ofInt (m i j)))
  else if m (-1) i < 400000 then .inl (ty 2, (m (-1) i - 300000).toNat, .inr (.inl (fun j : Nat => Int64.ofInt (m i j))))
  else .inl (ty (3 + ((m (-1) i - 400000) / 1000).toNat), ((m (-1) i - 400000) % 1000).toNat, .inr (.inr (.inr (.inr (fun j : Nat => rof ρ (m i j))))))
def wld (ty : Nat → ClassId) (ρ : Int → Nat) (m : Mem) (L : List Int) : va_W := L.map (fun i => (ρ i, ent ty ρ m i))
def okS (m : Mem) (τ x : Int) : Prop := (τ < 10 → inR x) ∧ (τ = 5 → x = 0 ∨ x = 1) ∧ (10 ≤ τ → x = 0 ∨ (0 < x ∧ m (-1) x = τ))
def WF9 (m : Mem) : Prop := ∀ i, 0 < i → m (-1) i ≠ 0 → ∀ j, okS m (ety (m (-1) i) j) (m i j)
def tys9 (ty : Nat → ClassId) : List (ClassId × FieldType) := [(ty 0, .int), (ty 1, .boolean), (ty 2, .byte), (ty 3, .object RX0), (ty 5, .object RX2), (ty 8, .object RX5), (ty 9, .object RX6), (ty 10, .object RX7), (ty 11, .object RX8), (ty 12, .object RX9), (ty 13, .object RX10)]
def Ext9 (ρ : Int → Nat) (m : Mem) (ρ' : Int → Nat) (m' : Mem) : Prop := ∀ i, 0 < i → m (-1) i ≠ 0 → m' (-1) i = m (-1) i ∧ ρ' i = ρ i
theorem Ext9.rf {ρ : Int → Nat} {m : Mem} : Ext9 ρ m ρ m := fun _ _ _ => ⟨rfl, rfl⟩
theorem Ext9.tr {ρ1 ρ2 ρ3 : Int → Nat} {m1 m2 m3 : Mem} (h : Ext9 ρ1 m1 ρ2 m2) (k : Ext9 ρ2 m2 ρ3 m3) : Ext9 ρ1 m1 ρ3 m3 := fun i h0 h1 => by
  have a := h i h0 h1
  have b := k i h0 (by rw [a.1]; exact h1)
  exact ⟨b.1.trans a.1, b.2.trans a.2⟩
def isNW9 : Cond → Bool
  | .methodLinkNest .. => true
  | .castable .. => true
  | .declares .. => true
  | _ => false
def strOf9 : Cond → Option (String × Nat × String)
  | .stringRef own k tx => some (own, k, tx)
  | _ => none
def NW9 : List Cond := lw_tbl.filter isNW9
def ST9 : List (String × Nat × String) := lw_tbl.filterMap strOf9
def AO9 : List String := ["Flowkeeper$Activity", "Flowkeeper$Family", "Flowkeeper$Program", "Flowkeeper$Queue", "Flowkeeper$Run", "Flowkeeper$Slot", "Flowkeeper$Worker", "Flowkeeper$Workflow"]
def xIA : String := "java/lang/IllegalArgumentException"
def xIS : String := "java/lang/IllegalStateException"
def xIO : String := "java/lang/IndexOutOfBoundsException"
def NC9 : List (String × String) := [(xIA, xIS), (xIA, xIO), (xIS, xIA), (xIS, xIO), (xIO, xIA), (xIO, xIS)]
def SA9 : List (String × Int) := [("LEAST_A", 1), ("MOST_A", 2), ("LEAST_B", 3), ("MOST_B", 4)]
/-- what the class's static tables hold -/
def sar9 (k : Int) (j : Nat) : Int :=
  if k = 1 then [0, 1, 0, 0, 1, -99, -99, -99, -99, 0, 0, 1, 0, 1, 0, 0].getD j 0
  else if k = 2 then [5, 50, 2, 2, 3, 99, 99, 99, 99, 5, 3, 11, 1, 9, 0, 0].getD j 0
  else if k = 3 then [0, 0, 0, 0, 0, 1, 1, 0, 0, 0, 1, 0, -99, 0, 0, 0].getD j 0
  else [1, 0, 50, 2, 0, 11, 11, 0, 0, 1, 11, 0, 100, 0, 0, 0].getD j 0
section SM1
variable (S0 : State) (D : va_G) (ty : Nat → ClassId) (xa : Int → Nat) (xl : Int → Nat) (xv : Int → Nat → Int32)
def SC9 (m : Mem) : Prop := (xl 0 : Int) = m (-4) 0 ∧ ∀ j : Nat, j < xl 0 → xv 0 j = Int32.ofInt (m (-3) j) ∧ inR (m (-3) j)
def RelH (ρ : Int → Nat) (m : Mem) (L : List Int) (H : Heap) : Prop :=
  va_P D vwCl (wld ty ρ m L) H ∧ va_D (fun q => S0.heap.size ≤ q) (wld ty ρ m L) ∧ L.Nodup ∧ (∀ i, i ∈ L ↔ (0 < i ∧ m (-1) i ≠ 0)) ∧ WF9 m ∧ SC9 xl xv m
def VR (ρ : Int → Nat) (m : Mem) (q : SV) (v : Value) : Prop :=
  if q.1 = 0 then v = .int (Int32.ofInt q.2) ∧ inR q.2
  else if q.1 = 2 then v = .long (Int64.ofInt q.2) ∧ inR q.2
  else if q.1 = 3 then v.category = 1
  else if q.1 = 7 then v = .ref (xa q.2)
  else 10 ≤ q.1 ∧ (q.2 = 0 ∧ v = .null ∨ 0 < q.2 ∧ m (-1) q.2 = q.1 ∧ v = .ref (ρ q.2))
def SRel (ρ : Int → Nat) (m : Mem) : List SV → List Value → Prop
  | [], [] => True
  | q :: qs, v :: vs => VR xa ρ m q v ∧ SRel ρ m qs vs
  | _, _ => False
def LRel (ρ : Int → Nat) (m : Mem) (ls : List SV) (ls' : Array Slot) : Prop :=
  ∃ lv : List (Nat × Value), lv_has ls' ls.length lv ∧ ∀ (i : Nat) (q : SV), ls[i]? = some q → q.1 = 3 ∨ q.1 ≠ 2 ∧ ∃ v : Value, (i, v) ∈ lv ∧ VR xa ρ m q v
/-- a method: its code, its name, its locals, what it returns, its table -/
abbrev FM : Type := ByteArray × MethodName × Nat × Option FieldType × List (Nat × Nat × Nat × Nat)
/-- what the start gives once for all -/
def BF : Prop := va_K D vwCl (tys9 ty) S0 ∧ (∀ k : Int, 0 ≤ k → k < 5 → va_X (xa k) (xl k) (xv k) S0 S0.heap ∧ xa k < S0.heap.size) ∧ (∀ k : Int, 1 ≤ k → k < 5 → xl k = 16 ∧ ∀ j : Nat, j < 16 → xv k j = Int32.ofInt (sar9 k j)) ∧
  (∀ C ∈ AO9, va_AO C S0) ∧ (∀ w ∈ NW9, va_Nw w S0) ∧ (∀ q ∈ NC9, va_Nc q.1 q.2 S0) ∧ vx_Zq Bundle.tN "UNASSIGNED_STACK" Bundle.steD (fun q => S0.heap.size ≤ q) S0 S0.heap ∧ vx_Zq Bundle.tN "SUPPRESSED_SENTINEL" Bundle.listD (fun q => S0.heap.size ≤ q) S0 S0.heap ∧
  (∀ q ∈ ST9, ∃ a, vk_R q.1 q.2.1 q.2.2 a S0) ∧ (∀ q ∈ SA9, va_Z "Flowkeeper" q.1 "[I" (.ref (xa q.2)) (fun q => S0.heap.size ≤ q) S0 S0.heap)
def GS (s : State) : Prop := S0.WarmedH s.vm ∧ S0.heap.size ≤ s.heap.size ∧ ∀ q : Nat, q < S0.heap.size → s.heap[q]? = S0.heap[q]?
end SM1
def FC (f : FM) (p : Program) (l : Launch) (s : State) (m : MethodId) (args : Array Value) (meth : Method) (c : Code) : Prop :=
  p.tables.exec = Jvm.exec ∧ c.code = f.1 ∧ c.maxLocals = f.2.2.1 ∧ meth.sig.returnType = f.2.2.2.1 ∧ meth.locks = false ∧ s.vm.findClass f.2.1.cls = some m.cls ∧ (∀ w ∈ TS, w.before args s = true) ∧ meth.name = f.2.1.name ∧ l.flags = flags0 ∧ c.exceptionTable.toList = tableOf f.2.2.2.2
def mle9 (m m' : Mem) : Prop := m (-2) 0 ≤ m' (-2) 0 ∧ m (-2) 1 ≤ m' (-2) 1
def RetV (ret : Option FieldType) (v : SV) : Prop := match ret with
  | none => v.1 = 3
  | some .int => v.1 = 0
  | some .boolean => v.1 = 0 ∧ (v.2 = 0 ∨ v.2 = 1)
  | some (.object _) => 10 ≤ v.1
  | _ => False
def RetI (cc : ByteArray) (ret : Option FieldType) (pc : Nat) : Prop := match ret with
  | none => decode cc pc = .ok (.return_, 1)
  | some .int => decode cc pc = .ok (.ireturn, 1)
  | some .boolean => decode cc pc = .ok (.ireturn, 1)
  | _ => decode cc pc = .ok (.areturn, 1)
/-- the frame's end as its owner wants it -/
def End9 (S0 : State) (D : va_G) (ty : Nat → ClassId) (xa : Int → Nat) (xl : Int → Nat) (xv : Int → Nat → Int32) (f : FM) (p : Program) (l : Launch) (e : Env) (R : Room) (s : State) (mid : MethodId) (args : Array Value) (below : List Frame) (meth : Method) (c : Code) (ρ : Int → Nat) (m : Mem) (r : SV ⊕ String) (m' : Mem) (Q : State → Prop) : Prop := match r with
  | .inl v => RetV f.2.2.2.1 v ∧ ∀ (pc2 : Nat) (ls2 : Array Slot) (st2 : List Value) (H2 : Heap) (locs2 : List Loc) (cells2 slots2 : Nat) (ρ2 : Int → Nat) (L2 : List Int), RetI f.1 f.2.2.2.1 pc2 → va_S (fun q => S0.heap.size ≤ q) s.heap H2 locs2 → Ext9 ρ m ρ2 m' → RelH S0 D ty xl xv ρ2 m' L2 H2 →
      (v.1 = 3 ∧ st2 = [] ∨ v.1 ≠ 3 ∧ ∃ w, VR xa ρ2 m' v w ∧ st2 = [w]) → cells2 ≤ R.cells → slots2 ≤ R.slots → W p l e R s mid args below meth c H2 locs2 cells2 slots2 Q (F0 mid pc2 ls2 st2)
  | .inr E => ∃ (Qc : Array Value → State → Outcome → State → Prop) (XC : String → State → State → Prop) (free : Addr → Prop), Q = vx_MQ below Qc XC args s R.cells R.slots free ∧ (∀ z, S0.heap.size ≤ z → free z) ∧
      ∀ (t : State) (ρ2 : Int → Nat) (L2 : List Int), s.vm.Alike t.vm → va_F (fun q => S0.heap.size ≤ q) s t → Ext9 ρ m ρ2 m' → RelH S0 D ty xl xv ρ2 m' L2 t.heap → XC E s t
def frm9 (d : Nat) : Nat := d + 8
def loc9 (d : Nat) : Nat := 64 * d + 256
/-- from this point the real machine comes to the method's end with r and the memory m' -/
def Ex (d : Nat) (f : FM) (pc : Nat) (ls st : List SV) (m : Mem) (r : SV ⊕ String) (m' : Mem) : Prop :=
  mle9 m m' ∧ ∀ (S0 : State) (D : va_G) (ty : Nat → ClassId) (xa : Int → Nat) (xl : Int → Nat) (xv : Int → Nat → Int32), BF S0 D ty xa xl xv →
    ∀ (p : Program) (l : Launch) (e : Env) (R : Room) (s : State) (mid : MethodId) (args : Array Value) (below : List Frame) (meth : Method) (c : Code), FC f p l s mid args meth c → GS S0 s → frm9 d ≤ R.frames → loc9 d ≤ R.locals →
    ∀ (H : Heap) (locs : List Loc) (cells slots : Nat) (ρ : Int → Nat) (L : List Int) (ls' : Array Slot) (st' : List Value) (Q : State → Prop), va_S (fun q => S0.heap.size ≤ q) s.heap H locs → RelH S0 D ty xl xv ρ m L H → LRel xa ρ m ls ls' → ls.length = f.2.2.1 → SRel xa ρ m st st' →
    (cells : Int) + (m' (-2) 0 - m (-2) 0) ≤ R.cells → (slots : Int) + (m' (-2) 1 - m (-2) 1) ≤ R.slots → End9 S0 D ty xa xl xv f p l e R s mid args below meth c ρ m r m' Q → W p l e R s mid args below meth c H locs cells slots Q (F0 mid pc ls' st')
theorem End9.ext {S0 : State} {D : va_G} {ty : Nat → ClassId} {xa : Int → Nat} {xl : Int → Nat} {xv : Int → Nat → Int32} {f : FM} {p : Program} {l : Launch} {e : Env} {R : Room} {s : State} {mid : MethodId} {args : Array Value} {below : List Frame} {meth : Method} {c : Code} {ρ ρ1 : Int → Nat} {m m1 : Mem} {r : SV ⊕ String} {m' : Mem} {Q : State → Prop} (h : End9 S0 D ty xa xl xv f p l e R s mid args below meth c ρ m r m' Q) (hx : Ext9 ρ m ρ1 m1) : End9 S0 D ty xa xl xv f p l e R s mid args below meth c ρ1 m1 r m' Q := by
  cases r with
  | inl v => exact ⟨h.1, fun pc2 ls2 st2 H2 locs2 cells2 slots2 ρ2 L2 a b k => h.2 pc2 ls2 st2 H2 locs2 cells2 slots2 ρ2 L2 a b (hx.tr k)⟩
  | inr E =>
    obtain ⟨Qc, XC, free, h1, h2, h3⟩ := h
    exact ⟨Qc, XC, free, h1, h2, fun t ρ2 L2 a b k => h3 t ρ2 L2 a b (hx.tr k)⟩
theorem VR.ext {xa : Int → Nat} {ρ ρ1 : Int → Nat} {m m1 : Mem} {q : SV} {v : Value} (h : VR xa ρ m q v) (hx : Ext9 ρ m ρ1 m1) : VR xa ρ1 m1 q v := by
  unfold VR at *
  split
  · rename_i h0; rw [if_pos h0] at h; exact h
  · rename_i h0; rw [if_neg h0] at h
    split
    · rename_i h2; rw [if_pos h2] at h; exact h
    · rename_i h2; rw [if_neg h2] at h
      split
      · rename_i h3; rw [if_pos h3] at h; exact h
      · rename_i h3; rw [if_neg h3] at h
        split
        · rename_i h7; rw [if_pos h7] at h; exact h
        · rename_i h7; rw [if_neg h7] at h
          obtain ⟨ha, hb⟩ := h
          refine ⟨ha, ?_⟩
          rcases hb with hb | ⟨hb1, hb2, hb3⟩
          · exact Or.inl hb
          · have hne : m (-1) q.2 ≠ 0 := by omega
            have hh := hx q.2 hb1 hne
            exact Or.inr ⟨hb1, by rw [hh.1]; exact hb2, by rw [hh.2]; exact hb3⟩
theorem SRel.ext {xa : Int → Nat} {ρ ρ1 : Int → Nat} {m m1 : Mem} (hx : Ext9 ρ m ρ1 m1) : ∀ {qs : List SV} {vs : List Value}, SRel xa ρ m qs vs → SRel xa ρ1 m1 qs vs
  | [], [], _ => trivial
  | _ :: _, _ :: _, h => ⟨h.1.ext hx, SRel.ext hx h.2⟩
  | [], _ :: _, h => h.elim
  | _ :: _, [], h => h.elim
theorem LRel.ext {xa : Int → Nat} {ρ ρ1 : Int → Nat} {m m1 : Mem} {ls : List SV} {ls' : Array Slot} (hx : Ext9 ρ m ρ1 m1) (h : LRel xa ρ m ls ls') : LRel xa ρ1 m1 ls ls' := by
  obtain ⟨lv, h1, h2⟩ := h
  refine ⟨lv, h1, fun i q hq => ?_⟩
  rcases h2 i q hq with h3 | ⟨h4, v, h5, h6⟩
  · exact Or.inl h3
  · exact Or.inr ⟨h4, v, h5, h6.ext hx⟩
/-- one step that leaves the memory as it is -/
theorem Ex.step {d : Nat} {f : FM} {pc pc2 : Nat} {ls ls2 st st2 : List SV} {m : Mem} {r : SV ⊕ String} {m' : Mem} (k : Ex d f pc2 ls2 st2 m r m') (hlen : ls.length = ls2.length)
    (h : ∀ (S0 : State) (D : va_G) (ty : Nat → ClassId) (xa : Int → Nat) (xl : Int → Nat) (xv : Int → Nat → Int32), BF S0 D ty xa xl xv →
      ∀ (p : Program) (l : Launch) (e : Env) (R : Room) (s : State) (mid : MethodId) (args : Array Value) (below : List Frame) (meth : Method) (c : Code), FC f p l s mid args meth c → GS S0 s → frm9 d ≤ R.frames → loc9 d ≤ R.locals →
      ∀ (H : Heap) (locs : List Loc) (cells slots : Nat) (ρ : Int → Nat) (L : List Int) (ls' : Array Slot) (st' : List Value) (Q : State → Prop), va_S (fun q => S0.heap.size ≤ q) s.heap H locs → RelH S0 D ty xl xv ρ m L H → LRel xa ρ m ls ls' → ls.length = f.2.2.1 → SRel xa ρ m st st' →
      (∀ (ls'' : Array Slot) (st'' : List Value), LRel xa ρ m ls2 ls'' → SRel xa ρ m st2 st'' → W p l e R s mid args below meth c H locs cells slots Q (F0 mid pc2 ls'' st'')) → W p l e R s mid args below meth c H locs cells slots Q (F0 mid pc ls' st')) : Ex d f pc ls st m r m' := by
  refine ⟨k.1, fun S0 D ty xa xl xv hB p l e R s mid args below meth c hF hG hfr hlo H locs cells slots ρ L ls' st' Q hS hR hL hn hst hc hs hE => ?_⟩
  exact h S0 D ty xa xl xv hB p l e R s mid args below meth c hF hG hfr hlo H locs cells slots ρ L ls' st' Q hS hR hL hn hst fun ls'' st'' hL2 hst2 =>
    k.2 S0 D ty xa xl xv hB p l e R s mid args below meth c hF hG hfr hlo H locs cells slots ρ L ls'' st'' Q hS hR hL2 (hlen ▸ hn) hst2 hc hs hE
