/-! from the law's entry to the small machine: what the start gives, and the claim out of LawOK -/
def mem0 (L : Nat) (xs : Nat → Int32) : Mem := fun i j => if i = -3 then (xs j.toNat).toInt else if i = -4 ∧ j = 0 then (L : Int) else 0
/-- what is to be shown of the printed functions -/
def LawOK : Prop := ∀ (L : Nat) (xs : Nat → Int32), L ≤ 260 → ∃ m', L_law (mem0 L xs) = some (1, m') ∧ m' (-2) 0 ≤ 600104 ∧ m' (-2) 1 ≤ 7301314
theorem sarr9 {args : Array Value} {s : State} {nm : String} {vals : Nat → Int32} (h1 : (Cond.arrayOf (.static "Flowkeeper" nm "[I") .int).before args s = true) (h2 : (Cond.eq (.length (.static "Flowkeeper" nm "[I")) (.int 16)).before args s = true) (h3 : ∀ j : Nat, j < 16 → (Cond.eq (.elem (.static "Flowkeeper" nm "[I") (.int (Int32.ofNat j))) (.int (vals j))).before args s = true) : ∃ a : Nat, (Term.static "Flowkeeper" nm "[I").eval args s none [] s = some (.ref a) ∧ va_X a 16 vals s s.heap ∧ a < s.heap.size := by
  obtain ⟨y, hy, hy2⟩ := Cond.eq_one h2
  obtain ⟨a, cell, ha, hat, rfl, hsm⟩ := SB.Term.length_small hy
  have hy3 : (Value.int cell.slots.size.toInt32) = Value.int 16 := (Option.some.inj (show some (Value.int 16) = _ from hy2)).symm
  have hsz : cell.slots.size = 16 := by
    have h5 : cell.slots.size.toInt32 = 16 := Value.int.inj hy3
    have h6 : (Int32.ofNat cell.slots.size).toInt = (16 : Int32).toInt := by rw [← h5]
    rw [Int32.toInt_ofNat_of_lt hsm] at h6
    have h7 : (16 : Int32).toInt = 16 := rfl
    omega
  obtain ⟨hcb, hkn, -, -⟩ := State.arrayAt?_spec hat
  obtain ⟨hof, hkn2⟩ := Cond.arrayOf_spec h1 ha hcb
  refine ⟨a, ha, ⟨cell, hcb, hof, hkn, hsz, fun j hj => ?_⟩, (Array.getElem?_eq_some_iff.mp hcb).1⟩
  obtain ⟨z, hz, hz2⟩ := Cond.eq_one (h3 j hj)
  obtain ⟨a2, j2, cell2, ha2, hj2, hat2, -, hv⟩ := Term.elem_spec hz
  have e1 : a2 = a := by rw [ha] at ha2; exact (Value.ref.inj (Option.some.inj ha2)).symm
  subst e1
  have e2 : cell2 = cell := by rw [hat] at hat2; exact (Option.some.inj hat2).symm
  subst e2
  have e3 : j2 = Int32.ofNat j := (Value.int.inj (Option.some.inj (show some (Value.int (Int32.ofNat j)) = _ from hj2))).symm
  subst e3
  have e4 : z = .int (vals j) := (Option.some.inj (show some (Value.int (vals j)) = _ from hz2)).symm
  have e5 : (Int32.ofNat j).toNatClampNeg = j := by
    show (Int32.ofNat j).toInt.toNat = j
    rw [Int32.toInt_ofNat_of_lt (by omega)]
    omega
  rw [e5, e4] at hv
  exact hv
def tyl9 : List (Nat × FieldType) := [(0, .int), (1, .boolean), (2, .byte), (3, .object RX0), (5, .object RX2), (8, .object RX5), (9, .object RX6), (10, .object RX7), (11, .object RX8), (12, .object RX9), (13, .object RX10)]
theorem tys_map (f : Nat → ClassId) : tys9 f = tyl9.map (fun q => (f q.1, q.2)) := rfl
theorem pri9 {s : State} {args : Array Value} {t : FieldType} (h : (Cond.arrayClass t).before args s = true) (ht : ∀ nm, t ≠ .object nm) : ∃ c : ClassId, ArrOfT s c t ∧ va_RA s c t := by
  obtain ⟨c, k, comp, h1, h2, h3⟩ := Cond.arrayClass_spec h
  refine ⟨c, fun n z => ⟨fun k h => (by cases h), k, h2, comp, h3⟩, ?_⟩
  unfold va_RA
  cases t with
  | object nm => exact absurd rfl (ht nm)
  | _ => exact h1
theorem ref9 {s : State} {C : String} (h : va_AO C s) : ∃ c : ClassId, ArrOfT s c (.object C) ∧ va_RA s c (.object C) := by
  obtain ⟨comp, c, k, h1, h2, h3, h4, h5⟩ := Cond.arrayOver_spec (va_AO.use (A := #[]) h)
  exact ⟨c, fun n z => ⟨fun k h => (by cases h), k, h3, comp, h4⟩, k, comp, h3, h4, h1, h5⟩
/-- the class with its words -/
theorem kn9 {s : State} {args : Array Value} (hts : ∀ w ∈ lw_tbl, w.before args s = true) : ∀ c : Nat, ∃ p : ClassId × (Nat → Nat), ∀ q : vw_C, vwCl[c]? = some q → u_Kn s q.1 q.2.1 q.2.2 p.1 p.2 := by
  have key : ∀ {C : String} {T : u_T} {N : Nat}, (∀ w ∈ u_ws C T N, w ∈ TS) → (∃ n, Cond.instantiable C n ∈ lw_tbl) → ∃ p : ClassId × (Nat → Nat), u_Kn s C T N p.1 p.2 := by
    intro C T N hin hi
    obtain ⟨n, hn⟩ := hi
    obtain ⟨cC, iS, h⟩ := u_known (N := N) hts (fun w hw => (List.mem_filter.mp (hin w hw)).1) (hts _ hn)
    exact ⟨(cC, iS), h⟩
  have hm : ∀ {C : String} {n : Nat} (i : Nat), lw_tbl[i]? = some (Cond.instantiable C n) → ∃ n, Cond.instantiable C n ∈ lw_tbl := fun i h => ⟨_, List.mem_of_getElem? h⟩
  intro c
  match c with
  | 0 => obtain ⟨p, h⟩ := key inX0 (hm (n := 10) 963 (by decide +kernel)); exact ⟨p, fun q hq => by cases hq; exact h⟩
  | 1 => obtain ⟨p, h⟩ := key inX1 (hm (n := 12) 91 (by decide +kernel)); exact ⟨p, fun q hq => by cases hq; exact h⟩
  | 2 => obtain ⟨p, h⟩ := key inX2 (hm (n := 3) 306 (by decide +kernel)); exact ⟨p, fun q hq => by cases hq; exact h⟩
  | 3 => obtain ⟨p, h⟩ := key inX3 (hm (n := 4) 97 (by decide +kernel)); exact ⟨p, fun q hq => by cases hq; exact h⟩
  | 4 => obtain ⟨p, h⟩ := key inX4 (hm (n := 20) 85 (by decide +kernel)); exact ⟨p, fun q hq => by cases hq; exact h⟩
  | 5 => obtain ⟨p, h⟩ := key inX5 (hm (n := 4) 180 (by decide +kernel)); exact ⟨p, fun q hq => by cases hq; exact h⟩
  | 6 => obtain ⟨p, h⟩ := key inX6 (hm (n := 3) 327 (by decide +kernel)); exact ⟨p, fun q hq => by cases hq; exact h⟩
  | 7 => obtain ⟨p, h⟩ := key inX7 (hm (n := 11) 699 (by decide +kernel)); exact ⟨p, fun q hq => by cases hq; exact h⟩
  | 8 => obtain ⟨p, h⟩ := key inX8 (hm (n := 8) 204 (by decide +kernel)); exact ⟨p, fun q hq => by cases hq; exact h⟩
  | 9 => obtain ⟨p, h⟩ := key inX9 (hm (n := 2) 344 (by decide +kernel)); exact ⟨p, fun q hq => by cases hq; exact h⟩
  | 10 => obtain ⟨p, h⟩ := key inX10 (hm (n := 11) 692 (by decide +kernel)); exact ⟨p, fun q hq => by cases hq; exact h⟩
  | 11 => obtain ⟨p, h⟩ := key inX11 (hm (n := 8) 69 (by decide +kernel)); exact ⟨p, fun q hq => by cases hq; exact h⟩
  | c + 12 => exact ⟨(0, fun _ => 0), fun q hq => by simp [vwCl] at hq⟩
theorem ao9 {s : State} {args : Array Value} (hts : ∀ w ∈ lw_tbl, w.before args s = true) : ∀ C ∈ AO9, va_AO C s := by
  have key : ∀ C ∈ AO9, Cond.arrayOver (.object C) ∈ lw_tbl := by decide +kernel
  exact fun C hC => va_AO.of (hts _ (key C hC))
theorem ty9 {s : State} {args : Array Value} (hts : ∀ w ∈ lw_tbl, w.before args s = true) : ∀ k : Nat, ∃ c : ClassId, ∀ ft, (k, ft) ∈ tyl9 → ArrOfT s c ft ∧ va_RA s c ft := by
  have hp : ∀ {t : FieldType} (k : Nat), (∀ ft, (k, ft) ∈ tyl9 → ft = t) → (Cond.arrayClass t ∈ lw_tbl) → (∀ nm, t ≠ .object nm) → ∃ c : ClassId, ∀ ft, (k, ft) ∈ tyl9 → ArrOfT s c ft ∧ va_RA s c ft := by
    intro t k h1 h2 h3
    obtain ⟨c, hc⟩ := pri9 (hts _ h2) h3
    exact ⟨c, fun ft hf => by rw [h1 ft hf]; exact hc⟩
  have hr : ∀ {C : String} (k : Nat), (∀ ft, (k, ft) ∈ tyl9 → ft = .object C) → C ∈ AO9 → ∃ c : ClassId, ∀ ft, (k, ft) ∈ tyl9 → ArrOfT s c ft ∧ va_RA s c ft := by
    intro C k h1 h2
    obtain ⟨c, hc⟩ := ref9 (ao9 hts C h2)
    exact ⟨c, fun ft hf => by rw [h1 ft hf]; exact hc⟩
  intro k
  match k with
  | 0 => exact hp 0 (fun ft h => by simpa [tyl9] using h) (by decide +kernel) (fun nm h => by cases h)
  | 1 => exact hp 1 (fun ft h => by simpa [tyl9] using h) (by decide +kernel) (fun nm h => by cases h)
  | 2 => exact hp 2 (fun ft h => by simpa [tyl9] using h) (by decide +kernel) (fun nm h => by cases h)
  | 3 => exact hr (C := RX0) 3 (fun ft h => by simpa [tyl9] using h) (by decide +kernel)
  | 4 => exact ⟨0, fun ft h => by simp [tyl9] at h⟩
  | 5 => exact hr (C := RX2) 5 (fun ft h => by simpa [tyl9] using h) (by decide +kernel)
  | 6 => exact ⟨0, fun ft h => by simp [tyl9] at h⟩
  | 7 => exact ⟨0, fun ft h => by simp [tyl9] at h⟩
  | 8 => exact hr (C := RX5) 8 (fun ft h => by simpa [tyl9] using h) (by decide +kernel)
  | 9 => exact hr (C := RX6) 9 (fun ft h => by simpa [tyl9] using h) (by decide +kernel)
  | 10 => exact hr (C := RX7) 10 (fun ft h => by simpa [tyl9] using h) (by decide +kernel)
  | 11 => exact hr (C := RX8) 11 (fun ft h => by simpa [tyl9] using h) (by decide +kernel)
  | 12 => exact hr (C := RX9) 12 (fun ft h => by simpa [tyl9] using h) (by decide +kernel)
  | 13 => exact hr (C := RX10) 13 (fun ft h => by simpa [tyl9] using h) (by decide +kernel)
  | k + 14 => exact ⟨0, fun ft h => by simp [tyl9] at h⟩
def nar9 : List Cond := flatC (Jvm.Cond.and given_1 narrow_1)
theorem arw9 : ∀ q ∈ SA9, Cond.arrayOf (.static "Flowkeeper" q.1 "[I") .int ∈ nar9 ∧ Cond.eq (.length (.static "Flowkeeper" q.1 "[I")) (.int 16) ∈ nar9 ∧ ∀ j : Nat, j < 16 → Cond.eq (.elem (.static "Flowkeeper" q.1 "[I") (.int (Int32.ofNat j))) (.int (Int32.ofInt (sar9 q.2 j))) ∈ nar9 := by decide +kernel
theorem ncw9 : ∀ q ∈ NC9, Cond.not (.castable q.1 q.2) ∈ nar9 := by decide +kernel
theorem stw9 : ∀ q ∈ ST9, Cond.exactly (.string q.1 q.2.1) "java/lang/String" ∈ nar9 := by decide +kernel
theorem strp9 {s : State} {A : Array Value} (hts : ∀ w ∈ lw_tbl, w.before A s = true) : ∀ q ∈ ST9, ∃ a, vk_R q.1 q.2.1 q.2.2 a s := by
  intro q hq
  obtain ⟨w, hw, hs⟩ := List.mem_filterMap.mp hq
  have h1 := hts w hw
  cases w <;> simp only [strOf9] at hs <;> try (cases hs; done)
  cases hs
  rename_i own k tx
  have h2 := h1
  simp only [Cond.before, Cond.holds, Cond.value] at h2
  cases hc : s.vm.findClass own with
  | none => simp [hc] at h2
  | some cur =>
    obtain ⟨-, -, -, a, -, -, -, -, -, he⟩ := Cond.stringRef_spec hc h1
    exact ⟨a, vk_R.of h1 he⟩
theorem bf9 {s : State} {A : Array Value} {b L : Nat} {xs : Nat → Int32} (hts : ∀ w ∈ lw_tbl, w.before A s = true) (hgv : ∀ w ∈ nar9, w.before A s = true) (hX : va_X b L xs s s.heap) (hbl : b < s.heap.size) : ∃ (D : va_G) (ty : Nat → ClassId) (xa xl : Int → Nat) (xv : Int → Nat → Int32), BF s D ty xa xl xv ∧ xa 0 = b ∧ xl 0 = L ∧ xv 0 = xs := by
  have hAf : ∀ a : Nat, a < s.heap.size → ¬ (fun q : Nat => s.heap.size ≤ q) a := fun a h => Nat.not_le.mpr h
  obtain ⟨f, hf⟩ := Classical.axiomOfChoice (kn9 hts)
  obtain ⟨g, hg⟩ := Classical.axiomOfChoice (ty9 hts)
  have hq : ∀ q ∈ SA9, ∃ a : Nat, (Term.static "Flowkeeper" q.1 "[I").eval A s none [] s = some (.ref a) ∧ va_X a 16 (fun j => Int32.ofInt (sar9 q.2 j)) s s.heap ∧ a < s.heap.size := fun q hq => sarr9 (hgv _ (arw9 q hq).1) (hgv _ (arw9 q hq).2.1) (fun j hj => hgv _ ((arw9 q hq).2.2 j hj))
  obtain ⟨a1, e1, x1, l1⟩ := hq ("LEAST_A", 1) (by decide)
  obtain ⟨a2, e2, x2, l2⟩ := hq ("MOST_A", 2) (by decide)
  obtain ⟨a3, e3, x3, l3⟩ := hq ("LEAST_B", 3) (by decide)
  obtain ⟨a4, e4, x4, l4⟩ := hq ("MOST_B", 4) (by decide)
  have hz : ∀ (nm : String) (a : Nat), (Term.static "Flowkeeper" nm "[I").eval A s none [] s = some (.ref a) → Cond.laysStatic "Flowkeeper" nm "[I" ∈ lw_tbl → va_Z "Flowkeeper" nm "[I" (.ref a) (fun q => s.heap.size ≤ q) s s.heap := fun nm a he hl => va_Zof (hts _ hl) (hts (.initialized "Flowkeeper") (by decide +kernel)) he hAf
  refine ⟨(fun c => (f c).1, fun c => (f c).2), g, fun k => if k = 0 then b else if k = 1 then a1 else if k = 2 then a2 else if k = 3 then a3 else a4, fun k => if k = 0 then L else 16, fun k => if k = 0 then xs else fun j => Int32.ofInt (sar9 k j), ?_, rfl, rfl, rfl⟩
  refine ⟨⟨fun c q hq => hf c q hq, ?_⟩, ?_, ?_, ao9 hts, ?_, ?_, ?_, ?_, strp9 hts, ?_⟩
  · intro k q hk
    rw [tys_map, List.getElem?_map] at hk
    cases hl : tyl9[k]? with
    | none => rw [hl] at hk; cases hk
    | some p => rw [hl] at hk; cases hk; exact hg p.1 p.2 (List.mem_of_getElem? hl)
  · intro k h0 h5
    rcases (show k = 0 ∨ k = 1 ∨ k = 2 ∨ k = 3 ∨ k = 4 by omega) with rfl | rfl | rfl | rfl | rfl
    · exact ⟨hX, hbl⟩
    · exact ⟨x1, l1⟩
    · exact ⟨x2, l2⟩
    · exact ⟨x3, l3⟩
    · exact ⟨x4, l4⟩
  · intro k h1 h5
    refine ⟨if_neg (by omega), fun j hj => ?_⟩
    show (if k = 0 then xs else fun j => Int32.ofInt (sar9 k j)) j = _
    rw [if_neg (by omega)]
  · intro w hw
    obtain ⟨h1, h2⟩ := List.mem_filter.mp hw
    refine va_Nw.of ?_ (hts w h1)
    cases w <;> first | rfl | exact absurd h2 (by unfold isNW9; exact Bool.false_ne_true)
  · exact fun q hq => va_Nc.of (hgv _ (ncw9 q hq))
  · exact vx_Zqof (hts (.laysStatic Bundle.tN "UNASSIGNED_STACK" Bundle.steD) (by decide +kernel)) (hts (.initialized Bundle.tN) (by decide +kernel)) (hgv (.isRef (.static Bundle.tN "UNASSIGNED_STACK" Bundle.steD)) (by decide +kernel)) hAf
  · exact vx_Zqof (hts (.laysStatic Bundle.tN "SUPPRESSED_SENTINEL" Bundle.listD) (by decide +kernel)) (hts (.initialized Bundle.tN) (by decide +kernel)) (hgv (.isRef (.static Bundle.tN "SUPPRESSED_SENTINEL" Bundle.listD)) (by decide +kernel)) hAf
  · intro q hq
    have hm : q ∈ [("LEAST_A", (1 : Int)), ("MOST_A", 2), ("LEAST_B", 3), ("MOST_B", 4)] := hq
    rcases List.mem_cons.mp hm with rfl | hm
    · exact hz _ a1 e1 (by decide +kernel)
    rcases List.mem_cons.mp hm with rfl | hm
    · exact hz _ a2 e2 (by decide +kernel)
    rcases List.mem_cons.mp hm with rfl | hm
    · exact hz _ a3 e3 (by decide +kernel)
    rcases List.mem_cons.mp hm with rfl | hm
    · exact hz _ a4 e4 (by decide +kernel)
    cases hm
theorem rel0 {s : State} {D : va_G} {ty : Nat → ClassId} {xl : Int → Nat} {xv : Int → Nat → Int32} {ρ : Int → Nat} {L : Nat} {xs : Nat → Int32} (h1 : xl 0 = L) (h2 : xv 0 = xs) : RelH s D ty xl xv ρ (mem0 L xs) [] s.heap := by
  have e1 : ∀ i, mem0 L xs (-1) i = 0 := fun i => by
    unfold mem0
    rw [if_neg (by decide), if_neg (fun h => absurd h.1 (by decide))]
  refine ⟨fun k q h => (by cases h), ⟨fun i j p q h => (by cases h), fun k q h => (by cases h)⟩, List.nodup_nil, fun i => ⟨fun h => (by cases h), fun h => absurd (e1 i) h.2⟩, fun i _ h => absurd (e1 i) h, ?_, fun j hj => ?_⟩
  · rw [h1]; rfl
  · have e3 : mem0 L xs (-3) (j : Int) = (xs j).toInt := by
      unfold mem0
      rw [if_pos rfl]
      rfl
    rw [e3, h2]
    exact ⟨(Int32.ofInt_toInt _).symm, inR_of32 _⟩
theorem whole9 (hok : LawOK) {p : Program} {e : Env} {s : State} {m : MethodId} {below : List Frame} {meth : Method} {c : Code} (l : Launch) (hflags : l.flags = flags0) {b L : Nat} {xs : Nat → Int32} (hL : L ≤ 260) (C0 : lw_At p s m meth c b L xs) (hnm : meth.name = "law") (htab : c.exceptionTable.toList = []) : W p l e room_1 s m #[Value.ref b] below meth c s.heap [] 0 0 (lw_Z below #[Value.ref b] s) (entryFrame m ([Value.ref b] : List Value).toArray 15) := by
  obtain ⟨hx, hb, hr, hml, hown, hts, hX, hbl, hlocks, hgv⟩ := id C0
  obtain ⟨D, ty, xa, xl, xv, hB, h0, h1, h2⟩ := bf9 hts (fun w hw => flat_of_before _ hgv w hw) hX hbl
  obtain ⟨m', hlaw, hc, hs⟩ := hok L xs hL
  obtain ⟨-, hlaw⟩ := boolR_some hlaw
  have hE := e_L_law_0 0 hlaw
  have hFC : FC fm_L_law p l s m #[Value.ref b] meth c := ⟨hx, hb, hml, hr, hlocks, hown, fun w hw => hts w (List.mem_filter.mp hw).1, hnm, hflags, htab⟩
  have hsr : SRel xa (fun _ => 0) (mem0 L xs) [(7, 0)] [.ref b] := ⟨VR_script.mpr (by rw [h0]), trivial⟩
  have hlr := LRel.entry hsr (cat9 rfl) (n := 15) (Nat.le_of_ble_eq_true rfl)
  rw [lg_entry_eq]
  have z0 : mem0 L xs (-2) 0 = 0 := by
    unfold mem0
    rw [if_neg (by decide), if_neg (fun h => absurd h.1 (by decide))]
  have z1 : mem0 L xs (-2) 1 = 0 := by
    unfold mem0
    rw [if_neg (by decide), if_neg (fun h => absurd h.1 (by decide))]
  refine hE.2 s D ty xa xl xv hB p l e room_1 s m #[Value.ref b] below meth c hFC ⟨State.WarmedH.refl s, Nat.le_refl _, fun _ _ => rfl⟩ (Nat.le_of_ble_eq_true rfl) (Nat.le_of_ble_eq_true rfl) s.heap [] 0 0 (fun _ => 0) [] _ [] _ va_S.rf (rel0 h1 h2) hlr rfl trivial ?_ ?_ ?_
  · rw [z0]
    show ((0 : Nat) : Int) + (m' (-2) 0 - 0) ≤ ((600104 : Nat) : Int)
    omega
  · rw [z1]
    show ((0 : Nat) : Int) + (m' (-2) 1 - 0) ≤ ((7301314 : Nat) : Int)
    omega
  · refine ⟨⟨rfl, Or.inr rfl⟩, fun pc2 ls2 st2 H2 locs2 cells2 slots2 ρ2 L2 hdec hS2 hX2 hR2 hv2 hc2 hs2 => ?_⟩
    rcases hv2 with ⟨h3, -⟩ | ⟨-, w, hw, rfl⟩
    · exact absurd h3 (by decide)
    · obtain ⟨rfl, -⟩ := VR_int.mp hw
      refine va_forget hS2.2.2 (W.widen (k := 600104) (n := 7301314) hc2 hs2 ?_)
      exact lw_ret hx hb hr hlocks hdec
