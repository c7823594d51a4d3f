/-! what the printed functions are made of, and what their printed proofs use -/
abbrev R2 : Type := Int × Mem
abbrev R3 : Type := Int × Int × Mem
abbrev iR (x : Int) : Prop := -2147483648 ≤ x ∧ x < 2147483648
def chk9 {α : Type} (c : Prop) [Decidable c] (a : Option α) : Option α := if c then a else none
def st9 {α : Type} (m : Mem) (k : Mem → Option α) : Option α := k m
def vl9 {α : Type} (v : Int) (k : Int → Option α) : Option α := k v
def cal {α : Type} (o : Option R2) (k : Int → Mem → Option α) : Option α := match o with
  | some (v, m) => k v m
  | none => none
def calX (o : Option R3) (k : Int → Mem → Option R3) : Option R3 := match o with
  | some (e, v, m) => if e = 0 then k v m else some (e, 0, m)
  | none => none
def calT {α : Type} (o : Option R3) (k : Int → Mem → Option α) (h : Int → Mem → Option α) : Option α := match o with
  | some (e, v, m) => if e = 0 then k v m else h e m
  | none => none
def boolR (o : Option R2) : Option R2 := match o with
  | some (v, m) => if v = 0 ∨ v = 1 then some (v, m) else none
  | none => none
def boolX (o : Option R3) : Option R3 := match o with
  | some (e, v, m) => if e ≠ 0 ∨ v = 0 ∨ v = 1 then some (e, v, m) else none
  | none => none
def exn9 (e : Int) : String := if e = 1 then xIO else if e = 2 then xIA else xIS
def rr9 (t e v : Int) : SV ⊕ String := if e = 0 then .inl (t, v) else .inr (exn9 e)
theorem chk_some {α : Type} {c : Prop} [Decidable c] {a : Option α} {x : α} (h : chk9 c a = some x) : c ∧ a = some x := by
  unfold chk9 at h
  split at h
  · exact ⟨by assumption, h⟩
  · cases h
theorem ite_some {α : Type} {c : Prop} [Decidable c] {a b : Option α} {x : α} (h : (if c then a else b) = some x) : c ∧ a = some x ∨ ¬ c ∧ b = some x := by
  split at h
  · exact Or.inl ⟨by assumption, h⟩
  · exact Or.inr ⟨by assumption, h⟩
theorem st_some {α : Type} {m : Mem} {k : Mem → Option α} {x : α} (h : st9 m k = some x) : ∃ m1, m1 = m ∧ k m1 = some x := ⟨m, rfl, h⟩
theorem vl_some {α : Type} {v : Int} {k : Int → Option α} {x : α} (h : vl9 v k = some x) : ∃ v1, v1 = v ∧ k v1 = some x := ⟨v, rfl, h⟩
theorem cal_some {α : Type} {o : Option R2} {k : Int → Mem → Option α} {x : α} (h : cal o k = some x) : ∃ v m, o = some (v, m) ∧ k v m = some x := by
  unfold cal at h
  split at h
  · exact ⟨_, _, rfl, h⟩
  · cases h
theorem calX_some {o : Option R3} {k : Int → Mem → Option R3} {x : R3} (h : calX o k = some x) : (∃ v m, o = some (0, v, m) ∧ k v m = some x) ∨ ∃ e v m, e ≠ 0 ∧ o = some (e, v, m) ∧ x = (e, 0, m) := by
  unfold calX at h
  split at h
  · rename_i e v m
    rcases ite_some h with ⟨h0, h1⟩ | ⟨h0, h1⟩
    · subst h0; exact Or.inl ⟨_, _, rfl, h1⟩
    · exact Or.inr ⟨e, v, m, h0, rfl, (Option.some.inj h1).symm⟩
  · cases h
theorem calT_some {α : Type} {o : Option R3} {k : Int → Mem → Option α} {hh : Int → Mem → Option α} {x : α} (h : calT o k hh = some x) : (∃ v m, o = some (0, v, m) ∧ k v m = some x) ∨ ∃ e v m, e ≠ 0 ∧ o = some (e, v, m) ∧ hh e m = some x := by
  unfold calT at h
  split at h
  · rename_i e v m
    rcases ite_some h with ⟨h0, h1⟩ | ⟨h0, h1⟩
    · subst h0; exact Or.inl ⟨_, _, rfl, h1⟩
    · exact Or.inr ⟨e, v, m, h0, rfl, h1⟩
  · cases h
theorem boolR_some {o : Option R2} {x : R2} (h : boolR o = some x) : (x.1 = 0 ∨ x.1 = 1) ∧ o = some x := by
  unfold boolR at h
  split at h
  · rcases ite_some h with ⟨h0, h1⟩ | ⟨h0, h1⟩
    · cases h1; exact ⟨h0, rfl⟩
    · cases h1
  · cases h
theorem boolX_some {o : Option R3} {x : R3} (h : boolX o = some x) : (x.1 ≠ 0 ∨ x.2.1 = 0 ∨ x.2.1 = 1) ∧ o = some x := by
  unfold boolX at h
  split at h
  · rcases ite_some h with ⟨h0, h1⟩ | ⟨h0, h1⟩
    · cases h1; exact ⟨h0, rfl⟩
    · cases h1
  · cases h
def wkL : List SV → List SV → Prop
  | [], [] => True
  | a :: as, b :: bs => (b.1 = 3 ∨ a = b) ∧ wkL as bs
  | _, _ => False
theorem wkL.len : ∀ {a b : List SV}, wkL a b → a.length = b.length
  | [], [], _ => rfl
  | _ :: _, _ :: _, h => by rw [List.length_cons, List.length_cons, wkL.len h.2]
  | [], _ :: _, h => h.elim
  | _ :: _, [], h => h.elim
theorem wkL.at : ∀ {a b : List SV}, wkL a b → ∀ (i : Nat) {q : SV}, b[i]? = some q → q.1 = 3 ∨ a[i]? = some q
  | [], [], _, _, _, hq => by cases hq
  | x :: _, y :: _, h, 0, _, hq => by
    cases hq
    rcases h.1 with h1 | h1
    · exact Or.inl h1
    · exact Or.inr (by rw [h1]; rfl)
  | _ :: _, _ :: _, h, i + 1, _, hq => wkL.at h.2 i hq
  | [], _ :: _, h, _, _, _ => h.elim
  | _ :: _, [], h, _, _, _ => h.elim
theorem LRel.wk {xa : Int → Nat} {ρ : Int → Nat} {m : Mem} {ls ls2 : List SV} {ls' : Array Slot} (h : LRel xa ρ m ls ls') (w : wkL ls ls2) : LRel xa ρ m ls2 ls' := by
  obtain ⟨lv, h1, h2⟩ := h
  refine ⟨lv, by rw [← w.len]; exact h1, fun i q hq => ?_⟩
  rcases w.at i hq with h3 | h3
  · exact Or.inl h3
  · exact h2 i q h3
theorem Ex.wk {d : Nat} {f : FM} {pc : Nat} {ls ls2 st : List SV} {m : Mem} {r : SV ⊕ String} {m' : Mem} (w : wkL ls ls2) (k : Ex d f pc ls2 st m r m') : Ex d f pc ls st m r m' :=
  ⟨k.1, fun S0 D ty xa xl xv hB p l e R s mid args below meth c hF hG hfr hlo H locs cells slots ρ L ls' st' Q hS hR hL hn hst hc hs hE => k.2 S0 D ty xa xl xv hB p l e R s mid args below meth c hF hG hfr hlo H locs cells slots ρ L ls' st' Q hS hR (hL.wk w) (w.len ▸ hn) hst hc hs hE⟩
theorem cat9 {as : List SV} (h : (as.all fun q => decide (q.1 ≠ 2)) = true) : ∀ q ∈ as, q.1 ≠ 2 := fun q hq => of_decide_eq_true (List.all_eq_true.mp h q hq)
theorem contN {d : Nat} {f : FM} {pc : Nat} {ls st : List SV} {t v : Int} {m1 : Mem} {r : SV ⊕ String} {m' : Mem} (ht : t ≠ 3) (k : Ex d f (pc + 3) ls ((t, v) :: st) m1 r m') : Cont9 d f pc ls st (.inl (t, v)) m1 r m' := by
  show Ex d f (pc + 3) ls (push9 (t, v) st) m1 r m'
  unfold push9
  rw [if_neg ht]
  exact k
theorem contV {d : Nat} {f : FM} {pc : Nat} {ls st : List SV} {m1 : Mem} {r : SV ⊕ String} {m' : Mem} (k : Ex d f (pc + 3) ls st m1 r m') : Cont9 d f pc ls st (.inl (3, 0)) m1 r m' := k
theorem cont0 {d : Nat} {f : FM} {pc : Nat} {ls st : List SV} {t v : Int} {m1 : Mem} {r : SV ⊕ String} {m' : Mem} (ht : t ≠ 3) (k : Ex d f (pc + 3) ls ((t, v) :: st) m1 r m') : Cont9 d f pc ls st (rr9 t 0 v) m1 r m' := contN ht k
theorem cont0V {d : Nat} {f : FM} {pc : Nat} {ls st : List SV} {v : Int} {m1 : Mem} {r : SV ⊕ String} {m' : Mem} (k : Ex d f (pc + 3) ls st m1 r m') : Cont9 d f pc ls st (rr9 3 0 v) m1 r m' := by
  show Ex d f (pc + 3) ls (push9 (3, v) st) m1 r m'
  unfold push9
  rw [if_pos rfl]
  exact k
theorem contE {d : Nat} {f : FM} {pc : Nat} {ls st : List SV} {t t2 e v : Int} {m1 : Mem} (he : e ≠ 0) (ht : f.2.2.2.2 = []) : Cont9 d f pc ls st (rr9 t e v) m1 (rr9 t2 e 0) m1 := by
  unfold rr9
  rw [if_neg he, if_neg he]
  exact Or.inl ⟨ht, rfl, rfl⟩
theorem contH {d : Nat} {f : FM} {pc : Nat} {ls st : List SV} {t e v : Int} {m1 : Mem} {r : SV ⊕ String} {m' : Mem} {E : String} (pre suf : List (Nat × Nat × Nat × Nat)) (x : Nat × Nat × Nat × Nat) (he : e ≠ 0) (hE : exn9 e = E) (hf : f.2.2.2.2 = pre ++ x :: suf) (hc : x.1 ≤ pc ∧ pc < x.2.1) (hx : x.2.2.2 ≠ 0) (hl : Cond.classLink f.2.1.cls x.2.2.2 E ∈ TS) (hcast : Cond.castable E E ∈ NW9)
    (hpre : ∀ z ∈ pre, z.2.2.2 ≠ 0 ∧ ∃ nm : String, Cond.classLink f.2.1.cls z.2.2.2 nm ∈ TS ∧ (E, nm) ∈ NC9) (k : ExH d f x.2.2.1 ls m1 r m') : Cont9 d f pc ls st (rr9 t e v) m1 r m' := by
  unfold rr9
  rw [if_neg he, hE]
  exact Or.inr ⟨pre, suf, x, hf, hc, hx, hl, hcast, hpre, k⟩
theorem retI {x : Int} : ∀ v, (Sum.inl (0, x) : SV ⊕ String) = .inl v → RetV (some .int) v := fun v h => by cases h; rfl
theorem retV {x : Int} : ∀ v, (Sum.inl (3, x) : SV ⊕ String) = .inl v → RetV none v := fun v h => by cases h; rfl
theorem retZ {x : Int} (hx : x = 0 ∨ x = 1) : ∀ v, (Sum.inl (0, x) : SV ⊕ String) = .inl v → RetV (some .boolean) v := fun v h => by cases h; exact ⟨rfl, hx⟩
theorem retR {t x : Int} {nm : String} (ht : 10 ≤ t) : ∀ v, (Sum.inl (t, x) : SV ⊕ String) = .inl v → RetV (some (.object nm)) v := fun v h => by cases h; exact ht
theorem rr_inl {t e x : Int} {v : SV} (h : rr9 t e x = .inl v) : e = 0 ∧ v = (t, x) := by
  unfold rr9 at h
  split at h
  · cases h; exact ⟨by assumption, rfl⟩
  · cases h
theorem retIX {e x : Int} : ∀ v, rr9 0 e x = .inl v → RetV (some .int) v := fun v h => by obtain ⟨-, rfl⟩ := rr_inl h; rfl
theorem retVX {e x : Int} : ∀ v, rr9 3 e x = .inl v → RetV none v := fun v h => by obtain ⟨-, rfl⟩ := rr_inl h; rfl
theorem retZX {e x : Int} (hx : e ≠ 0 ∨ x = 0 ∨ x = 1) : ∀ v, rr9 0 e x = .inl v → RetV (some .boolean) v := fun v h => by obtain ⟨h0, rfl⟩ := rr_inl h; exact ⟨rfl, hx.resolve_left fun h1 => h1 h0⟩
theorem retRX {t e x : Int} {nm : String} (ht : 10 ≤ t) : ∀ v, rr9 t e x = .inl v → RetV (some (.object nm)) v := fun v h => by obtain ⟨-, rfl⟩ := rr_inl h; exact ht
theorem LRel.setD {xa : Int → Nat} {ρ : Int → Nat} {m : Mem} {ls : List SV} {ls2 : Array Slot} {lv : List (Nat × Value)} {i : Nat} {v : Value} (h : ∀ (i : Nat) (q : SV), ls[i]? = some q → q.1 = 3 ∨ q.1 ≠ 2 ∧ ∃ v : Value, (i, v) ∈ lv ∧ VR xa ρ m q v) (h2 : lv_has ls2 ls.length ((i, v) :: lv.filter (fun q => !(q.1 == i) && !(q.1 + 1 == i && q.2.category == 2)))) : LRel xa ρ m (ls.set i (3, 0)) ls2 := by
  refine ⟨_, by rw [List.length_set]; exact h2, fun j u hu => ?_⟩
  rw [List.getElem?_set] at hu
  by_cases hj : i = j
  · subst hj
    rw [if_pos rfl] at hu
    split at hu
    · cases hu
      exact Or.inl rfl
    · cases hu
  · rw [if_neg hj] at hu
    rcases h j u hu with h3 | ⟨h4, w, h5, h6⟩
    · exact Or.inl h3
    · refine Or.inr ⟨h4, w, List.mem_cons_of_mem _ (List.mem_filter.mpr ⟨h5, ?_⟩), h6⟩
      have hc : w.category = 1 := h6.cat h4
      have hji : (j == i) = false := by simpa using fun h => hj h.symm
      simp [hji, hc]
theorem h_astore_n {d : Nat} {f : FM} {pc : Nat} {ls : List SV} {m : Mem} {r : SV ⊕ String} {m' : Mem} {j : Fin 4} {i : Nat} {ls2 : List SV} (hd : decode f.1 pc = .ok (.astore_n j, 1)) (hi : (j : Nat) = i) (hn : i < ls.length) (hl : ls.set i (3, 0) = ls2) (k : Ex d f (pc + 1) ls2 [] m r m') : ExH d f pc ls m r m' := by
  refine ⟨k.1, fun S0 D ty xa xl xv hB p l e R s mid args below meth c hF hG hfr hlo H locs cells slots ρ L ls' q Q hS hR hL hnn hcl hsl hE => ?_⟩
  obtain ⟨lv, hlv, hq⟩ := hL
  refine lv_astore_n hF.1 hF.2.1 hd hi hlv hn rfl fun ls1 h1 => ?_
  exact k.2 S0 D ty xa xl xv hB p l e R s mid args below meth c hF hG hfr hlo H locs cells slots ρ L ls1 [] Q hS hR (hl ▸ LRel.setD hq h1) (by rw [← hl, List.length_set]; exact hnn) trivial hcl hsl hE
theorem h_astore {d : Nat} {f : FM} {pc : Nat} {ls : List SV} {m : Mem} {r : SV ⊕ String} {m' : Mem} {i : Nat} {ls2 : List SV} (hd : decode f.1 pc = .ok (.astore i, 2)) (hn : i < ls.length) (hl : ls.set i (3, 0) = ls2) (k : Ex d f (pc + 2) ls2 [] m r m') : ExH d f pc ls m r m' := by
  refine ⟨k.1, fun S0 D ty xa xl xv hB p l e R s mid args below meth c hF hG hfr hlo H locs cells slots ρ L ls' q Q hS hR hL hnn hcl hsl hE => ?_⟩
  obtain ⟨lv, hlv, hq⟩ := hL
  refine lv_astore hF.1 hF.2.1 hd hlv hn rfl fun ls1 h1 => ?_
  exact k.2 S0 D ty xa xl xv hB p l e R s mid args below meth c hF hG hfr hlo H locs cells slots ρ L ls1 [] Q hS hR (hl ▸ LRel.setD hq h1) (by rw [← hl, List.length_set]; exact hnn) trivial hcl hsl hE
theorem cH1 {f : FM} {E : String} {a : Nat × Nat × Nat × Nat} (h : a.2.2.2 ≠ 0 ∧ ∃ nm : String, Cond.classLink f.2.1.cls a.2.2.2 nm ∈ TS ∧ (E, nm) ∈ NC9) : ∀ z ∈ [a], z.2.2.2 ≠ 0 ∧ ∃ nm : String, Cond.classLink f.2.1.cls z.2.2.2 nm ∈ TS ∧ (E, nm) ∈ NC9 := fun z hz => by
  rw [List.mem_singleton.mp hz]; exact h
theorem cH2 {f : FM} {E : String} {a b : Nat × Nat × Nat × Nat} (h : a.2.2.2 ≠ 0 ∧ ∃ nm : String, Cond.classLink f.2.1.cls a.2.2.2 nm ∈ TS ∧ (E, nm) ∈ NC9) (h2 : b.2.2.2 ≠ 0 ∧ ∃ nm : String, Cond.classLink f.2.1.cls b.2.2.2 nm ∈ TS ∧ (E, nm) ∈ NC9) : ∀ z ∈ [a, b], z.2.2.2 ≠ 0 ∧ ∃ nm : String, Cond.classLink f.2.1.cls z.2.2.2 nm ∈ TS ∧ (E, nm) ∈ NC9 := fun z hz => by
  rcases List.mem_cons.mp hz with rfl | hz
  · exact h
  · rw [List.mem_singleton.mp hz]; exact h2
section RW
variable {d : Nat} {f : FM} {pc : Nat} {ls st : List SV} {m : Mem} {r : SV ⊕ String} {m' : Mem}
theorem y_retX {t v : Int} (hd : RetI f.1 f.2.2.2.1 pc) (ht : t ≠ 3) : Ex d f pc ls [(t, v)] m (rr9 t 0 v) m := x_ret hd ht
theorem y_retvX (hd : RetI f.1 f.2.2.2.1 pc) : Ex d f pc ls [] m (rr9 3 0 0) m := x_retv hd
theorem y_throw {ik is ic : Nat} {t e : Int} {tx : String} (he : e ≠ 0) (hk : thrOK9 f.2.1.cls ik is ic (exn9 e) tx) (ht : f.2.2.2.2 = []) (hrest : st.length ≤ 4) {p3 p4 p6 p9 : Nat}
    (d0 : decode f.1 pc = .ok (.new ik, 3)) (d3 : decode f.1 p3 = .ok (.dup, 1)) (d4 : decode f.1 p4 = .ok (.ldc is, 2)) (d6 : decode f.1 p6 = .ok (.invokespecial ic, 3)) (d9 : decode f.1 p9 = .ok (.athrow, 1)) (h3 : p3 = pc + 3) (h4 : p4 = pc + 4) (h6 : p6 = pc + 6) (h9 : p9 = pc + 9) : Ex d f pc ls st m (rr9 t e 0) (thr9 m) := by
  subst h3; subst h4; subst h6; subst h9
  unfold rr9
  rw [if_neg he]
  exact x_throw hk ht hrest d0 d3 d4 d6 d9
theorem y_throwW {ik is ic : Nat} {t e : Int} {tx : String} (he : e ≠ 0) (hk : thrOK9 f.2.1.cls ik is ic (exn9 e) tx) (ht : f.2.2.2.2 = []) (hrest : st.length ≤ 4) {p3 p4 p6 p9 : Nat}
    (d0 : decode f.1 pc = .ok (.new ik, 3)) (d3 : decode f.1 p3 = .ok (.dup, 1)) (d4 : decode f.1 p4 = .ok (.ldc_w is, 3)) (d6 : decode f.1 p6 = .ok (.invokespecial ic, 3)) (d9 : decode f.1 p9 = .ok (.athrow, 1)) (h3 : p3 = pc + 3) (h4 : p4 = pc + 4) (h6 : p6 = pc + 7) (h9 : p9 = pc + 10) : Ex d f pc ls st m (rr9 t e 0) (thr9 m) := by
  subst h3; subst h4; subst h6; subst h9
  unfold rr9
  rw [if_neg he]
  exact x_throwW hk ht hrest d0 d3 d4 d6 d9
theorem y_ifnull {t x off : Int} {tgt : Nat} (ht10 : 10 ≤ t) (hx : x = 0) (hd : decode f.1 pc = .ok (.ifnull off, 3)) (ht : (pc : Int) + off = (tgt : Int)) (k : Ex d f tgt ls st m r m') : Ex d f pc ls ((t, x) :: st) m r m' := by
  subst hx; exact x_ifnull ht10 hd ht k
theorem y_ifnonnullN {t x off : Int} (ht10 : 10 ≤ t) (hx : x = 0) (hd : decode f.1 pc = .ok (.ifnonnull off, 3)) (k : Ex d f (pc + 3) ls st m r m') : Ex d f pc ls ((t, x) :: st) m r m' := by
  subst hx; exact x_ifnonnullN ht10 hd k
theorem y_tableAt {x dflt lo hi off j : Int} {offs : Array Int} {len tgt : Nat} (hx : x = j) (hd : decode f.1 pc = .ok (.tableswitch dflt lo hi offs, len)) (h1 : ¬ j < lo) (h2 : ¬ hi < j) (ho : offs[(j - lo).toNat]? = some off) (ht : (pc : Int) + off = (tgt : Int)) (k : Ex d f tgt ls st m r m') : Ex d f pc ls ((0, x) :: st) m r m' := by
  subst hx; exact x_tableIn hd h1 h2 ho ht k
end RW
theorem cV0 {d : Nat} {f : FM} {pc : Nat} {ls st : List SV} {m m1 : Mem} {r1 r : SV ⊕ String} {m' : Mem} {t x : Int} {g : FM} (hM : ExM d g [(t, x)] m r1 m1) (k : Cont9 (d + 1) f pc ls st r1 m1 r m') (hg : okG9 g 0) (hg0 : g.2.2.2.2 = []) {idx : Nat} (hlink : Cond.methodLink f.2.1.cls idx g.2.1 ∈ TS) {C : String} {T : u_T} {N : Nat} (c : Nat) (hc : vwCl[c]? = some (C, T, N)) (ht : t = 10 + (c : Int)) (hx : 0 < x) (hinst : Cond.instanceMethod g.2.1 ∈ TS) (hsel : Cond.selects C g.2.1 g.2.1 ∈ TS) (hrest : st.length ≤ 4) (hd : decode f.1 pc = .ok (.invokevirtual idx, 3)) : Ex (d + 1) f pc ls ((t, x) :: st) m r m' := x_callV (as := []) hM k hg hg0 hlink c hc ht hx hinst hsel rfl hrest hd
theorem cI0 {d : Nat} {f : FM} {pc : Nat} {ls st : List SV} {m m1 : Mem} {r1 r : SV ⊕ String} {m' : Mem} {t x : Int} {g : FM} (hM : ExM d g [(t, x)] m r1 m1) (k : Cont9 (d + 1) f pc ls st r1 m1 r m') (hg : okG9 g 0) (hg0 : g.2.2.2.2 = []) {idx : Nat} (hlink : Cond.methodLink f.2.1.cls idx g.2.1 ∈ TS) (hret : g.2.2.2.1 = none) (hinit : g.2.1.name = "<init>") (ht : 10 ≤ t) (hx : 0 < x) (hinst : Cond.instanceMethod g.2.1 ∈ TS) (hrest : st.length ≤ 4) (hd : decode f.1 pc = .ok (.invokespecial idx, 3)) : Ex (d + 1) f pc ls ((t, x) :: st) m r m' := x_callI (as := []) hM k hg hg0 hlink hret hinit ht hx hinst rfl hrest hd
theorem cN0 {d : Nat} {f : FM} {pc : Nat} {ls st : List SV} {m m1 : Mem} {r1 r : SV ⊕ String} {m' : Mem} {t x : Int} {g : FM} (hM : ExM d g [(t, x)] m r1 m1) (k : Cont9 (d + 1) f pc ls st r1 m1 r m') (hg : okG9 g 0) (hg0 : g.2.2.2.2 = []) {idx : Nat} {host : String} (hlink : Cond.methodLinkNest f.2.1.cls idx g.2.1 host ∈ NW9) (hret : g.2.2.2.1 = none) (hinit : g.2.1.name = "<init>") (ht : 10 ≤ t) (hx : 0 < x) (hinst : Cond.instanceMethod g.2.1 ∈ TS) (hrest : st.length ≤ 4) (hd : decode f.1 pc = .ok (.invokespecial idx, 3)) : Ex (d + 1) f pc ls ((t, x) :: st) m r m' := x_callIN (as := []) hM k hg hg0 hlink hret hinit ht hx hinst rfl hrest hd
theorem cS0 {d : Nat} {f : FM} {pc : Nat} {ls st : List SV} {m m1 : Mem} {r1 r : SV ⊕ String} {m' : Mem} {g : FM} (hM : ExM d g [] m r1 m1) (k : Cont9 (d + 1) f pc ls st r1 m1 r m') (hg : okG9 g 0) (hg0 : g.2.2.2.2 = []) {idx : Nat} (hlink : Cond.methodLink f.2.1.cls idx g.2.1 ∈ TS) (hstat : Cond.static g.2.1 ∈ TS) (hrest : st.length ≤ 4) (hd : decode f.1 pc = .ok (.invokestatic idx, 3)) : Ex (d + 1) f pc ls (st) m r m' := x_callS (as := []) hM k hg hg0 hlink hstat rfl hrest hd
theorem cW0 {d : Nat} {f : FM} {pc : Nat} {ls st : List SV} {m m1 : Mem} {r : SV ⊕ String} {m' : Mem} {g : FM} {t9 v9 : Int} (hM : ExM d g [] m (.inl (t9, v9)) m1) (h9 : t9 ≠ 3) (k : Ex (d + 1) f (pc + 3) ls ((t9, v9) :: st) m1 r m') (hg : okG9 g 0) (hg0 : g.2.2.2.2 ≠ []) {idx : Nat} (hlink : Cond.methodLink f.2.1.cls idx g.2.1 ∈ TS) (hstat : Cond.static g.2.1 ∈ TS) (hrest : st.length ≤ 4) (hd : decode f.1 pc = .ok (.invokestatic idx, 3)) : Ex (d + 1) f pc ls (st) m r m' := x_callSW (as := []) hM (by unfold push9; rw [if_neg h9]; exact k) hg hg0 hlink hstat rfl hrest hd
theorem cV1 {d : Nat} {f : FM} {pc : Nat} {ls st : List SV} {m m1 : Mem} {r1 r : SV ⊕ String} {m' : Mem} {t x t0 x0 : Int} {g : FM} (hM : ExM d g [(t, x), (t0, x0)] m r1 m1) (k : Cont9 (d + 1) f pc ls st r1 m1 r m') (hg : okG9 g 1) (hg0 : g.2.2.2.2 = []) {idx : Nat} (hlink : Cond.methodLink f.2.1.cls idx g.2.1 ∈ TS) {C : String} {T : u_T} {N : Nat} (c : Nat) (hc : vwCl[c]? = some (C, T, N)) (ht : t = 10 + (c : Int)) (hx : 0 < x) (hinst : Cond.instanceMethod g.2.1 ∈ TS) (hsel : Cond.selects C g.2.1 g.2.1 ∈ TS) (hrest : st.length ≤ 4) (hd : decode f.1 pc = .ok (.invokevirtual idx, 3)) : Ex (d + 1) f pc ls ((t0, x0) :: (t, x) :: st) m r m' := x_callV (as := [(t0, x0)]) hM k hg hg0 hlink c hc ht hx hinst hsel rfl hrest hd
theorem cI1 {d : Nat} {f : FM} {pc : Nat} {ls st : List SV} {m m1 : Mem} {r1 r : SV ⊕ String} {m' : Mem} {t x t0 x0 : Int} {g : FM} (hM : ExM d g [(t, x), (t0, x0)] m r1 m1) (k : Cont9 (d + 1) f pc ls st r1 m1 r m') (hg : okG9 g 1) (hg0 : g.2.2.2.2 = []) {idx : Nat} (hlink : Cond.methodLink f.2.1.cls idx g.2.1 ∈ TS) (hret : g.2.2.2.1 = none) (hinit : g.2.1.name = "<init>") (ht : 10 ≤ t) (hx : 0 < x) (hinst : Cond.instanceMethod g.2.1 ∈ TS) (hrest : st.length ≤ 4) (hd : decode f.1 pc = .ok (.invokespecial idx, 3)) : Ex (d + 1) f pc ls ((t0, x0) :: (t, x) :: st) m r m' := x_callI (as := [(t0, x0)]) hM k hg hg0 hlink hret hinit ht hx hinst rfl hrest hd
theorem cN1 {d : Nat} {f : FM} {pc : Nat} {ls st : List SV} {m m1 : Mem} {r1 r : SV ⊕ String} {m' : Mem} {t x t0 x0 : Int} {g : FM} (hM : ExM d g [(t, x), (t0, x0)] m r1 m1) (k : Cont9 (d + 1) f pc ls st r1 m1 r m') (hg : okG9 g 1) (hg0 : g.2.2.2.2 = []) {idx : Nat} {host : String} (hlink : Cond.methodLinkNest f.2.1.cls idx g.2.1 host ∈ NW9) (hret : g.2.2.2.1 = none) (hinit : g.2.1.name = "<init>") (ht : 10 ≤ t) (hx : 0 < x) (hinst : Cond.instanceMethod g.2.1 ∈ TS) (hrest : st.length ≤ 4) (hd : decode f.1 pc = .ok (.invokespecial idx, 3)) : Ex (d + 1) f pc ls ((t0, x0) :: (t, x) :: st) m r m' := x_callIN (as := [(t0, x0)]) hM k hg hg0 hlink hret hinit ht hx hinst rfl hrest hd
theorem cS1 {d : Nat} {f : FM} {pc : Nat} {ls st : List SV} {m m1 : Mem} {r1 r : SV ⊕ String} {m' : Mem} {t0 x0 : Int} {g : FM} (hM : ExM d g [(t0, x0)] m r1 m1) (k : Cont9 (d + 1) f pc ls st r1 m1 r m') (hg : okG9 g 1) (hg0 : g.2.2.2.2 = []) {idx : Nat} (hlink : Cond.methodLink f.2.1.cls idx g.2.1 ∈ TS) (hstat : Cond.static g.2.1 ∈ TS) (hrest : st.length ≤ 4) (hd : decode f.1 pc = .ok (.invokestatic idx, 3)) : Ex (d + 1) f pc ls ((t0, x0) :: st) m r m' := x_callS (as := [(t0, x0)]) hM k hg hg0 hlink hstat rfl hrest hd
theorem cW1 {d : Nat} {f : FM} {pc : Nat} {ls st : List SV} {m m1 : Mem} {r : SV ⊕ String} {m' : Mem} {t0 x0 : Int} {g : FM} {t9 v9 : Int} (hM : ExM d g [(t0, x0)] m (.inl (t9, v9)) m1) (h9 : t9 ≠ 3) (k : Ex (d + 1) f (pc + 3) ls ((t9, v9) :: st) m1 r m') (hg : okG9 g 1) (hg0 : g.2.2.2.2 ≠ []) {idx : Nat} (hlink : Cond.methodLink f.2.1.cls idx g.2.1 ∈ TS) (hstat : Cond.static g.2.1 ∈ TS) (hrest : st.length ≤ 4) (hd : decode f.1 pc = .ok (.invokestatic idx, 3)) : Ex (d + 1) f pc ls ((t0, x0) :: st) m r m' := x_callSW (as := [(t0, x0)]) hM (by unfold push9; rw [if_neg h9]; exact k) hg hg0 hlink hstat rfl hrest hd
theorem cV2 {d : Nat} {f : FM} {pc : Nat} {ls st : List SV} {m m1 : Mem} {r1 r : SV ⊕ String} {m' : Mem} {t x t0 x0 t1 x1 : Int} {g : FM} (hM : ExM d g [(t, x), (t0, x0), (t1, x1)] m r1 m1) (k : Cont9 (d + 1) f pc ls st r1 m1 r m') (hg : okG9 g 2) (hg0 : g.2.2.2.2 = []) {idx : Nat} (hlink : Cond.methodLink f.2.1.cls idx g.2.1 ∈ TS) {C : String} {T : u_T} {N : Nat} (c : Nat) (hc : vwCl[c]? = some (C, T, N)) (ht : t = 10 + (c : Int)) (hx : 0 < x) (hinst : Cond.instanceMethod g.2.1 ∈ TS) (hsel : Cond.selects C g.2.1 g.2.1 ∈ TS) (hrest : st.length ≤ 4) (hd : decode f.1 pc = .ok (.invokevirtual idx, 3)) : Ex (d + 1) f pc ls ((t1, x1) :: (t0, x0) :: (t, x) :: st) m r m' := x_callV (as := [(t0, x0), (t1, x1)]) hM k hg hg0 hlink c hc ht hx hinst hsel rfl hrest hd
theorem cI2 {d : Nat} {f : FM} {pc : Nat} {ls st : List SV} {m m1 : Mem} {r1 r : SV ⊕ String} {m' : Mem} {t x t0 x0 t1 x1 : Int} {g : FM} (hM : ExM d g [(t, x), (t0, x0), (t1, x1)] m r1 m1) (k : Cont9 (d + 1) f pc ls st r1 m1 r m') (hg : okG9 g 2) (hg0 : g.2.2.2.2 = []) {idx : Nat} (hlink : Cond.methodLink f.2.1.cls idx g.2.1 ∈ TS) (hret : g.2.2.2.1 = none) (hinit : g.2.1.name = "<init>") (ht : 10 ≤ t) (hx : 0 < x) (hinst : Cond.instanceMethod g.2.1 ∈ TS) (hrest : st.length ≤ 4) (hd : decode f.1 pc = .ok (.invokespecial idx, 3)) : Ex (d + 1) f pc ls ((t1, x1) :: (t0, x0) :: (t, x) :: st) m r m' := x_callI (as := [(t0, x0), (t1, x1)]) hM k hg hg0 hlink hret hinit ht hx hinst rfl hrest hd
theorem cN2 {d : Nat} {f : FM} {pc : Nat} {ls st : List SV} {m m1 : Mem} {r1 r : SV ⊕ String} {m' : Mem} {t x t0 x0 t1 x1 : Int} {g : FM} (hM : ExM d g [(t, x), (t0, x0), (t1, x1)] m r1 m1) (k : Cont9 (d + 1) f pc ls st r1 m1 r m') (hg : okG9 g 2) (hg0 : g.2.2.2.2 = []) {idx : Nat} {host : String} (hlink : Cond.methodLinkNest f.2.1.cls idx g.2.1 host ∈ NW9) (hret : g.2.2.2.1 = none) (hinit : g.2.1.name = "<init>") (ht : 10 ≤ t) (hx : 0 < x) (hinst : Cond.instanceMethod g.2.1 ∈ TS) (hrest : st.length ≤ 4) (hd : decode f.1 pc = .ok (.invokespecial idx, 3)) : Ex (d + 1) f pc ls ((t1, x1) :: (t0, x0) :: (t, x) :: st) m r m' := x_callIN (as := [(t0, x0), (t1, x1)]) hM k hg hg0 hlink hret hinit ht hx hinst rfl hrest hd
theorem cS2 {d : Nat} {f : FM} {pc : Nat} {ls st : List SV} {m m1 : Mem} {r1 r : SV ⊕ String} {m' : Mem} {t0 x0 t1 x1 : Int} {g : FM} (hM : ExM d g [(t0, x0), (t1, x1)] m r1 m1) (k : Cont9 (d + 1) f pc ls st r1 m1 r m') (hg : okG9 g 2) (hg0 : g.2.2.2.2 = []) {idx : Nat} (hlink : Cond.methodLink f.2.1.cls idx g.2.1 ∈ TS) (hstat : Cond.static g.2.1 ∈ TS) (hrest : st.length ≤ 4) (hd : decode f.1 pc = .ok (.invokestatic idx, 3)) : Ex (d + 1) f pc ls ((t1, x1) :: (t0, x0) :: st) m r m' := x_callS (as := [(t0, x0), (t1, x1)]) hM k hg hg0 hlink hstat rfl hrest hd
theorem cW2 {d : Nat} {f : FM} {pc : Nat} {ls st : List SV} {m m1 : Mem} {r : SV ⊕ String} {m' : Mem} {t0 x0 t1 x1 : Int} {g : FM} {t9 v9 : Int} (hM : ExM d g [(t0, x0), (t1, x1)] m (.inl (t9, v9)) m1) (h9 : t9 ≠ 3) (k : Ex (d + 1) f (pc + 3) ls ((t9, v9) :: st) m1 r m') (hg : okG9 g 2) (hg0 : g.2.2.2.2 ≠ []) {idx : Nat} (hlink : Cond.methodLink f.2.1.cls idx g.2.1 ∈ TS) (hstat : Cond.static g.2.1 ∈ TS) (hrest : st.length ≤ 4) (hd : decode f.1 pc = .ok (.invokestatic idx, 3)) : Ex (d + 1) f pc ls ((t1, x1) :: (t0, x0) :: st) m r m' := x_callSW (as := [(t0, x0), (t1, x1)]) hM (by unfold push9; rw [if_neg h9]; exact k) hg hg0 hlink hstat rfl hrest hd
theorem cV3 {d : Nat} {f : FM} {pc : Nat} {ls st : List SV} {m m1 : Mem} {r1 r : SV ⊕ String} {m' : Mem} {t x t0 x0 t1 x1 t2 x2 : Int} {g : FM} (hM : ExM d g [(t, x), (t0, x0), (t1, x1), (t2, x2)] m r1 m1) (k : Cont9 (d + 1) f pc ls st r1 m1 r m') (hg : okG9 g 3) (hg0 : g.2.2.2.2 = []) {idx : Nat} (hlink : Cond.methodLink f.2.1.cls idx g.2.1 ∈ TS) {C : String} {T : u_T} {N : Nat} (c : Nat) (hc : vwCl[c]? = some (C, T, N)) (ht : t = 10 + (c : Int)) (hx : 0 < x) (hinst : Cond.instanceMethod g.2.1 ∈ TS) (hsel : Cond.selects C g.2.1 g.2.1 ∈ TS) (hrest : st.length ≤ 4) (hd : decode f.1 pc = .ok (.invokevirtual idx, 3)) : Ex (d + 1) f pc ls ((t2, x2) :: (t1, x1) :: (t0, x0) :: (t, x) :: st) m r m' := x_callV (as := [(t0, x0), (t1, x1), (t2, x2)]) hM k hg hg0 hlink c hc ht hx hinst hsel rfl hrest hd
theorem cI3 {d : Nat} {f : FM} {pc : Nat} {ls st : List SV} {m m1 : Mem} {r1 r : SV ⊕ String} {m' : Mem} {t x t0 x0 t1 x1 t2 x2 : Int} {g : FM} (hM : ExM d g [(t, x), (t0, x0), (t1, x1), (t2, x2)] m r1 m1) (k : Cont9 (d + 1) f pc ls st r1 m1 r m') (hg : okG9 g 3) (hg0 : g.2.2.2.2 = []) {idx : Nat} (hlink : Cond.methodLink f.2.1.cls idx g.2.1 ∈ TS) (hret : g.2.2.2.1 = none) (hinit : g.2.1.name = "<init>") (ht : 10 ≤ t) (hx : 0 < x) (hinst : Cond.instanceMethod g.2.1 ∈ TS) (hrest : st.length ≤ 4) (hd : decode f.1 pc = .ok (.invokespecial idx, 3)) : Ex (d + 1) f pc ls ((t2, x2) :: (t1, x1) :: (t0, x0) :: (t, x) :: st) m r m' := x_callI (as := [(t0, x0), (t1, x1), (t2, x2)]) hM k hg hg0 hlink hret hinit ht hx hinst rfl hrest hd
theorem cN3 {d : Nat} {f : FM} {pc : Nat} {ls st : List SV} {m m1 : Mem} {r1 r : SV ⊕ String} {m' : Mem} {t x t0 x0 t1 x1 t2 x2 : Int} {g : FM} (hM : ExM d g [(t, x), (t0, x0), (t1, x1), (t2, x2)] m r1 m1) (k : Cont9 (d + 1) f pc ls st r1 m1 r m') (hg : okG9 g 3) (hg0 : g.2.2.2.2 = []) {idx : Nat} {host : String} (hlink : Cond.methodLinkNest f.2.1.cls idx g.2.1 host ∈ NW9) (hret : g.2.2.2.1 = none) (hinit : g.2.1.name = "<init>") (ht : 10 ≤ t) (hx : 0 < x) (hinst : Cond.instanceMethod g.2.1 ∈ TS) (hrest : st.length ≤ 4) (hd : decode f.1 pc = .ok (.invokespecial idx, 3)) : Ex (d + 1) f pc ls ((t2, x2) :: (t1, x1) :: (t0, x0) :: (t, x) :: st) m r m' := x_callIN (as := [(t0, x0), (t1, x1), (t2, x2)]) hM k hg hg0 hlink hret hinit ht hx hinst rfl hrest hd
theorem cS3 {d : Nat} {f : FM} {pc : Nat} {ls st : List SV} {m m1 : Mem} {r1 r : SV ⊕ String} {m' : Mem} {t0 x0 t1 x1 t2 x2 : Int} {g : FM} (hM : ExM d g [(t0, x0), (t1, x1), (t2, x2)] m r1 m1) (k : Cont9 (d + 1) f pc ls st r1 m1 r m') (hg : okG9 g 3) (hg0 : g.2.2.2.2 = []) {idx : Nat} (hlink : Cond.methodLink f.2.1.cls idx g.2.1 ∈ TS) (hstat : Cond.static g.2.1 ∈ TS) (hrest : st.length ≤ 4) (hd : decode f.1 pc = .ok (.invokestatic idx, 3)) : Ex (d + 1) f pc ls ((t2, x2) :: (t1, x1) :: (t0, x0) :: st) m r m' := x_callS (as := [(t0, x0), (t1, x1), (t2, x2)]) hM k hg hg0 hlink hstat rfl hrest hd
theorem cW3 {d : Nat} {f : FM} {pc : Nat} {ls st : List SV} {m m1 : Mem} {r : SV ⊕ String} {m' : Mem} {t0 x0 t1 x1 t2 x2 : Int} {g : FM} {t9 v9 : Int} (hM : ExM d g [(t0, x0), (t1, x1), (t2, x2)] m (.inl (t9, v9)) m1) (h9 : t9 ≠ 3) (k : Ex (d + 1) f (pc + 3) ls ((t9, v9) :: st) m1 r m') (hg : okG9 g 3) (hg0 : g.2.2.2.2 ≠ []) {idx : Nat} (hlink : Cond.methodLink f.2.1.cls idx g.2.1 ∈ TS) (hstat : Cond.static g.2.1 ∈ TS) (hrest : st.length ≤ 4) (hd : decode f.1 pc = .ok (.invokestatic idx, 3)) : Ex (d + 1) f pc ls ((t2, x2) :: (t1, x1) :: (t0, x0) :: st) m r m' := x_callSW (as := [(t0, x0), (t1, x1), (t2, x2)]) hM (by unfold push9; rw [if_neg h9]; exact k) hg hg0 hlink hstat rfl hrest hd
theorem cV4 {d : Nat} {f : FM} {pc : Nat} {ls st : List SV} {m m1 : Mem} {r1 r : SV ⊕ String} {m' : Mem} {t x t0 x0 t1 x1 t2 x2 t3 x3 : Int} {g : FM} (hM : ExM d g [(t, x), (t0, x0), (t1, x1), (t2, x2), (t3, x3)] m r1 m1) (k : Cont9 (d + 1) f pc ls st r1 m1 r m') (hg : okG9 g 4) (hg0 : g.2.2.2.2 = []) {idx : Nat} (hlink : Cond.methodLink f.2.1.cls idx g.2.1 ∈ TS) {C : String} {T : u_T} {N : Nat} (c : Nat) (hc : vwCl[c]? = some (C, T, N)) (ht : t = 10 + (c : Int)) (hx : 0 < x) (hinst : Cond.instanceMethod g.2.1 ∈ TS) (hsel : Cond.selects C g.2.1 g.2.1 ∈ TS) (hrest : st.length ≤ 4) (hd : decode f.1 pc = .ok (.invokevirtual idx, 3)) : Ex (d + 1) f pc ls ((t3, x3) :: (t2, x2) :: (t1, x1) :: (t0, x0) :: (t, x) :: st) m r m' := x_callV (as := [(t0, x0), (t1, x1), (t2, x2), (t3, x3)]) hM k hg hg0 hlink c hc ht hx hinst hsel rfl hrest hd
theorem cI4 {d : Nat} {f : FM} {pc : Nat} {ls st : List SV} {m m1 : Mem} {r1 r : SV ⊕ String} {m' : Mem} {t x t0 x0 t1 x1 t2 x2 t3 x3 : Int} {g : FM} (hM : ExM d g [(t, x), (t0, x0), (t1, x1), (t2, x2), (t3, x3)] m r1 m1) (k : Cont9 (d + 1) f pc ls st r1 m1 r m') (hg : okG9 g 4) (hg0 : g.2.2.2.2 = []) {idx : Nat} (hlink : Cond.methodLink f.2.1.cls idx g.2.1 ∈ TS) (hret : g.2.2.2.1 = none) (hinit : g.2.1.name = "<init>") (ht : 10 ≤ t) (hx : 0 < x) (hinst : Cond.instanceMethod g.2.1 ∈ TS) (hrest : st.length ≤ 4) (hd : decode f.1 pc = .ok (.invokespecial idx, 3)) : Ex (d + 1) f pc ls ((t3, x3) :: (t2, x2) :: (t1, x1) :: (t0, x0) :: (t, x) :: st) m r m' := x_callI (as := [(t0, x0), (t1, x1), (t2, x2), (t3, x3)]) hM k hg hg0 hlink hret hinit ht hx hinst rfl hrest hd
theorem cN4 {d : Nat} {f : FM} {pc : Nat} {ls st : List SV} {m m1 : Mem} {r1 r : SV ⊕ String} {m' : Mem} {t x t0 x0 t1 x1 t2 x2 t3 x3 : Int} {g : FM} (hM : ExM d g [(t, x), (t0, x0), (t1, x1), (t2, x2), (t3, x3)] m r1 m1) (k : Cont9 (d + 1) f pc ls st r1 m1 r m') (hg : okG9 g 4) (hg0 : g.2.2.2.2 = []) {idx : Nat} {host : String} (hlink : Cond.methodLinkNest f.2.1.cls idx g.2.1 host ∈ NW9) (hret : g.2.2.2.1 = none) (hinit : g.2.1.name = "<init>") (ht : 10 ≤ t) (hx : 0 < x) (hinst : Cond.instanceMethod g.2.1 ∈ TS) (hrest : st.length ≤ 4) (hd : decode f.1 pc = .ok (.invokespecial idx, 3)) : Ex (d + 1) f pc ls ((t3, x3) :: (t2, x2) :: (t1, x1) :: (t0, x0) :: (t, x) :: st) m r m' := x_callIN (as := [(t0, x0), (t1, x1), (t2, x2), (t3, x3)]) hM k hg hg0 hlink hret hinit ht hx hinst rfl hrest hd
theorem cS4 {d : Nat} {f : FM} {pc : Nat} {ls st : List SV} {m m1 : Mem} {r1 r : SV ⊕ String} {m' : Mem} {t0 x0 t1 x1 t2 x2 t3 x3 : Int} {g : FM} (hM : ExM d g [(t0, x0), (t1, x1), (t2, x2), (t3, x3)] m r1 m1) (k : Cont9 (d + 1) f pc ls st r1 m1 r m') (hg : okG9 g 4) (hg0 : g.2.2.2.2 = []) {idx : Nat} (hlink : Cond.methodLink f.2.1.cls idx g.2.1 ∈ TS) (hstat : Cond.static g.2.1 ∈ TS) (hrest : st.length ≤ 4) (hd : decode f.1 pc = .ok (.invokestatic idx, 3)) : Ex (d + 1) f pc ls ((t3, x3) :: (t2, x2) :: (t1, x1) :: (t0, x0) :: st) m r m' := x_callS (as := [(t0, x0), (t1, x1), (t2, x2), (t3, x3)]) hM k hg hg0 hlink hstat rfl hrest hd
theorem cW4 {d : Nat} {f : FM} {pc : Nat} {ls st : List SV} {m m1 : Mem} {r : SV ⊕ String} {m' : Mem} {t0 x0 t1 x1 t2 x2 t3 x3 : Int} {g : FM} {t9 v9 : Int} (hM : ExM d g [(t0, x0), (t1, x1), (t2, x2), (t3, x3)] m (.inl (t9, v9)) m1) (h9 : t9 ≠ 3) (k : Ex (d + 1) f (pc + 3) ls ((t9, v9) :: st) m1 r m') (hg : okG9 g 4) (hg0 : g.2.2.2.2 ≠ []) {idx : Nat} (hlink : Cond.methodLink f.2.1.cls idx g.2.1 ∈ TS) (hstat : Cond.static g.2.1 ∈ TS) (hrest : st.length ≤ 4) (hd : decode f.1 pc = .ok (.invokestatic idx, 3)) : Ex (d + 1) f pc ls ((t3, x3) :: (t2, x2) :: (t1, x1) :: (t0, x0) :: st) m r m' := x_callSW (as := [(t0, x0), (t1, x1), (t2, x2), (t3, x3)]) hM (by unfold push9; rw [if_neg h9]; exact k) hg hg0 hlink hstat rfl hrest hd
theorem cV5 {d : Nat} {f : FM} {pc : Nat} {ls st : List SV} {m m1 : Mem} {r1 r : SV ⊕ String} {m' : Mem} {t x t0 x0 t1 x1 t2 x2 t3 x3 t4 x4 : Int} {g : FM} (hM : ExM d g [(t, x), (t0, x0), (t1, x1), (t2, x2), (t3, x3), (t4, x4)] m r1 m1) (k : Cont9 (d + 1) f pc ls st r1 m1 r m') (hg : okG9 g 5) (hg0 : g.2.2.2.2 = []) {idx : Nat} (hlink : Cond.methodLink f.2.1.cls idx g.2.1 ∈ TS) {C : String} {T : u_T} {N : Nat} (c : Nat) (hc : vwCl[c]? = some (C, T, N)) (ht : t = 10 + (c : Int)) (hx : 0 < x) (hinst : Cond.instanceMethod g.2.1 ∈ TS) (hsel : Cond.selects C g.2.1 g.2.1 ∈ TS) (hrest : st.length ≤ 4) (hd : decode f.1 pc = .ok (.invokevirtual idx, 3)) : Ex (d + 1) f pc ls ((t4, x4) :: (t3, x3) :: (t2, x2) :: (t1, x1) :: (t0, x0) :: (t, x) :: st) m r m' := x_callV (as := [(t0, x0), (t1, x1), (t2, x2), (t3, x3), (t4, x4)]) hM k hg hg0 hlink c hc ht hx hinst hsel rfl hrest hd
theorem cS5 {d : Nat} {f : FM} {pc : Nat} {ls st : List SV} {m m1 : Mem} {r1 r : SV ⊕ String} {m' : Mem} {t0 x0 t1 x1 t2 x2 t3 x3 t4 x4 : Int} {g : FM} (hM : ExM d g [(t0, x0), (t1, x1), (t2, x2), (t3, x3), (t4, x4)] m r1 m1) (k : Cont9 (d + 1) f pc ls st r1 m1 r m') (hg : okG9 g 5) (hg0 : g.2.2.2.2 = []) {idx : Nat} (hlink : Cond.methodLink f.2.1.cls idx g.2.1 ∈ TS) (hstat : Cond.static g.2.1 ∈ TS) (hrest : st.length ≤ 4) (hd : decode f.1 pc = .ok (.invokestatic idx, 3)) : Ex (d + 1) f pc ls ((t4, x4) :: (t3, x3) :: (t2, x2) :: (t1, x1) :: (t0, x0) :: st) m r m' := x_callS (as := [(t0, x0), (t1, x1), (t2, x2), (t3, x3), (t4, x4)]) hM k hg hg0 hlink hstat rfl hrest hd
theorem cW5 {d : Nat} {f : FM} {pc : Nat} {ls st : List SV} {m m1 : Mem} {r : SV ⊕ String} {m' : Mem} {t0 x0 t1 x1 t2 x2 t3 x3 t4 x4 : Int} {g : FM} {t9 v9 : Int} (hM : ExM d g [(t0, x0), (t1, x1), (t2, x2), (t3, x3), (t4, x4)] m (.inl (t9, v9)) m1) (h9 : t9 ≠ 3) (k : Ex (d + 1) f (pc + 3) ls ((t9, v9) :: st) m1 r m') (hg : okG9 g 5) (hg0 : g.2.2.2.2 ≠ []) {idx : Nat} (hlink : Cond.methodLink f.2.1.cls idx g.2.1 ∈ TS) (hstat : Cond.static g.2.1 ∈ TS) (hrest : st.length ≤ 4) (hd : decode f.1 pc = .ok (.invokestatic idx, 3)) : Ex (d + 1) f pc ls ((t4, x4) :: (t3, x3) :: (t2, x2) :: (t1, x1) :: (t0, x0) :: st) m r m' := x_callSW (as := [(t0, x0), (t1, x1), (t2, x2), (t3, x3), (t4, x4)]) hM (by unfold push9; rw [if_neg h9]; exact k) hg hg0 hlink hstat rfl hrest hd
theorem cV6 {d : Nat} {f : FM} {pc : Nat} {ls st : List SV} {m m1 : Mem} {r1 r : SV ⊕ String} {m' : Mem} {t x t0 x0 t1 x1 t2 x2 t3 x3 t4 x4 t5 x5 : Int} {g : FM} (hM : ExM d g [(t, x), (t0, x0), (t1, x1), (t2, x2), (t3, x3), (t4, x4), (t5, x5)] m r1 m1) (k : Cont9 (d + 1) f pc ls st r1 m1 r m') (hg : okG9 g 6) (hg0 : g.2.2.2.2 = []) {idx : Nat} (hlink : Cond.methodLink f.2.1.cls idx g.2.1 ∈ TS) {C : String} {T : u_T} {N : Nat} (c : Nat) (hc : vwCl[c]? = some (C, T, N)) (ht : t = 10 + (c : Int)) (hx : 0 < x) (hinst : Cond.instanceMethod g.2.1 ∈ TS) (hsel : Cond.selects C g.2.1 g.2.1 ∈ TS) (hrest : st.length ≤ 4) (hd : decode f.1 pc = .ok (.invokevirtual idx, 3)) : Ex (d + 1) f pc ls ((t5, x5) :: (t4, x4) :: (t3, x3) :: (t2, x2) :: (t1, x1) :: (t0, x0) :: (t, x) :: st) m r m' := x_callV (as := [(t0, x0), (t1, x1), (t2, x2), (t3, x3), (t4, x4), (t5, x5)]) hM k hg hg0 hlink c hc ht hx hinst hsel rfl hrest hd
theorem cS6 {d : Nat} {f : FM} {pc : Nat} {ls st : List SV} {m m1 : Mem} {r1 r : SV ⊕ String} {m' : Mem} {t0 x0 t1 x1 t2 x2 t3 x3 t4 x4 t5 x5 : Int} {g : FM} (hM : ExM d g [(t0, x0), (t1, x1), (t2, x2), (t3, x3), (t4, x4), (t5, x5)] m r1 m1) (k : Cont9 (d + 1) f pc ls st r1 m1 r m') (hg : okG9 g 6) (hg0 : g.2.2.2.2 = []) {idx : Nat} (hlink : Cond.methodLink f.2.1.cls idx g.2.1 ∈ TS) (hstat : Cond.static g.2.1 ∈ TS) (hrest : st.length ≤ 4) (hd : decode f.1 pc = .ok (.invokestatic idx, 3)) : Ex (d + 1) f pc ls ((t5, x5) :: (t4, x4) :: (t3, x3) :: (t2, x2) :: (t1, x1) :: (t0, x0) :: st) m r m' := x_callS (as := [(t0, x0), (t1, x1), (t2, x2), (t3, x3), (t4, x4), (t5, x5)]) hM k hg hg0 hlink hstat rfl hrest hd
theorem cW6 {d : Nat} {f : FM} {pc : Nat} {ls st : List SV} {m m1 : Mem} {r : SV ⊕ String} {m' : Mem} {t0 x0 t1 x1 t2 x2 t3 x3 t4 x4 t5 x5 : Int} {g : FM} {t9 v9 : Int} (hM : ExM d g [(t0, x0), (t1, x1), (t2, x2), (t3, x3), (t4, x4), (t5, x5)] m (.inl (t9, v9)) m1) (h9 : t9 ≠ 3) (k : Ex (d + 1) f (pc + 3) ls ((t9, v9) :: st) m1 r m') (hg : okG9 g 6) (hg0 : g.2.2.2.2 ≠ []) {idx : Nat} (hlink : Cond.methodLink f.2.1.cls idx g.2.1 ∈ TS) (hstat : Cond.static g.2.1 ∈ TS) (hrest : st.length ≤ 4) (hd : decode f.1 pc = .ok (.invokestatic idx, 3)) : Ex (d + 1) f pc ls ((t5, x5) :: (t4, x4) :: (t3, x3) :: (t2, x2) :: (t1, x1) :: (t0, x0) :: st) m r m' := x_callSW (as := [(t0, x0), (t1, x1), (t2, x2), (t3, x3), (t4, x4), (t5, x5)]) hM (by unfold push9; rw [if_neg h9]; exact k) hg hg0 hlink hstat rfl hrest hd
noncomputable def fuel9 : Nat := Classical.choose (⟨100000, Nat.le_refl _⟩ : ∃ n : Nat, 100000 ≤ n)
theorem fuel9_ge : 100000 ≤ fuel9 := Classical.choose_spec (⟨100000, Nat.le_refl _⟩ : ∃ n : Nat, 100000 ≤ n)
