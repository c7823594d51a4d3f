/-! what becomes of all that a run has begun: both ways -/
section EU
variable {N N' : Int} {uf : Int → Int} {r r' z r0 r1 r2 : Rst} {m m' m0 m1 : Mem} {w n k x y q s b c a v row I o t l u f W E M p nu pa L R F : Int} {A A' T T' S S' C C' X X' Y Y' P : Int → Prop}
theorem rc_one (gb : GI N r) (w0 : 0 ≤ w) (wf : w ≤ f) (f1 : f < r 16 0) (hf : f = w ∨ Stw r w f) (fX : ¬ X f) (pX : ∀ p, X p → p = w ∨ S p) (hX : ∀ p, X p → p ≤ f ∨ S p) (pS : ∀ c, S c → Stw r w c) (pC : ∀ c, C c → ∃ p, X p ∧ DsC r p c) (e : Eff (acts r X) (tims r X) S C r r1) (sk : SK r r1 (fun p => X p ∨ p = f) S) : ∃ (S' C' : Int → Prop) (r2 : Rst), G_closesOne f r1 = some (0, r2) ∧ Eff (acts r (fun p => X p ∨ p = f)) (tims r (fun p => X p ∨ p = f)) S' C' r r2 ∧ SK r r2 (fun p => X p ∨ p = f) S' ∧ RgQ r w f (fun p => X p ∨ p = f) S C S' C' (r 32 f) ∧ r2 82 0 + 2 * rcnt r r2 ≤ r1 82 0 + 2 * rcnt r r1 := by
  have f9 := fuel9_ge
  have g := gb.rg
  have b10 := g.1
  have gc := gb.2.2.2.2.2.2.1
  have f0 : 0 ≤ f := by omega
  have lt := gb.lt f0 f1
  obtain ⟨ra, a1, a2, a3⟩ := rg_acts (k26 := G_closesOne_26 (G_closesOne_56 fuel9) fuel9) f0 (by omega) (by omega) (r 22 f).toNat 0 fuel9 _ r1 (by omega) (by omega) (by omega) e
  obtain ⟨rb, b1, b2, b3⟩ := rg_tims (k56 := G_closesOne_56 fuel9) f0 (by omega) (by omega) (r 30 f).toNat 0 fuel9 _ ra (by omega) (by omega) (by omega) a2
  have e0 : Eff (acts r (fun p => X p ∨ p = f)) (tims r (fun p => X p ∨ p = f)) S C r rb := b2.congr (fun i => by rw [acts_or.1, acts_one.1]) (fun i => by rw [acts_or.2, acts_one.2]) (fun _ => Iff.rfl) (fun _ => Iff.rfl)
  obtain ⟨sk2, rc2⟩ := sk.fr (r2 := rb) (fun j hj => by rw [b3 j (by omega), a3 j (by omega) (by omega)])
  obtain ⟨S', C', r2, k1, k2, k3, k4, k5⟩ := rc_56 (P := fun p => X p ∨ p = f) (S := S) (C := C) gb w0 wf f1 hf (Or.inr rfl) (fun p hp => by
    rcases hp with hp | hp
    · exact hX p hp
    · exact Or.inl (by omega)) (fun p hp => by
    rcases hp with hp | hp
    · rcases pX p hp with h | h
      · exact Or.inl h
      · exact Or.inr (Or.inr h)
    · exact Or.inr (Or.inl hp)) (r 32 f).toNat 0 fuel9 S C rb (by omega) (by omega) (by omega) ⟨⟨fun _ h => h, fun _ h => h⟩, pS, ⟨fun c hc => by
      obtain ⟨p, p1, p2⟩ := pC c hc
      exact ⟨p, Or.inl p1, p2⟩, fun c hc ec => by
      obtain ⟨p, p1, p2⟩ := pC c hc
      have := p2.1.2.2.1
      exact absurd (show X f by rw [← ec, this]; exact p1) fX⟩, fun c d l => by
      have k := (gc.2 c d.1.1 d.1.2.1).resolve_left (by have := d.1.2.2.1; omega)
      have k4 := k.2.2.2 (by rw [d.1.2.2.1]; exact d.1.2.2.2.1)
      omega, fun c d l => by
      have k := (gc.2 c d.1.1 d.1.2.1).resolve_left (by have := d.1.2.2.1; omega)
      have k4 := k.2.2.2 (by rw [d.1.2.2.1]; exact d.1.2.2.2.1)
      omega⟩ e0 sk2
  have e82 : rb 82 = r1 82 := by rw [b3 82 (by omega), a3 82 (by omega) (by omega)]
  have e17 : rcnt r rb = rcnt r r1 := by
    unfold rcnt
    rw [b3 17 (by omega), a3 17 (by omega) (by omega)]
  refine ⟨S', C', r2, ?_, k2, k3, k4, by rw [e82, e17] at k5; exact k5⟩
  unfold G_closesOne G_closesOne_0
  rw [a1, b1, k1]
/-- all is done -/
def FinS (r : Rst) (w : Int) (X S C : Int → Prop) : Prop := (∀ p, X p → p = w ∨ S p) ∧ (∀ c, S c → Stw r w c) ∧ (∀ c, C c → ∃ p, X p ∧ DsC r p c) ∧ X w ∧ (∀ c, S c → X c) ∧ ∀ p, X p → (∀ c, DsS r p c → S c) ∧ ∀ c, DsC r p c → C c
theorem FinS.sets (h : FinS r w X S C) : (∀ c, S c ↔ Stw r w c) ∧ (∀ c, X c ↔ c = w ∨ Stw r w c) ∧ ∀ c, C c ↔ ∃ p, (p = w ∨ Stw r w p) ∧ DsC r p c := by
  obtain ⟨h1, h2, h3, h4, h5, h6⟩ := h
  have hs : ∀ c, S c ↔ Stw r w c := fun c => ⟨h2 c, fun hc => hc S (fun d hd => (h6 w h4).1 d hd) fun p d hp hd => (h6 p (h5 p hp)).1 d hd⟩
  have hx : ∀ c, X c ↔ c = w ∨ Stw r w c := fun c => ⟨fun hc => (h1 c hc).imp id (hs c).1, fun hc => by
    rcases hc with hc | hc
    · rw [hc]; exact h4
    · exact h5 c ((hs c).2 hc)⟩
  refine ⟨hs, hx, fun c => ⟨fun hc => ?_, fun ⟨p, p1, p2⟩ => (h6 p ((hx p).2 p1)).2 c p2⟩⟩
  obtain ⟨p, p1, p2⟩ := h3 c hc
  exact ⟨p, (hx p).1 p1, p2⟩
theorem rc_25 (gb : GI N r) (w0 : 0 ≤ w) : ∀ (mu t : Nat) (X S C : Int → Prop) (r1 : Rst), r1 82 0 + 2 * rcnt r r1 ≤ mu → mu < t → X w → (∀ p, X p → p = w ∨ S p) → (∀ c, S c → Stw r w c) → (∀ c, C c → ∃ p, X p ∧ DsC r p c) → (∀ p, X p → (∀ c, DsS r p c → S c) ∧ ∀ c, DsC r p c → C c) → Eff (acts r X) (tims r X) S C r r1 → SK r r1 X S → ∃ (X' S' C' : Int → Prop) (r2 : Rst), G_closes_25 t r1 = some (0, r2) ∧ Eff (acts r X') (tims r X') S' C' r r2 ∧ FinS r w X' S' C' := by
  have g := gb.rg
  have b10 := g.1
  have gc := gb.2.2.2.2.2.2.1
  intro mu
  induction mu with
  | zero =>
    intro t X S C r1 hm ht Xw pX pS pC cl e sk
    obtain ⟨t, rfl⟩ : ∃ k, t = k + 1 := ⟨t - 1, by omega⟩
    have cr : 0 ≤ rcnt r r1 := cntP_0 (p := fun x => decide (x = 20)) (f := fun c => r1 17 (rw9 r c)) (n := (r 16 0).toNat)
    refine ⟨X, S, C, r1, ?_, e, pX, pS, pC, Xw, fun c hc => ?_, cl⟩
    · rw [G_closes_25, if_t (by omega)]
    · rcases sk.2.2.2.1 c hc with h | ⟨i, i0, i1, _⟩
      · exact h
      · omega
  | succ mu ih =>
    intro t X S C r1 hm ht Xw pX pS pC cl e sk
    obtain ⟨t, rfl⟩ : ∃ k, t = k + 1 := ⟨t - 1, by omega⟩
    have cr : 0 ≤ rcnt r r1 := cntP_0 (p := fun x => decide (x = 20)) (f := fun c => r1 17 (rw9 r c)) (n := (r 16 0).toNat)
    by_cases c82 : r1 82 0 ≤ 0
    · refine ⟨X, S, C, r1, ?_, e, pX, pS, pC, Xw, fun c hc => ?_, cl⟩
      · rw [G_closes_25, if_t c82]
      · rcases sk.2.2.2.1 c hc with h | ⟨i, i0, i1, _⟩
        · exact h
        · omega
    · obtain ⟨k1, k2, k3, k4, k5⟩ := sk
      obtain ⟨ra, hra⟩ : ∃ ra, ra = ur r1 82 0 (r1 82 0 - 1) := ⟨_, rfl⟩
      have aj : ∀ j : Nat, j ≠ 82 → ra j = r1 j := fun j hj => by rw [hra, ur_ne hj]
      have a82 : ra 82 0 = r1 82 0 - 1 := by rw [hra, ur_e rfl rfl]
      obtain ⟨f, hf⟩ : ∃ f, f = r1 81 (r1 82 0 - 1) := ⟨_, rfl⟩
      have kf := k2 (r1 82 0 - 1) (by omega) (by omega)
      rw [← hf] at kf
      have sf := pS f kf.1
      obtain ⟨p, d, wp⟩ := sf.is gc
      have fp : w < f := by
        have := (gc.2 f d.1.1 d.1.2.1).resolve_left (by have := d.1.2.2.1; omega)
        have := d.1.2.2.1
        omega
      have erc : rcnt r ra = rcnt r r1 := by
        unfold rcnt
        rw [aj 17 (by omega)]
      have sk2 : SK r ra (fun p => X p ∨ p = f) S := by
        refine ⟨by omega, fun i i0 i1 => ?_, fun i j i0 ij j1 => ?_, fun c hc => ?_, by omega⟩
        · rw [a82] at i1
          rw [aj 81 (by omega)]
          have := k2 i i0 (by omega)
          refine ⟨this.1, fun hh => ?_⟩
          rcases hh with hh | hh
          · exact this.2 hh
          · exact k3 i (r1 82 0 - 1) i0 (by omega) (by omega) (by rw [hh, hf])
        · rw [a82] at j1
          rw [aj 81 (by omega)]
          exact k3 i j i0 ij (by omega)
        · rw [a82, aj 81 (by omega)]
          rcases k4 c hc with h | ⟨i, i0, i1, i2⟩
          · exact Or.inl (Or.inl h)
          · by_cases ie : i = r1 82 0 - 1
            · exact Or.inl (Or.inr (by rw [← i2, ie, hf]))
            · exact Or.inr ⟨i, i0, by omega, i2⟩
      obtain ⟨S', C', r2, y1, y2, y3, y4, y5⟩ := rc_one (X := X) gb w0 (by omega) d.1.2.1 (Or.inr sf) kf.2 pX (fun p hp => by
        rcases pX p hp with h | h
        · exact Or.inl (by omega)
        · exact Or.inr h) pS pC (e.st fun j a b => aj j b) sk2
      obtain ⟨q1, q2, q3, q4, q5⟩ := y4
      have chn : ∀ c, Lv r f c → r 11 c < r 32 f := fun c lv => by
        have k := (gc.2 c lv.1 lv.2.1).resolve_left (by have := lv.2.2.1; omega)
        have k4 := k.2.2.2 (by rw [lv.2.2.1]; exact lv.2.2.2.1)
        rw [lv.2.2.1] at k4
        exact k4.2.1
      obtain ⟨X3, S3, C3, r3, z1, z2, z3⟩ := ih t (fun p => X p ∨ p = f) S' C' r2 (by omega) (by omega) (Or.inl Xw) (fun p hp => by
        rcases hp with hp | hp
        · rcases pX p hp with h | h
          · exact Or.inl h
          · exact Or.inr (q1.1 p h)
        · rw [hp]; exact Or.inr (q1.1 f kf.1)) q2 q3.1 (fun p hp => by
        rcases hp with hp | hp
        · exact ⟨fun c hc => q1.1 c ((cl p hp).1 c hc), fun c hc => q1.2 c ((cl p hp).2 c hc)⟩
        · rw [hp]
          exact ⟨fun c hc => q4 c hc (chn c hc.1), fun c hc => q5 c hc (chn c hc.1)⟩) y2 y3
      refine ⟨X3, S3, C3, r3, ?_, z2, z3⟩
      rw [G_closes_25, if_f c82, chk_t (by omega), stg_e, ← hra, a82, aj 81 (by omega), ← hf, chk_t (by omega), y1, cag_e, z1]
theorem g_closes (gb : GI N r) (w0 : 0 ≤ w) (w1 : w < r 16 0) : ∃ (X S C : Int → Prop) (r2 : Rst), G_closes w r = some (0, r2) ∧ Eff (acts r X) (tims r X) S C r r2 ∧ FinS r w X S C := by
  have f9 := fuel9_ge
  have g := gb.rg
  have b10 := g.1
  have gc := gb.2.2.2.2.2.2.1
  have cr : 0 ≤ rcnt r r := cntP_0 (p := fun x => decide (x = 20)) (f := fun c => r 17 (rw9 r c)) (n := (r 16 0).toNat)
  have cr2 : rcnt r r ≤ (r 16 0).toNat := cntP_le (p := fun x => decide (x = 20)) (f := fun c => r 17 (rw9 r c)) (n := (r 16 0).toNat)
  obtain ⟨ra, hra⟩ : ∃ ra, ra = ur (ur (ur (ur r 82 0 0) 81 0 w) 82 0 (0 + 1)) 82 0 (0 + 1 - 1) := ⟨_, rfl⟩
  have aj : ∀ j : Nat, j ≠ 81 → j ≠ 82 → ra j = r j := fun j a b => by rw [hra, ur_ne b, ur_ne b, ur_ne a, ur_ne b]
  have a82 : ra 82 0 = 0 := by rw [hra, ur_e rfl rfl]; omega
  have a81 : ra 81 0 = w := by rw [hra]; simp (disch := omega) only [ur_n, ur_e]
  have ac : ∀ i, False ↔ acts r (fun _ => False) i := fun i => ⟨fun h => h.elim, fun ⟨_, h, _⟩ => h⟩
  have ti : ∀ i, False ↔ tims r (fun _ => False) i := fun i => ⟨fun h => h.elim, fun ⟨_, h, _⟩ => h⟩
  have e0 : Eff (acts r fun _ => False) (tims r fun _ => False) (fun _ => False) (fun _ => False) r ra := ((Eff.refl (r := r)).st aj).congr ac ti (fun _ => Iff.rfl) (fun _ => Iff.rfl)
  have erc : rcnt r ra = rcnt r r := by
    unfold rcnt
    rw [aj 17 (by omega) (by omega)]
  obtain ⟨S', C', r2, y1, y2, y3, y4, y5⟩ := rc_one (X := fun _ => False) (S := fun _ => False) (C := fun _ => False) (f := w) gb w0 (Int.le_refl _) w1 (Or.inl rfl) (fun h => h) (fun _ h => h.elim) (fun _ h => h.elim) (fun _ h => h.elim) (fun _ h => h.elim) e0 ⟨by omega, fun i i0 i1 => by omega, fun i j i0 ij j1 => by omega, fun _ h => h.elim, by omega⟩
  obtain ⟨q1, q2, q3, q4, q5⟩ := y4
  have chn : ∀ c, Lv r w c → r 11 c < r 32 w := fun c lv => by
    have k := (gc.2 c lv.1 lv.2.1).resolve_left (by have := lv.2.2.1; omega)
    have k4 := k.2.2.2 (by rw [lv.2.2.1]; exact lv.2.2.2.1)
    rw [lv.2.2.1] at k4
    exact k4.2.1
  have ex : (fun p => False ∨ p = w) = fun p => p = w := funext fun p => propext ⟨fun h => h.resolve_left fun h => h, fun h => Or.inr h⟩
  rw [ex] at y2 y3 q3
  obtain ⟨t9, h9⟩ : ∃ t9, fuel9 = t9 + 1 := ⟨fuel9 - 1, by omega⟩
  obtain ⟨X3, S3, C3, r3, z1, z2, z3⟩ := rc_25 gb w0 20 t9 (fun p => p = w) S' C' r2 (by omega) (by omega) rfl (fun p hp => Or.inl hp) q2 q3.1 (fun p hp => by
    rw [hp]
    exact ⟨fun c hc => q4 c hc (chn c hc.1), fun c hc => q5 c hc (chn c hc.1)⟩) y2 y3
  refine ⟨X3, S3, C3, r3, ?_, z2, z3⟩
  have v0 : ur r 82 0 0 82 0 = 0 := ur_e rfl rfl
  have v1 : ur (ur r 82 0 0) 81 0 w 82 0 = 0 := by rw [ur_n (by omega), v0]
  have v2 : ur (ur (ur r 82 0 0) 81 0 w) 82 0 (0 + 1) 82 0 = 0 + 1 := ur_e rfl rfl
  unfold G_closes G_closes_0
  rw [stg_e, v0, chk_t (by omega), stg_e, v1, chk_t (by omega), stg_e, h9, G_closes_25, v2, if_f (by omega), chk_t (by omega), stg_e, ← hra, a82, a81, chk_t (by omega), y1, cag_e, z1]
/-- both sides let go of all that a run has begun -/
theorem both_closes (h : RelK N uf r m) (w0 : 0 ≤ w) (w1 : w < r 16 0) : ∃ (r2 : Rst) (m2 : Mem), X11_letGo 20 1 (100000 * (w + 1)) 0 m = some (0, m2) ∧ G_closes w r = some (0, r2) ∧ RelK N uf r2 m2 ∧ (∀ i, i < 1000 → m2 i = m i) ∧ (∀ j : Nat, ¬ (j = 15 ∨ (17 ≤ j ∧ j ≤ 21) ∨ j = 23 ∨ j = 31 ∨ j = 39 ∨ j = 81 ∨ j = 82) → r2 j = r j) ∧ (GT r → GT r2) ∧ (∀ n, 0 ≤ n → n < r 22 w → r2 23 (80 * w + n) = 0) ∧ ∀ c, 0 ≤ c → c ≤ w → r2 17 (rw9 r c) = r 17 (rw9 r c) ∧ ∀ j i, HO r c j i → r2 j i = r j i := by
  have gb := h.2.2
  have g := gb.rg
  have gc := gb.2.2.2.2.2.2.1
  obtain ⟨X, S, C, r2, y1, y2, y3⟩ := g_closes gb w0 w1
  have ac : ∀ i, False ↔ acts r (fun _ => False) i := fun i => ⟨fun h => h.elim, fun ⟨_, h, _⟩ => h⟩
  have ti : ∀ i, False ↔ tims r (fun _ => False) i := fun i => ⟨fun h => h.elim, fun ⟨_, h, _⟩ => h⟩
  have b10 := g.1
  obtain ⟨Y, S', C', r3, m2, z1, z2, z3, z4, z5⟩ := x_letGo gb w0 20 w 0 (fun _ => False) (fun _ => False) (fun _ => False) r m (by omega) (by omega) w0 (Int.le_refl _) w1 (Or.inl rfl) (fun h => h) (fun _ h => h.elim) (fun _ h => h.elim) (fun _ h => h.elim) h ((Eff.refl (r := r)).congr ac ti (fun _ => Iff.rfl) (fun _ => Iff.rfl))
  rw [show (fun p => False ∨ Y p) = Y from funext fun p => propext ⟨fun h => h.resolve_left fun h => h, fun h => Or.inr h⟩] at z3
  obtain ⟨l1, l2, l3, l4, l5⟩ := z5
  have fY : FinS r w Y S' C' := ⟨l1.2.1, l3.2, fun c hc => (l4 c hc).resolve_left fun h => h, l1.1, fun c hc => (l3.1 c hc).resolve_left fun h => h, l5⟩
  obtain ⟨s1, s2, s3⟩ := FinS.sets y3
  obtain ⟨t1, t2, t3⟩ := FinS.sets fY
  have e3 : Eff (acts r X) (tims r X) S C r r3 := by
    have ex : X = Y := funext fun c => propext ((s2 c).trans (t2 c).symm)
    have es : S = S' := funext fun c => propext ((s1 c).trans (t1 c).symm)
    have ec : C = C' := funext fun c => propext ((s3 c).trans (t3 c).symm)
    rw [ex, es, ec]; exact z3
  have eq := y2.uniq e3
  have up : ∀ c, Stw r w c → w < c := fun c hc => by
    obtain ⟨p, d, wp⟩ := hc.is gc
    have := (gc.2 c d.1.1 d.1.2.1).resolve_left (by have := d.1.2.2.1; omega)
    have := d.1.2.2.1
    omega
  refine ⟨r2, m2, z1, y1, ?_, z4, y2.1, y2.gt, fun n a b => (y2.2.1 _).1 ⟨w, y3.2.2.2.1, by omega, by omega⟩, fun c c0 c1 => ?_⟩
  · refine z2.mk (z2.1.fr z2.2.2.rg z2.1.2.1 (fun _ _ => rfl) fun j a b => eq j (by omega) (by omega)) (z2.2.2.fr fun j hj => eq j (by omega) (by omega)) (fun _ _ _ => ⟨rfl, rfl⟩) fun j hj => eq j (by omega) (by omega)
  · have sc := g.2.2 c c0 (by omega)
    refine ⟨y2.2.2.2.2.2.1.2 _ fun c2 hc2 hr => ?_, fun j i hj => y2.2.2.2.2.2.2.2 j i (by unfold HO at hj; omega) (by unfold HO at hj; omega) fun c2 hc2 hb => ?_⟩
    · have st := (s1 c2).1 hc2
      obtain ⟨p, d, _⟩ := st.is gc
      have s2' := g.2.2 c2 d.1.1 d.1.2.1
      have := rw_inj ⟨sc.1, sc.2.1⟩ ⟨s2'.1, s2'.2.1⟩ hr
      have := up c2 st
      omega
    · obtain ⟨p, hp, d⟩ := (s3 c2).1 hc2
      have s2' := g.2.2 c2 d.1.1 d.1.2.1
      have := ho_inj ⟨sc.1, sc.2.1⟩ ⟨s2'.1, s2'.2.1⟩ hj hb
      have k := (gc.2 c2 d.1.1 d.1.2.1).resolve_left (by
        have := d.1.2.2.1
        rcases hp with hp | hp
        · omega
        · have := up p hp
          omega)
      have := d.1.2.2.1
      rcases hp with hp | hp
      · omega
      · have := up p hp
        omega
end EU
