/-! the reference's play within its rows: a whole event, a part of the history, a play -/
theorem ok_takes117 {D T U S : Int} {r : Rst} (hb : Bz D T U S r) (hx : r 42 0 = 0 ∧ (0 < r 55 0 → Bh r) ∧ (r 55 0 = 0 → Md r) ∨ r 42 0 ≠ 0 ∧ r 55 0 = 0 ∧ Md r) (hp : r 44 0 = 0) (g : PgR r) (p : Pt r) (hD : D + 65 ≤ 5200) (hU : U + 61 ≤ 5200) (hT : T ≤ 60000) (hS : S ≤ 80) : Ok2 (G_takes_117 r) r fun _ r' => (r' = r ∧ r 42 0 ≠ 0 ∨ r 42 0 = 0 ∧ Bd (D + 65) (T + 245) (U + 61) S r') ∧ (r' 42 0 = 0 → 0 < r' 55 0) := by
  have hw := hb.2.2.2.2.2.2.2.2.2.1
  unfold G_takes_117 G_takes_142
  have h44 := hp
  refine Ok2.ite (fun m0 => ?_) fun m0 => ?_
  · have hx2 : (0 < r 55 0 → Bh r) ∧ (r 55 0 = 0 → Md r) := by
      rcases hx with h | h
      · exact h.2
      · exact absurd m0 h.1
    refine Ok2.ite (fun c => ?_) fun c => ?_
    · exact Ok2.cag (ok_goesOn ⟨hb, hx2.2 (by omega)⟩ hp g p (by omega) hU (by omega) hS) fun v r' _ _ hp => Ok2.ret ⟨Or.inr ⟨m0, hp.1.mono (by omega) (by omega) (by omega) (by omega)⟩, hp.2⟩
    · refine okcag2 (ok_areDone hb) fun v r' _ _ hv => ?_
      obtain ⟨rfl, hv0, hv⟩ := hv
      refine Ok2.ite (fun _ => ?_) fun _ => ?_
      · have hm : Md r' := by
          have := hx2.1 (by omega)
          unfold Bh at this
          unfold Md
          omega
        exact Ok2.cag (ok_goesOn ⟨hb, hm⟩ hp g p (by omega) hU (by omega) hS) fun v r' _ _ hp => Ok2.ret ⟨Or.inr ⟨m0, hp.1.mono (by omega) (by omega) (by omega) (by omega)⟩, hp.2⟩
      · refine okcag2 (ok_finishes hb m0 (hx2.1 (by omega)) (by omega) (by omega) (by omega)) fun v r2 hsp _ hp2 => ?_
        refine Ok2.cag (ok_goesOn hp2.1 (by rw [hsp 44 (by omega)]; exact hp) (g.same hsp) (p.same hsp) (by omega) (by omega) (by omega) hS) fun v r' _ _ hp => Ok2.ret ⟨Or.inr ⟨m0, hp.1.mono (by omega) (by omega) (by omega) (by omega)⟩, hp.2⟩
  · unfold G_goesOn
    obtain ⟨k, hk⟩ : ∃ k, fuel9 = k + 1 := ⟨fuel9 - 1, by have := fuel9_ge; omega⟩
    rw [hk, go_stop (Or.inl m0), cag_e]
    exact Ok2.ret ⟨Or.inl ⟨rfl, m0⟩, fun h => absurd h m0⟩
/-- what a place of the play is like between events -/
def Rest (D T U S : Int) (r : Rst) : Prop := Bd D T U S r ∧ (r 42 0 = 0 → 0 < r 55 0 → Bh r)
theorem Bd.bh {D T U S : Int} {r : Rst} (h : Bd D T U S r) : r 42 0 = 0 → 0 < r 55 0 → Bh r := fun a b => h.2.2.2.1 a b
theorem Bd.tk {D T U S : Int} {r : Rst} (h : Bd D T U S r) : r 42 0 = 0 ∧ (0 < r 55 0 → Bh r) ∧ (r 55 0 = 0 → Md r) ∨ r 42 0 ≠ 0 ∧ r 55 0 = 0 ∧ Md r := by
  by_cases m : r 42 0 = 0
  · exact Or.inl ⟨m, fun a => h.bh m a, fun _ => h.2⟩
  · exact Or.inr ⟨m, h.2.2.2.2.1 m, h.2⟩
theorem ok_takesSignal97 {D T U S x k : Int} {r : Rst} (h : Bz D T U S r) (h0 : 0 ≤ k) (h1 : k < 3) (hx : -100000 ≤ x) (hx2 : x ≤ 100000) : Ok (G_takesSignal_97 x k r) r fun _ r' => Bz D T U S r' ∧ ∀ j : Nat, j ≠ 60 → j ≠ 62 → j ≠ 63 → r' j = r j := by
  unfold G_takesSignal_97
  refine Ok.cag (ok_gets h h0 h1 hx hx2) fun v r' _ _ hp => Ok.ret ⟨hp.1, fun j a b c => ?_⟩
  rw [hp.2, ur_ne c, ur_ne b, ur_ne a]
theorem ok_takesSignal {D T U S x y : Int} {r : Rst} (h : Bd D T U S r) (hx : -100000 ≤ x) (hx2 : x ≤ 100000) (hy : -100000 ≤ y) (hy2 : y ≤ 100000) (hS : S < 80) (hD : D < 5200) : Ok (G_takesSignal x y r) r fun _ r' => Bd (D + 1) T U (S + 1) r' := by
  have b68 := h.1.2.2.2.2.2.1
  unfold G_takesSignal G_takesSignal_0
  refine Ok.chk (by omega) (Ok.st6 (by omega) (Ok.chk (by simp (disch := omega) only [ur_n]; omega) (Ok.st6 (by omega) (Ok.chk (by simp (disch := omega) only [ur_n]; omega) (Ok.st6 (by omega) (Ok.chk (by simp (disch := omega) only [ur_n]; omega) (Ok.st6 (by omega) ?_)))))))
  simp (disch := omega) only [ur_n, ur_e]
  have hb : Bz D T U (S + 1) (ur (ur (ur (ur r 65 (r 68 0) x) 66 (r 68 0) y) 67 (r 68 0) 0) 68 0 (r 68 0 + 1)) := by
    have e := (((h.1.oth (j := 65) (i := r 68 0) (v := x) rfl).v66 (i := r 68 0) hy hy2).oth (j := 67) (i := r 68 0) (v := 0) rfl).v68
    simp (disch := omega) only [ur_n] at e
    exact e
  have hm : Md (ur (ur (ur (ur r 65 (r 68 0) x) 66 (r 68 0) y) 67 (r 68 0) 0) 68 0 (r 68 0 + 1)) := h.2.same fun j hj => by rw [ur_ne (by omega), ur_ne (by omega), ur_ne (by omega), ur_ne (by omega)]
  have e68 : (ur (ur (ur (ur r 65 (r 68 0) x) 66 (r 68 0) y) 67 (r 68 0) 0) 68 0 (r 68 0 + 1)) 68 0 = r 68 0 + 1 := ur_e rfl rfl
  generalize ur (ur (ur (ur r 65 (r 68 0) x) 66 (r 68 0) y) 67 (r 68 0) 0) 68 0 (r 68 0 + 1) = z at *
  have b55 := hb.2.2.2.2.2.2.2.2.2.1
  have fin : ∀ s0, s0 = -1 ∨ 0 ≤ s0 ∧ s0 < z 55 0 → Ok (G_takesSignal_56 y s0 z) z fun _ r' => Bd (D + 1) T U (S + 1) r' := by
    intro s0 hs
    unfold G_takesSignal_56
    refine Ok.ite (fun _ => Ok.ret ⟨hb.mono (by omega) (by omega) (by omega) (by omega), hm⟩) fun c => Ok.chk (by omega) (Ok.chk (by omega) (Ok.st6 (by omega) (Ok.chk (by omega) ?_)))
    have hb2 : Bz D T U (S + 1) (ur z 67 (z 68 0 - 1) 1) := hb.oth (j := 67) rfl
    have hm2 : Md (ur z 67 (z 68 0 - 1) 1) := hm.same fun j hj => by rw [ur_ne (by omega)]
    refine Ok.ite (fun _ => ?_) fun _ => Ok.chk (by omega) ?_
    · exact (ok_takesSignal97 hb2 (by omega) (by omega) hy hy2).imp fun v r' _ _ hp => ⟨hp.1.mono (by omega) (by omega) (by omega) (by omega), hm2.same fun j hj => hp.2 j (by omega) (by omega) (by omega)⟩
    · refine Ok.cag (ok_decides hb2 hD) fun v r' _ _ hp => ?_
      have hm3 : Md r' := hm2.same fun j hj => hp.2.2 j (by omega)
      exact (ok_takesSignal97 hp.1 (by omega) (by omega) hy hy2).imp fun v r' _ _ hp => ⟨hp.1.mono (by omega) (by omega) (by omega) (by omega), hm3.same fun j hj => hp.2 j (by omega) (by omega) (by omega)⟩
  refine Ok.ite (fun _ => ?_) fun _ => fin (-1) (Or.inl rfl)
  obtain ⟨v, e, hv⟩ := f_waitingS0 (l1 := x) (r := z) b55.1 b55.2
  rw [e, cag_e]
  refine fin v ?_
  rcases hv with h | h
  · exact Or.inl h.1
  · exact Or.inr h.1
theorem ok_takesOver {D T U S its x y : Int} {r : Rst} (h : Bd D T U S r) (hy : -100000 ≤ y) (hy2 : y ≤ 100000) : Ok (G_takesOver its x y r) r fun _ r' => Bd D T U S r' := by
  have b55 := h.1.2.2.2.2.2.2.2.2.2.1
  have fin : ∀ s0, s0 = -1 ∨ 0 ≤ s0 ∧ s0 < r 55 0 → Ok (G_takesOver_28 its y s0 r) r fun _ r' => Bd D T U S r' := by
    intro s0 hs
    unfold G_takesOver_28
    have gg : ∀ v, -100000 ≤ v → v ≤ 100000 → s0 ≠ -1 → Ok (cag (G_gets s0 v r) fun _ r8 => some (0, r8)) r fun _ r' => Bd D T U S r' := fun v h1 h2 h3 =>
      Ok.cag (ok_gets h.1 (by omega) (by omega) h1 h2) fun v r' _ _ hp => Ok.ret ⟨hp.1, by
        rw [hp.2]
        exact h.2.same fun j hj => by rw [ur_ne (by omega), ur_ne (by omega), ur_ne (by omega)]⟩
    refine Ok.ite (fun _ => Ok.ret h) fun c => Ok.ite (fun _ => Ok.chk (by omega) (Ok.st6 (by omega) (Ok.chk (by omega) (Ok.st6 (by omega) (Ok.ret ?_))))) fun _ => Ok.ite (fun _ => Ok.chk (by omega) (Ok.ite (fun _ => gg _ (by omega) (by omega) c) fun _ => Ok.chk (by omega) (Ok.st6 (by omega) (Ok.ret ?_)))) fun _ => gg _ hy hy2 c
    · exact ⟨(h.1.v60 (Or.inr rfl)).v61 (Or.inr rfl), h.2.same fun j hj => by rw [ur_ne (by omega), ur_ne (by omega)]⟩
    · exact ⟨h.1.v60 (Or.inr rfl), h.2.same fun j hj => by rw [ur_ne (by omega)]⟩
  unfold G_takesOver G_takesOver_0 G_takesOver_24
  have fin2 : ∀ k, Ok (cag (G_waiting k x r) fun v2 r1 => G_takesOver_28 its y v2 r1) r fun _ r' => Bd D T U S r' := fun k => by
    obtain ⟨v, e, hv⟩ := f_waiting0 (l1 := k) (l2 := x) (r := r) b55.2
    rw [e, cag_e]
    refine fin v ?_
    rcases hv with h | h
    · exact Or.inl h.1
    · exact Or.inr h.1
  refine Ok.ite (fun _ => ?_) fun _ => Ok.ite (fun _ => fin2 3) fun _ => fin2 0
  obtain ⟨v, e, hv⟩ := f_waitingT0 (l1 := x) (r := r) b55.2
  rw [e, cag_e]
  refine fin v ?_
  rcases hv with h | h
  · exact Or.inl h.1
  · exact Or.inr h.1
theorem ok_takes {D T U S its x y : Int} {r : Rst} (h : Bd D T U S r) (g : PgR r) (p : Pt r) (hx : -100000 ≤ x) (hx2 : x ≤ 100000) (hy : -100000 ≤ y) (hy2 : y ≤ 100000) (hD : D + 66 ≤ 5200) (hU : U + 61 ≤ 5200) (hT : T ≤ 50000) (hS : S < 80) : Ok2 (G_takes its x y r) r fun _ r' => Bd (D + 66) (T + 250) (U + 61) (S + 1) r' ∧ (r' 42 0 = 0 → 0 < r' 55 0) := by
  unfold G_takes G_takes_0
  have h1 : Bd D T U S (ur r 44 0 0) := ⟨h.1.o44, h.2.same fun j hj => ur_ne (by omega)⟩
  refine Ok2.st (by omega) ?_
  have q1 : SameQ r (ur r 44 0 0) := SameQ.rf.ur (by omega) (by omega)
  have e44 : ur r 44 0 0 44 0 = 0 := ur_e rfl rfl
  have g1 := g.sameQ q1
  have p1 := p.sameQ q1
  generalize ur r 44 0 0 = z at *
  /- what follows, at any state -/
  have fin : ∀ z2 D2 T2 S2, SameP z z2 → Bd D2 T2 U S2 z2 → D2 ≤ D + 1 → T2 ≤ T + 1 → S2 ≤ S + 1 → Ok2 (G_takes_117 z2) z2 fun _ r' => Bd (D + 66) (T + 250) (U + 61) (S + 1) r' ∧ (r' 42 0 = 0 → 0 < r' 55 0) := fun z2 D2 T2 S2 hs hb a1 a2 a3 => by
    refine (ok_takes117 (hb.1.mono a1 a2 (Int.le_refl _) a3) hb.tk (by rw [hs 44 (by omega)]; exact e44) (g1.same hs) (p1.same hs) (by omega) hU (by omega) (by omega)).imp fun v r' _ _ hp => ⟨?_, hp.2⟩
    rcases hp.1 with ⟨rfl, _⟩ | ⟨_, hp1⟩
    · exact hb.mono (by omega) (by omega) (by omega) (by omega)
    · exact hp1.mono (by omega) (by omega) (by omega) (by omega)
  /- what follows when it does not go on -/
  have fin2 : ∀ z2 D2 T2 S2, SameP z z2 → Bd D2 T2 U S2 z2 → z2 42 0 ≠ 0 → D2 ≤ D + 66 → T2 ≤ T + 250 → S2 ≤ S + 1 → Ok2 (G_takes_117 z2) z2 fun _ r' => Bd (D + 66) (T + 250) (U + 61) (S + 1) r' ∧ (r' 42 0 = 0 → 0 < r' 55 0) := fun z2 D2 T2 S2 hs hb hm a1 a2 a3 => by
    unfold G_takes_117 G_takes_142 G_goesOn
    obtain ⟨k, hk⟩ : ∃ k, fuel9 = k + 1 := ⟨fuel9 - 1, by have := fuel9_ge; omega⟩
    rw [if_f hm, hk, go_stop (Or.inl hm), cag_e]
    exact Ok2.ret ⟨hb.mono a1 a2 (by omega) a3, fun h => absurd h hm⟩
  have over : Ok2 (G_takes_103 its x y z) z fun _ r' => Bd (D + 66) (T + 250) (U + 61) (S + 1) r' ∧ (r' 42 0 = 0 → 0 < r' 55 0) := by
    unfold G_takes_103
    refine Ok2.ite (fun _ => okcag2 (ok_takesOver h1 hy hy2) fun v r' hs _ hp => fin r' _ _ _ hs hp (by omega) (by omega) (by omega)) fun _ => fin z _ _ _ SameP.rf h1 (by omega) (by omega) (by omega)
  have und : z 42 0 = 1 → Ok2 (G_takes_88 its x y z) z fun _ r' => Bd (D + 66) (T + 250) (U + 61) (S + 1) r' ∧ (r' 42 0 = 0 → 0 < r' 55 0) := fun m => by
    unfold G_takes_88
    refine Ok2.ite (fun _ => okcag2 (ok_undoesNext h1.1 (h1.2.2.2.2.1 (by omega)) m (h1.2.2.2.2.2.1 m) (by omega) (by omega) (by omega)) fun v r' hs _ hp => fin2 r' _ _ _ hs hp.1 hp.2.1 (by omega) (by omega) (by omega)) fun _ => over
  refine Ok2.ite (fun _ => Ok2.st (by omega) ?_) fun _ => Ok2.ite (fun _ => ?_) fun _ => Ok2.ite (fun _ => Ok2.st (by omega) ?_) fun _ => ?_
  · exact fin _ _ _ _ (SameP.rf.ur (by decide) (by decide)) ⟨h1.1.v41 hx hx2, h1.2.same fun j hj => ur_ne (by omega)⟩ (by omega) (by omega) (by omega)
  · exact okcag2 (ok_takesSignal h1 hx hx2 hy hy2 hS (by omega)) fun v r' hs _ hp => fin r' _ _ _ hs hp (by omega) (by omega) (by omega)
  · have h2 : Bd D T U S (ur z 47 0 1) := ⟨h1.1.oth (j := 47) rfl, h1.2.same fun j hj => ur_ne (by omega)⟩
    have s2 : SameP z (ur z 47 0 1) := SameP.rf.ur (by decide) (by decide)
    have f2 := fin _ _ _ _ s2 h2 (by omega) (by omega) (by omega)
    refine Ok2.ite (fun _ => Ok2.ite (fun _ => f2) fun _ => Ok2.ite (fun _ => ?_) fun _ => f2) fun _ => f2
    exact okcag2 (ok_cuts h2.1 (by omega) (by omega) (by omega)) fun v r' hs _ hp => fin2 r' _ _ _ (s2.tr hs) hp.1 hp.2.1 (by omega) (by omega) (by omega)
  · exact Ok2.ite (fun m => Ok2.ite (fun _ => und m) fun _ => Ok2.ite (fun _ => und m) fun _ => over) fun _ => over
/-- the history that is played: where it lies, what is in it -/
def Hs (B E : Int) (r : Rst) : Prop := 0 ≤ B ∧ B + E ≤ 7200 ∧ 0 ≤ E ∧ E ≤ 80 ∧ ∀ i, 0 ≤ i → i < E → r 19 (B + i) < 7 → i ≤ 77 ∧ (-100000 ≤ r 20 (B + i) ∧ r 20 (B + i) ≤ 100000) ∧ (-100000 ≤ r 21 (B + i) ∧ r 21 (B + i) ≤ 100000)
theorem Hs.sameQ {B E : Int} {r r' : Rst} (h : Hs B E r) (k : SameQ r r') : Hs B E r' := by
  unfold Hs
  rw [k 19 (by omega), k 20 (by omega), k 21 (by omega)]
  exact h
/-- between events: so many of them were taken -/
def Btw (i : Int) (r : Rst) : Prop := ∃ c, 0 ≤ c ∧ c ≤ 78 ∧ c ≤ i ∧ Bd (66 * c) (250 * c) (61 * c) c r
theorem Btw.le {i j : Int} {r : Rst} (h : Btw i r) (k : i ≤ j) : Btw j r := by
  obtain ⟨c, h1, h2, h3, h4⟩ := h
  exact ⟨c, h1, h2, by omega, h4⟩
theorem ok_takes1 {B E i : Int} {r : Rst} (h : Btw i r) (hs : Hs B E r) (g : PgR r) (p : Pt r) (h0 : 0 ≤ i) (h1 : i < E) (hk : r 19 (B + i) < 7) : Ok2 (G_takes (r 19 (B + i)) (r 20 (B + i)) (r 21 (B + i)) r) r fun _ r' => Btw (i + 1) r' ∧ (r' 42 0 = 0 → 0 < r' 55 0) := by
  obtain ⟨c, c0, c1, c2, hb⟩ := h
  have e := hs.2.2.2.2 i h0 h1 hk
  refine (ok_takes hb g p e.2.1.1 e.2.1.2 e.2.2.1 e.2.2.2 (by omega) (by omega) (by omega) (by omega)).imp fun v r' _ _ hp => ⟨⟨c + 1, by omega, by omega, by omega, hp.1.mono (by omega) (by omega) (by omega) (by omega)⟩, hp.2⟩
theorem ok_takesAll7 {B E hi : Int} (hE : hi ≤ E) : ∀ (n : Nat) (i : Int) (r : Rst), 0 ≤ i → i ≤ 80 → 80 - i < n → Btw i r → Hs B E r → PgR r → Pt r → Ok2 (G_takesAll_7 n (B + hi) (B + i) r) r fun _ r' => Btw 80 r' := by
  intro n
  induction n with
  | zero => intro i r h0 h1 h2; omega
  | succ n ih =>
    intro i r h0 h1 h2 hb hs g p
    rw [G_takesAll_7]
    have b1 := hs.1
    have b2 := hs.2.1
    have b3 := hs.2.2.1
    have b4 := hs.2.2.2.1
    refine Ok2.ite (fun _ => Ok2.ret (hb.le h1)) fun c => Ok2.chk (by omega) (Ok2.ite (fun _ => Ok2.chk (by omega) ?_) fun k => Ok2.chk (by omega) (Ok2.chk (by omega) (Ok2.chk (by omega) (Ok2.cag (ok_takes1 hb hs g p h0 (by omega) (by omega)) fun v r' hq _ hp => Ok2.chk (by omega) ?_))))
    · rw [Int.add_assoc]
      exact ih (i + 1) r (by omega) (by omega) (by omega) (hb.le (by omega)) hs g p
    · rw [Int.add_assoc]
      exact ih (i + 1) r' (by omega) (by omega) (by omega) hp.1 (hs.sameQ hq) (g.sameQ hq) (p.sameQ hq)
