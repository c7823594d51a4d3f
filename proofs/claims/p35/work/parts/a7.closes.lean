/-! what always holds besides, while a run lets go of all that it has begun -/
theorem can_0 {f : Int → Int} : ∀ {n : Nat}, can f n = 0 → ∀ i : Int, 0 ≤ i → i < n → f i ≠ 6
  | 0, _ => fun i a b => by omega
  | n + 1, h => fun i a b e => by
    rw [can] at h
    by_cases c : f n = 6
    · rw [if_t c] at h; omega
    · rw [if_f c] at h
      by_cases d : i = n
      · rw [d] at e; exact c e
      · exact can_0 h i a (by omega) e
theorem can_6 {f : Int → Int} {i : Int} (i0 : 0 ≤ i) (e : f i = 6) : ∀ {n : Nat}, i < n → can f n = 1
  | 0, h => by omega
  | n + 1, h => by
    rw [can]
    by_cases c : f n = 6
    · rw [if_t c]
    · rw [if_f c]
      refine can_6 i0 e ?_
      by_cases d : i = n
      · rw [d] at e; exact absurd e c
      · omega
theorem rw9_e {r r' : Rst} {c : Int} (h : r' 12 = r 12) : rw9 r' c = rw9 r c := by
  unfold rw9
  rw [h]
section CP
variable {X Y Z : Int → Prop} {r r' z : Rst} {w c f n : Int}
theorem Px.cancels (h : Px X Y Z r) (c0 : 0 ≤ c) (c1 : c < r 16 0) : ∃ v r', G_cancels c r = some (v, r') ∧ (r' = r ∧ v = 0 ∧ ¬ (can (hk r c) (r 18 (rw9 r c)).toNat = 0 ∧ r 17 (rw9 r c) = 20 ∧ r 18 (rw9 r c) < 78) ∨ r' = wr c 6 0 0 r ∧ v = 1 ∧ r 17 (rw9 r c) = 20 ∧ r 18 (rw9 r c) < 78) ∧ Px X Y Z r' := by
  obtain ⟨b1, b2, b3⟩ := h.bb c0 c1
  rw [g_cancels c0 b1 b2.1 b2.2 (by omega) b3.2]
  by_cases d : can (hk r c) (r 18 (rw9 r c)).toNat = 0 ∧ r 17 (rw9 r c) = 20 ∧ r 18 (rw9 r c) < 78
  · rw [if_t d]
    refine ⟨_, _, rfl, Or.inr ⟨rfl, rfl, d.2⟩, h.ev c0 c1 (by omega) ?_ fun _ => ⟨d.2.1, by decide⟩⟩
    exact ⟨by omega, fun h => by omega, fun h => by omega, fun h => by omega, fun h => by omega, fun h => by omega, fun _ i i0 i1 => can_0 d.1 i (by omega) (by omega)⟩
  · rw [if_f d]
    exact ⟨_, _, rfl, Or.inl ⟨rfl, rfl, d⟩, h⟩
theorem Dk.off (h : Dk r) (e : ∀ i, 0 ≤ i → i < 4 → r' 39 i = r 39 i ∨ r' 39 i = -1) : Dk r' := fun p q p0 p1 q1 e2 => by
  have a := e p p0 (by omega)
  have b := e q (by omega) q1
  rcases a with a | a
  · rcases b with b | b
    · rw [a, b] at e2
      rw [a]; exact h p q p0 p1 q1 e2
    · rw [e2, b]
  · exact a
theorem p_off (h : Px X Y Z r) (hw : 0 ≤ c ∧ c < 10) (hn : 0 ≤ n ∧ n < 80) : ∃ r', G_takesOff c n r = some (0, r') ∧ Off c n r r' ∧ Px X Y Z r' := by
  obtain ⟨r', k1, k2, k3, k4, k5, k6⟩ := g_takesOff (r := r) hw hn
  have k3' : ∀ i, r' 23 i = if i = 80 * c + n then 0 else r 23 i := fun i => by
    by_cases e : i = 80 * c + n
    · rw [if_t e, e, k4]
    · rw [if_f e, k3 i e]
  refine ⟨r', k1, ⟨k2, k3', fun i => ?_⟩, h.act (fun j hj => k2 j (by omega) (by omega)) (fun w n _ _ _ _ _ _ e => ?_) (h.2.2.2.2.off fun i a b => ?_)⟩
  · by_cases e : 0 ≤ i ∧ i < 4
    · rw [k6 i e.1 e.2]
      by_cases d : r 39 i = 80 * c + n
      · rw [if_t d, if_t ⟨e.1, e.2, d⟩]
      · rw [if_f d, if_f (fun hh => d hh.2.2)]
    · rw [if_f (fun hh => e ⟨hh.1, hh.2.1⟩), k5 i (by omega)]
  · rw [k3', e]; split <;> rfl
  · rw [k6 i a b]
    by_cases d : r 39 i = 80 * c + n
    · rw [if_t d]; exact Or.inr rfl
    · rw [if_f d]; exact Or.inl rfl
/-- what is kept of the workflows up to w -/
def Kp (w : Int) (z r : Rst) : Prop := (∀ j : Nat, ¬ (j = 15 ∨ (17 ≤ j ∧ j ≤ 21) ∨ j = 23 ∨ j = 31 ∨ j = 39 ∨ j = 81 ∨ j = 82) → r j = z j) ∧ ∀ c, 0 ≤ c → c ≤ w → r 15 c = z 15 c ∧ r 17 (rw9 z c) = z 17 (rw9 z c) ∧ ∀ j i, HO z c j i → r j i = z j i
theorem Kp.rf : Kp w r r := ⟨fun _ _ => rfl, fun _ _ _ => ⟨rfl, rfl, fun _ _ _ => rfl⟩⟩
theorem Kp.rw (h : Kp w z r) (c : Int) : rw9 r c = rw9 z c := by
  unfold rw9
  rw [h.1 12 (by omega)]
theorem Kp.tr {r1 : Rst} (h : Kp w z r) (k : Kp w r r1) : Kp w z r1 := by
  refine ⟨fun j hj => (k.1 j hj).trans (h.1 j hj), fun c c0 c1 => ?_⟩
  have a := h.2 c c0 c1
  have b := k.2 c c0 c1
  rw [h.rw c] at b
  refine ⟨b.1.trans a.1, b.2.1.trans a.2.1, fun j i hj => (b.2.2 j i ?_).trans (a.2.2 j i hj)⟩
  unfold HO at *
  rw [h.rw c]
  exact hj
theorem Kp.nr (h : Kp w z r) (e : ∀ j : Nat, j ≠ 23 → j ≠ 31 → j ≠ 39 → j ≠ 81 → j ≠ 82 → r' j = r j) : Kp w z r' := ⟨fun j hj => by rw [e j (by omega) (by omega) (by omega) (by omega) (by omega)]; exact h.1 j hj, fun c c0 c1 => by
  obtain ⟨a, b, d⟩ := h.2 c c0 c1
  rw [e 15 (by omega) (by omega) (by omega) (by omega) (by omega), e 17 (by omega) (by omega) (by omega) (by omega) (by omega)]
  refine ⟨a, b, fun j i hj => ?_⟩
  have hj2 := hj
  unfold HO at hj2
  rw [e j (by omega) (by omega) (by omega) (by omega) (by omega)]
  exact d j i hj⟩
/-- an event of a later workflow -/
theorem Kp.ev {k x y : Int} (h : Kp w z r) (hp : Px X Y Z r) (wc : w < c) (c1 : c < r 16 0) (w0 : 0 ≤ w) (n8 : r 18 (rw9 r c) < 80) : Kp w z (wr c k x y r) := by
  refine h.tr ⟨fun j hj => wr_n (by omega), fun d d0 d1 => ⟨by rw [wr_n (by omega)], by rw [wr_n (by omega)], fun j i hj => ?_⟩⟩
  have a := (hp.bb d0 (by omega)).2.1
  have b := (hp.bb (w := c) (by omega) c1).2
  have e1 : rw9 r c = 9 * c + r 12 c - 1 := rfl
  have e2 : rw9 r d = 9 * d + r 12 d - 1 := rfl
  unfold HO at hj
  exact wr_o (by omega) (by omega)
/-- what stands on the stack -/
def Sk (r : Rst) (c : Int) : Prop := ∃ i, 0 ≤ i ∧ i < r 82 0 ∧ r 81 i = c
theorem Sk.fr (e81 : r' 81 = r 81) (e82 : r' 82 = r 82) : Sk r' c ↔ Sk r c := by
  unfold Sk
  rw [e81, e82]
/-- between two steps of it -/
def Clz (w : Int) (X Y : Int → Prop) (z r : Rst) : Prop := Px (fun c => Sk r c ∨ X c) Y nob r ∧ Kp w z r ∧ 0 ≤ r 82 0 ∧ ∀ c, Sk r c → w ≤ c ∧ c < r 16 0
theorem Clz.act (h : Clz w X Y z r) (hp : ∀ P : Int → Prop, Px P Y nob r → Px P Y nob r') (e : ∀ j : Nat, j ≠ 23 → j ≠ 31 → j ≠ 39 → r' j = r j) : Clz w X Y z r' := by
  obtain ⟨h1, h2, h3, h4⟩ := h
  have s : ∀ c, Sk r' c ↔ Sk r c := fun c => Sk.fr (e 81 (by omega) (by omega) (by omega)) (e 82 (by omega) (by omega) (by omega))
  refine ⟨(hp _ h1).wk fun c => ⟨fun x => x.elim (fun a => Or.inl ((s c).mpr a)) Or.inr, id, id⟩, h2.nr fun j a b c _ _ => e j a b c, by rw [e 82 (by omega) (by omega) (by omega)]; exact h3, fun c k => ?_⟩
  rw [e 16 (by omega) (by omega) (by omega)]
  exact h4 c ((s c).mp k)
/-- all activities of a run are taken off -/
theorem cl_2 {k26 : Int → Int → Rst → Option G2} {Q : Rst → Prop} (f0 : 0 ≤ f) (f1 : f < z 16 0) (hk : ∀ r, Clz w nob Y z r → Pv Q (k26 f 0 r)) : ∀ (t : Nat) (l : Int) (r : Rst), 0 ≤ l → Clz w (fun c => c = f) Y z r → (∀ n, 0 ≤ n → n < l → r 23 (80 * f + n) = 0) → Pv Q (G_closesOne_2 k26 t f l r) := by
  intro t
  induction t with
  | zero => intro l r _ _ _; exact Pv.no
  | succ t ih =>
    intro l r l0 h hz
    rw [G_closesOne_2]
    have e16 : r 16 0 = z 16 0 := by rw [h.2.1.1 16 (by omega)]
    have f2 : f < r 16 0 := by omega
    have hp := h.1.pw f0 f2
    have hb := h.1.bb f0 f2
    refine Pv.chk fun _ => Pv.ite (fun c => ?_) fun c => ?_
    · refine hk r ⟨?_, h.2⟩
      refine ⟨h.1.1, fun d d0 d1 => ?_, h.1.2.2⟩
      obtain ⟨q1, q2, q3, q4, q5, q6, q7, q8, q9⟩ := h.1.pw d0 d1
      refine ⟨q1, q2, q3, q4, q5, q6, fun x s n n0 n8 n1 => ?_, q8, q9⟩
      by_cases df : d = f
      · rw [df]; rw [df] at n1
        exact hz n n0 (by omega)
      · exact q7 (fun y => y.elim (fun a => x (Or.inl a)) df) s n n0 n8 n1
    · have ct := (hp.2.2.2.1 (fun a => a)).2.1
      have cl := cntP_le (p := pA) (f := rwf r 19 (rw9 r f)) (n := (r 18 (rw9 r f)).toNat)
      obtain ⟨r1, k1, k2, -⟩ := p_off (n := l) h.1 ⟨f0, hb.1⟩ ⟨l0, by omega⟩
      refine Pv.cag fun v r2 e => Pv.chk fun _ => ?_
      rw [k1] at e
      cases e
      refine ih (l + 1) r1 (by omega) (h.act (fun P hP => ?_) fun j a _ c => k2.1 j c a) fun n n0 n1 => ?_
      · obtain ⟨r3, m1, -, m3⟩ := p_off (n := l) hP ⟨f0, hb.1⟩ ⟨l0, by omega⟩
        rw [k1] at m1
        cases m1
        exact m3
      · rw [k2.2.1]
        by_cases e : 80 * f + n = 80 * f + l
        · rw [if_t e]
        · rw [if_f e]; exact hz n n0 (by omega)
theorem cl_26 {k56 : Int → Int → Rst → Option G2} {Q : Rst → Prop} (hk : ∀ r, Clz w nob Y z r → Pv Q (k56 f 0 r)) : ∀ (t : Nat) (l : Int) (r : Rst), Clz w nob Y z r → Pv Q (G_closesOne_26 k56 t f l r) := by
  intro t
  induction t with
  | zero => intro l r _; exact Pv.no
  | succ t ih =>
    intro l r h
    rw [G_closesOne_26]
    refine Pv.chk fun _ => Pv.ite (fun c => hk r h) fun c => Pv.chk fun _ => Pv.chk fun _ => Pv.chk fun _ => Pv.st (Pv.chk fun _ => ih _ _ ?_)
    exact h.act (fun P hP => hP.fr fun j hj => ur_ne (by omega)) fun j _ b _ => ur_ne b
/-- a child is stopped too: its run's own row -/
theorem Px.stop (h : Px X Y nob r) (c0 : 0 ≤ c) (c1 : c < r 16 0) (hr : r 17 (rw9 r c) = 20) : Px (fun d => X d ∨ d = c) Y nob (ur (ur r 17 (rw9 r c) 24) 15 c (-1)) := by
  have hr9 : rw9 r c = 9 * c + r 12 c - 1 := rfl
  obtain ⟨q1, q2, q3, q4, q5, q6, q7, q8, q9⟩ := h.pw c0 c1
  have u : ∀ j : Nat, j ≠ 15 → j ≠ 17 → ur (ur r 17 (rw9 r c) 24) 15 c (-1) j = r j := fun j a b => by rw [ur_ne a, ur_ne b]
  have u17 : ur (ur r 17 (rw9 r c) 24) 15 c (-1) 17 (rw9 r c) = 24 := by rw [ur_n (by omega), ur_e rfl rfl]
  have u17n : ∀ i, i ≠ rw9 r c → ur (ur r 17 (rw9 r c) 24) 15 c (-1) 17 i = r 17 i := fun i hi => by rw [ur_n (by omega), ur_n (by omega)]
  have u15 : ur (ur r 17 (rw9 r c) 24) 15 c (-1) 15 c = -1 := ur_e rfl rfl
  have u15n : ∀ i, i ≠ c → ur (ur r 17 (rw9 r c) 24) 15 c (-1) 15 i = r 15 i := fun i hi => by rw [ur_n (by omega), ur_n (by omega)]
  have urw : rw9 (ur (ur r 17 (rw9 r c) 24) 15 c (-1)) c = rw9 r c := rw9_e (u 12 (by omega) (by omega))
  generalize ur (ur r 17 (rw9 r c) 24) 15 c (-1) = y at *
  refine h.one (w := c) c0 c1 (by rw [u 16 (by omega) (by omega)]) (fun d _ => by rw [u 12 (by omega) (by omega)]) (fun i _ => by rw [u 18 (by omega) (by omega)]) (fun d d0 d1 d2 j i hi => ?_) (Or.inl ⟨by rw [u 12 (by omega) (by omega)], by rw [u 32 (by omega) (by omega)]; omega⟩) (fun k a b => ?_) (h.2.2.2.2.fr (u 39 (by omega) (by omega))) ?_ fun d hd => ⟨Or.inl, id, id⟩
  · by_cases j15 : j = 15
    · subst j15; exact u15n i (by unfold Own at hi; omega)
    · by_cases j17 : j = 17
      · subst j17; exact u17n i (by unfold Own at hi; omega)
      · rw [u j j15 j17]
  · rw [u 12 (by omega) (by omega)] at a
    rw [u 18 (by omega) (by omega)]
    have := h.1
    exact h.2.2.2.1 c k c0 (by omega) a b
  · have s := q4 (fun a => a)
    have s1 := s.1
    unfold Pw
    rw [urw, u17, u15, u 12 (by omega) (by omega), u 14 (by omega) (by omega), u 22 (by omega) (by omega), u 23 (by omega) (by omega), u 9 (by omega) (by omega), u 10 (by omega) (by omega), u 11 (by omega) (by omega), u 32 (by omega) (by omega), u 33 (by omega) (by omega), u 16 (by omega) (by omega)]
    have fr : ∀ row, Hr r row → Hr y row := fun row hh => hh.fr (by rw [u 18 (by omega) (by omega)]) fun j i _ _ _ _ => by rw [u j (by omega) (by omega)]
    refine ⟨q1, fun k a b => ?_, fr _ q3, fun _ => ⟨?_, ?_⟩, fun _ => by omega, ⟨q6.1, by omega, fun _ => rfl⟩, fun x => absurd (Or.inr rfl) x, q8, q9⟩
    · obtain ⟨g1, g2, g3⟩ := q2 k a b
      have e17 := u17n (9 * c + k - 1) (by omega)
      exact ⟨fr _ g1, g2.fr g1.n e17 (by rw [u 18 (by omega) (by omega)]) fun j i _ _ _ _ => by rw [u j (by omega) (by omega)], by rw [e17]; exact g3⟩
    · unfold Sr rwf at *
      rw [u17, u 18 (by omega) (by omega), u 19 (by omega) (by omega), u 20 (by omega) (by omega)]
      rw [hr] at s1
      exact ⟨fun i i0 i1 e => absurd e (s1.no i0 i1), fun _ h => absurd rfl h⟩
    · exact s.2.fr q3.n urw ⟨by rw [u 22 (by omega) (by omega)], by rw [u 30 (by omega) (by omega)], by rw [u 32 (by omega) (by omega)]⟩ (by rw [u 18 (by omega) (by omega)]) fun j i _ _ _ _ => by rw [u j (by omega) (by omega)]
theorem cl_56 (f0 : 0 ≤ f) (w0 : 0 ≤ w) (wf : w ≤ f) (f1 : f < z 16 0) : ∀ (t : Nat) (l : Int) (r : Rst), 0 ≤ l → Clz w nob Y z r → Pv (Clz w nob Y z) (G_closesOne_56 t f l r) := by
  intro t
  induction t with
  | zero => intro l r _ _; exact Pv.no
  | succ t ih =>
    intro l r l0 h
    rw [G_closesOne_56]
    have e16 : r 16 0 = z 16 0 := by rw [h.2.1.1 16 (by omega)]
    have f2 : f < r 16 0 := by omega
    have hp := h.1.pw f0 f2
    have hb := h.1.bb f0 f2
    have r10 := h.1.1
    have ct := (hp.2.2.2.1 (fun a => a)).2.2.2
    have cl := cntP_le (p := pM) (f := rwf r 19 (rw9 r f)) (n := (r 18 (rw9 r f)).toNat)
    refine Pv.chk fun _ => Pv.ite (fun c => Pv.ret h) fun c => Pv.chk fun _ => Pv.chk fun _ => Pv.chk fun _ => ?_
    have next : ∀ r, Clz w nob Y z r → Pv (Clz w nob Y z) (G_closesOne_56 t f (l + 1) r) := fun r h => ih (l + 1) r (by omega) h
    have kid := hp.2.2.2.2.2.2.2.2 l l0 (by omega) (by omega)
    have p116 : Pv (Clz w nob Y z) (G_closesOne_116 (G_closesOne_56 t) f l (r 33 (80 * f + l)) r) := by
      unfold G_closesOne_116
      refine Pv.ite (fun c1 => Pv.chk fun _ => next r h) fun c1 => ?_
      generalize r 33 (80 * f + l) = c at *
      obtain ⟨k1, k2⟩ := kid.resolve_left c1
      have bc := h.1.bb (w := c) (by omega) k2
      rw [g_isRunning (by omega) bc.1 bc.2.1.1 bc.2.1.2, cag_e]
      by_cases run : r 17 (rw9 r c) = 20
      · rw [if_t run, if_f (by decide)]
        refine Pv.chk fun _ => Pv.chk fun _ => Pv.chk fun _ => Pv.ite (fun c2 => ?_) fun _ => Pv.chk fun _ => next r h
        rw [g_rowOfRun (by omega) bc.1 (by omega) bc.2.1.2, cag_e]
        refine Pv.chk fun _ => Pv.st (Pv.chk fun _ => Pv.st ?_)
        have st := h.1.stop (c := c) (by omega) k2 run
        have u : ∀ j : Nat, j ≠ 15 → j ≠ 17 → ur (ur r 17 (rw9 r c) 24) 15 c (-1) j = r j := fun j a b => by rw [ur_ne a, ur_ne b]
        have kp : Kp w z (ur (ur r 17 (rw9 r c) 24) 15 c (-1)) := by
          refine h.2.1.tr ⟨fun j hj => u j (by omega) (by omega), fun d d0 d1 => ?_⟩
          have bd := (h.1.bb d0 (by omega)).2.1
          have e1 : rw9 r c = 9 * c + r 12 c - 1 := rfl
          have e2 : rw9 r d = 9 * d + r 12 d - 1 := rfl
          refine ⟨by rw [ur_n (by omega), ur_n (by omega)], by rw [ur_n (by omega), ur_n (by omega)], fun j i hj => ?_⟩
          unfold HO at hj
          rw [u j (by omega) (by omega)]
        generalize ur (ur r 17 (rw9 r c) 24) 15 c (-1) = y at *
        refine Pv.chk fun _ => Pv.ste fun y1 ey1 => Pv.chk fun _ => Pv.ste fun y2 ey2 => Pv.chk fun _ => next y2 ?_
        have y82 : y2 82 0 = r 82 0 + 1 := by rw [ey2, ur_e rfl rfl, ey1, ur_n (by omega), u 82 (by omega) (by omega)]
        have y81 : ∀ i, y2 81 i = if i = r 82 0 then c else r 81 i := fun i => by
          rw [ey2, ur_n (by omega), ey1]
          by_cases e : i = r 82 0
          · rw [if_t e, ur_e rfl (by rw [u 82 (by omega) (by omega)]; exact e)]
          · rw [if_f e, ur_n (by rw [u 82 (by omega) (by omega)]; exact Or.inr e), u 81 (by omega) (by omega)]
        have yo : ∀ j : Nat, j ≠ 81 → j ≠ 82 → y2 j = y j := fun j a b => by rw [ey2, ur_ne b, ey1, ur_ne a]
        have h3 := h.2.2.1
        have sk : ∀ d, Sk y2 d ↔ Sk r d ∨ d = c := fun d => by
          constructor
          · rintro ⟨i, i0, i1, i2⟩
            rw [y81] at i2
            by_cases e : i = r 82 0
            · rw [if_t e] at i2; exact Or.inr i2.symm
            · rw [if_f e] at i2; exact Or.inl ⟨i, i0, by omega, i2⟩
          · rintro (⟨i, i0, i1, i2⟩ | e)
            · exact ⟨i, i0, by omega, by rw [y81, if_f (by omega)]; exact i2⟩
            · exact ⟨r 82 0, h3, by omega, by rw [y81, if_t rfl, e]⟩
        refine ⟨(st.fr fun j hj => yo j (by omega) (by omega)).wk fun d => ⟨fun x => ?_, id, id⟩, kp.nr fun j _ _ _ a b => yo j a b, by omega, fun d hd => ?_⟩
        · rcases x with (x | x) | x
          · exact Or.inl ((sk d).mpr (Or.inl x))
          · exact Or.inr x
          · exact Or.inl ((sk d).mpr (Or.inr x))
        · rw [yo 16 (by omega) (by omega), u 16 (by omega) (by omega)]
          rcases (sk d).mp hd with x | x
          · exact h.2.2.2 d x
          · omega
      · rw [if_f run, if_t rfl]
        exact Pv.chk fun _ => next r h
    refine Pv.ite (fun _ => p116) fun c1 => ?_
    obtain ⟨k1, k2⟩ := kid.resolve_left c1
    have bc := h.1.bb (w := r 33 (80 * f + l)) (by omega) k2
    rw [g_isRunning (by omega) bc.1 bc.2.1.1 bc.2.1.2, cag_e]
    by_cases run : r 17 (rw9 r (r 33 (80 * f + l))) = 20
    · rw [if_t run, if_f (by decide)]
      refine Pv.chk fun _ => Pv.chk fun _ => Pv.chk fun _ => Pv.ite (fun c2 => ?_) fun _ => p116
      obtain ⟨v, r1, m1, m2, m3⟩ := h.1.cancels (c := r 33 (80 * f + l)) (by omega) k2
      rw [m1, cag_e]
      refine Pv.chk fun _ => next r1 ?_
      rcases m2 with ⟨rfl, -⟩ | ⟨rfl, -, m4, m5⟩
      · exact h
      · have s : ∀ d, Sk (wr (r 33 (80 * f + l)) 6 0 0 r) d ↔ Sk r d := fun d => Sk.fr (wr_n (by omega)) (wr_n (by omega))
        refine ⟨m3.wk fun d => ⟨fun x => x.elim (fun a => Or.inl ((s d).mpr a)) Or.inr, id, id⟩, h.2.1.ev h.1 (by omega) k2 w0 (by omega), by rw [wr_n (by omega)]; exact h.2.2.1, fun d hd => ?_⟩
        rw [wr_n (by omega)]
        exact h.2.2.2 d ((s d).mp hd)
    · rw [if_f run, if_t rfl]
      exact p116
theorem cl_25 (w0 : 0 ≤ w) : ∀ (t : Nat) (r : Rst), Clz w nob Y z r → Pv (fun r' => Px nob Y nob r' ∧ Kp w z r') (G_closes_25 t r) := by
  intro t
  induction t with
  | zero => intro r _; exact Pv.no
  | succ t ih =>
    intro r h
    rw [G_closes_25]
    refine Pv.ite (fun c => Pv.ret ⟨h.1.wk fun d => ⟨fun x => ?_, id, id⟩, h.2.1⟩) fun c => Pv.chk fun _ => Pv.ste fun y ey => Pv.chk fun _ => Pv.cag fun v r7 e => ?_
    · rcases x with ⟨i, i0, i1, i2⟩ | x
      · omega
      · exact x
    · have y82 : y 82 0 = r 82 0 - 1 := by rw [ey, ur_e rfl rfl]
      have yo : ∀ j : Nat, j ≠ 82 → y j = r j := fun j a => by rw [ey, ur_ne a]
      have sf : Sk r (y 81 (y 82 0)) := ⟨y 82 0, by omega, by omega, by rw [yo 81 (by omega)]⟩
      have sy : ∀ d, Sk y d → Sk r d := fun d ⟨i, i0, i1, i2⟩ => ⟨i, i0, by omega, by rw [← yo 81 (by omega)]; exact i2⟩
      have ys : ∀ d, Sk r d → Sk y d ∨ d = y 81 (y 82 0) := fun d ⟨i, i0, i1, i2⟩ => by
        by_cases e : i = y 82 0
        · rw [e, ← yo 81 (by omega)] at i2; exact Or.inr i2.symm
        · exact Or.inl ⟨i, i0, by omega, by rw [yo 81 (by omega)]; exact i2⟩
      obtain ⟨s1, s2⟩ := h.2.2.2 _ sf
      generalize y 81 (y 82 0) = f at *
      have hy : Clz w (fun c => c = f) Y z y := by
        refine ⟨(h.1.fr fun j hj => yo j (by omega)).wk fun d => ⟨fun x => ?_, id, id⟩, h.2.1.nr fun j _ _ _ _ a => yo j a, by omega, fun d hd => by rw [yo 16 (by omega)]; exact h.2.2.2 d (sy d hd)⟩
        rcases x with x | x
        · exact ys d x
        · exact x.elim
      have f1 : f < z 16 0 := by rw [h.2.1.1 16 (by omega)] at s2; exact s2
      refine ih r7 ?_
      unfold G_closesOne G_closesOne_0 at e
      exact cl_2 (by omega) f1 (fun r hr => cl_26 (fun r hr => cl_56 (by omega) w0 s1 f1 _ _ _ (Int.le_refl _) hr) _ _ _ hr) _ _ _ (Int.le_refl _) hy (fun n a b => by omega) v r7 e
/-- a run lets go of all -/
theorem p_closes (w0 : 0 ≤ w) (w1 : w < z 16 0) (h : Px (fun c => c = w) Y nob z) : Pv (fun r' => Px nob Y nob r' ∧ Kp w z r') (G_closes w z) := by
  unfold G_closes G_closes_0
  refine Pv.ste fun y1 ey1 => Pv.chk fun _ => Pv.ste fun y2 ey2 => Pv.chk fun _ => Pv.ste fun y ey => ?_
  have yo : ∀ j : Nat, j ≠ 81 → j ≠ 82 → y j = z j := fun j a b => by rw [ey, ur_ne b, ey2, ur_ne a, ey1, ur_ne b]
  have y10 : y1 82 0 = 0 := by rw [ey1, ur_e rfl rfl]
  have y82 : y 82 0 = 1 := by rw [ey, ur_e rfl rfl, ey2, ur_n (by omega), y10]; rfl
  have y81 : y 81 0 = w := by rw [ey, ur_n (by omega), ey2, ur_e rfl y10.symm]
  have s : ∀ d, Sk y d ↔ d = w := fun d => ⟨fun ⟨i, i0, i1, i2⟩ => by
    rw [show i = 0 by omega, y81] at i2; exact i2.symm, fun e => ⟨0, by omega, by omega, by rw [y81, e]⟩⟩
  refine cl_25 w0 _ _ ⟨(h.fr fun j hj => yo j (by omega) (by omega)).wk fun d => ⟨fun x => Or.inl ((s d).mpr x), id, id⟩, Kp.rf.nr fun j _ _ _ a b => yo j a b, by omega, fun d hd => ?_⟩
  rw [yo 16 (by omega) (by omega), (s d).mp hd]
  omega
end CP
