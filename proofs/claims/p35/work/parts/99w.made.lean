/-! effects of decisions: a child that is made -/
section EF
variable {N N' : Int} {uf : Int → Int} {r r' z0 : Rst} {m m' : Mem} {w n k x y q s b c a v row I A R o t l u f W : Int}
theorem gc_newflow (h : RelC N r m) (hW : W = r 16 0) (w1 : W < 10) (nf : NFlow r W a b (-1) 0 0 v r') : GC r' := by
  have g := h.2.2.rg
  have b10 := g.1
  have gc := h.2.2.gc
  have nw := nf.2.2.2.2.2.2.2
  have lt := fun w2 (a : 0 ≤ w2) (b : w2 < r 16 0) => h.2.2.lt a b
  refine ⟨fun w n c d e f => ?_, fun c d e => ?_⟩
  · by_cases i : w = W
    · rw [i, nf.2.2.2.2.2.1.2.2.2.2] at f; omega
    · rw [nf.1] at d
      rw [nw 32 w (by omega)] at f
      have k := gc.1 w n c (by omega) e f
      rw [nw 33 _ (by omega)]
      rcases k with k | k
      · exact Or.inl k
      · right
        rw [nf.1, nw 9 _ (by omega), nw 10 _ (by omega), nw 11 _ (by omega), nw 12 w (by omega)]
        exact ⟨k.1, by omega, k.2.2⟩
  · rw [nf.1] at e
    by_cases i : c = W
    · rw [i]
      exact Or.inl nf.2.1.2.2.1
    · have k := gc.2 c d (by omega)
      rw [nw 9 c (by omega)]
      rcases k with k | k
      · exact Or.inl k
      · right
        rw [nw 10 c (by omega), nw 11 c (by omega), nw 12 _ (by omega), nw 32 _ (by omega), nw 33 _ (by omega)]
        exact k
/-- the same new workflow, without its parent -/
theorem NFlow.alone {pa nu p : Int} (nf : NFlow r W a b pa nu p v r') : NFlow r W a b (-1) 0 0 v (ur (ur (ur r' 9 W (-1)) 10 W 0) 11 W 0) := by
  obtain ⟨n1, ⟨a1, a2, a3, a4, a5⟩, n3, n4, n5, n6, n7, n8⟩ := nf
  refine ⟨?_, ⟨?_, ?_, ?_, ?_, ?_⟩, ?_, ?_, ?_, ⟨?_, ?_, ?_, ?_, ?_⟩, ⟨?_, ?_, ?_⟩, fun j i hj => ?_⟩
  · rw [ur_n (by omega), ur_n (by omega), ur_n (by omega)]; exact n1
  · rw [ur_n (by omega), ur_n (by omega), ur_n (by omega)]; exact a1
  · rw [ur_n (by omega), ur_n (by omega), ur_n (by omega)]; exact a2
  · rw [ur_n (by omega), ur_n (by omega), ur_e rfl rfl]
  · rw [ur_n (by omega), ur_e rfl rfl]
  · rw [ur_e rfl rfl]
  · rw [ur_n (by omega), ur_n (by omega), ur_n (by omega)]; exact n3
  · rw [ur_n (by omega), ur_n (by omega), ur_n (by omega)]; exact n4
  · rw [ur_n (by omega), ur_n (by omega), ur_n (by omega)]; exact n5
  · rw [ur_n (by omega), ur_n (by omega), ur_n (by omega)]; exact n6.1
  · rw [ur_n (by omega), ur_n (by omega), ur_n (by omega)]; exact n6.2.1
  · rw [ur_n (by omega), ur_n (by omega), ur_n (by omega)]; exact n6.2.2.1
  · rw [ur_n (by omega), ur_n (by omega), ur_n (by omega)]; exact n6.2.2.2.1
  · rw [ur_n (by omega), ur_n (by omega), ur_n (by omega)]; exact n6.2.2.2.2
  · rw [ur_n (by omega), ur_n (by omega), ur_n (by omega)]; exact n7.1
  · rw [ur_n (by omega), ur_n (by omega), ur_n (by omega)]; exact n7.2.1
  · rw [ur_n (by omega), ur_n (by omega), ur_n (by omega)]; exact n7.2.2
  · rw [ur_n (by omega), ur_n (by omega), ur_n (by omega)]; exact n8 j i hj
/-- a child is made -/
theorem RelC.child (h : RelC N r m) (w0 : 0 ≤ w) (w1 : w < r 16 0) (hW : W = r 16 0) (W10 : W < 10) (hr : r 17 (rw9 r w) = 20) (b80 : r 18 (rw9 r w) < 80) (hl : 7 ≤ hk r w (r 18 (rw9 r w) - 1)) (hx : 0 ≤ x ∧ x < 3) (hv : -100000 ≤ r 14 w ∧ r 14 w ≤ 100000) (h5 : ∀ i, 0 ≤ i → i < r 18 (rw9 r w) → hk r w i = 5 → r 20 (80 * rw9 r w + i) < r 32 w) (nf : NFlow (umR w y (wr w 12 x y r)) W x (r 8 w) w (r 32 w) (r 12 w) (r 14 w) z0) : ∃ m', X11_takeEffect 1 (100000 * (w + 1)) 12 x y (put9 (Rl r w + 1) 12 x y m) = some (0, m') ∧ RelC N (ur z0 33 (80 * w + r 32 w) W) m' ∧ StF 1 m m' := by
  have g := h.2.2.rg
  have b10 := g.1
  have s := g.2.2 w w0 w1
  have s1 := s.1
  have s2 := s.2.1
  have lt := h.2.2.lt w0 w1
  have gi := h.2.2
  have ew : rw9 r w = 9 * w + r 12 w - 1 := rfl
  have eR9 : Rl r w = 100000 * (w + 1) + 10000 * r 12 w := rfl
  obtain ⟨R, hR⟩ : ∃ R, R = Rl r w := ⟨_, rfl⟩
  obtain ⟨pm, pj⟩ := put_m (k := 12) (x := x) (y := y) (m := m) (R := R) (by omega)
  have fA := h.1.2.2.2.2.2.1 w w0 w1
  have f := fA.1
  have l := fA.2.2.1
  have rt := h.1.1
  have gu := gi.2.2.2.2.1
  have gu1 := gu.1 W (by omega) W10
  obtain ⟨A, hA⟩ : ∃ A, A = 100000 * (W + 1) := ⟨_, rfl⟩
  have fz : ∀ i, A ≤ i → i ≤ A + 10006 → m (-1) i = 0 := fun i c d => h.1.2.2.2.2.2.2.2.1 W (by omega) (by omega) i (by omega) (by omega)
  have um := RelK.um (m' := upd9 (put9 (Rl r w + 1) 12 x y m) (Rl r w) 5 (r 32 w + 1)) (f := y) (x := x) (y := y) h.toK w0 w1 hr b80 hl 0 (fun i hi => upd9_row hi) (fun j => by
    rw [← hR]
    by_cases c : j = 5
    · rw [if_t c, upd9_e rfl c]
    · rw [if_f c, upd9_n (by omega), pm R (by omega)]
      by_cases d : j = 6
      · rw [if_t d, d, hR]; exact (h.2.1 w w0 w1).2
      · rw [if_f d])
  rw [show (fun w2 : Int => if w2 = w then (0 : Int) else (fun _ => 0) w2) = fun _ => 0 by funext w2; split <;> rfl] at um
  rw [← hR] at um ⊢
  obtain ⟨mp, hmp⟩ : ∃ mp, mp = put9 (R + 1) 12 x y m := ⟨_, rfl⟩
  rw [← hmp] at um pm pj ⊢
  obtain ⟨sv, hsv⟩ : ∃ sv, sv = umR w y (wr w 12 x y r) := ⟨_, rfl⟩
  rw [← hsv] at um nf
  have umc : RelC N sv (upd9 mp R 5 (r 32 w + 1)) := um
  have sz : ∀ (j : Nat), j < 18 ∨ (21 < j ∧ j < 32) ∨ 34 < j → sv j = r j := fun j hj => by rw [hsv, um_j (by omega), wr_n (by omega)]
  have s32 : sv 32 w = r 32 w + 1 := by rw [hsv, um_v.1, wr_n (by omega)]
  have s33 : sv 33 (80 * w + r 32 w) = -1 := by
    have := (um_v (w := w) (f := y) (r := wr w 12 x y r)).2.1
    rw [wr_n (j := 32) (by omega)] at this
    rw [hsv]; exact this
  have s34 : sv 34 (80 * w + r 32 w) = y := by
    have := (um_v (w := w) (f := y) (r := wr w 12 x y r)).2.2
    rw [wr_n (j := 32) (by omega)] at this
    rw [hsv]; exact this
  have s18 : sv 18 (rw9 r w) = r 18 (rw9 r w) + 1 := by rw [hsv, um_j (by omega), wr_18]
  have s19 : ∀ (j : Nat) i, 19 ≤ j → j ≤ 21 → 0 ≤ i → i < r 18 (rw9 r w) → sv j (80 * rw9 r w + i) = r j (80 * rw9 r w + i) := fun j i a b c d => by rw [hsv, um_j (by omega), wr_o (by omega) (by omega)]
  have s19k : sv 19 (80 * rw9 r w + r 18 (rw9 r w)) = 12 := by rw [hsv, um_j (by omega)]; exact wr_v.1
  clear hsv
  have al := nf.alone
  obtain ⟨r1, hr1⟩ : ∃ r1, r1 = ur (ur (ur z0 9 W (-1)) 10 W 0) 11 W 0 := ⟨_, rfl⟩
  rw [← hr1] at al
  have mA : mp (100000 * (w + 1)) = m (100000 * (w + 1)) := pm _ (by omega)
  have mR : mp R = m R := pm _ (by omega)
  have mm1 : mp 1 = m 1 := pm _ (by omega)
  have e5 : m 1 5 = W := by rw [hW]; exact rt.1.2.2.2.2.2.1
  have e11 : m 1 1 = 3 := rt.1.2.1
  obtain ⟨m1, x0, x1, x2, x3, x4, x5, x6, x7, x8, x9⟩ := x_newFlow (m := mp) (A := A) (W := W) (a := x) (b := r 8 w) (v := r 14 w) (by omega) (fun i c d => by rw [pm (-1) (by omega)]; exact fz i c d)
  have wA : w < W := by omega
  have k1 : ∀ j, alo9 mp A 20 11 1 j = m 1 j := fun j => by rw [alo_row (by omega) (by omega) (by omega), mm1]
  have kA : ∀ j, alo9 mp A 20 11 (100000 * (w + 1)) j = m (100000 * (w + 1)) j := fun j => by rw [alo_row (by omega) (by omega) (by omega), mA]
  have kR : ∀ j, alo9 mp A 20 11 R j = m R j := fun j => by rw [alo_row (by omega) (by omega) (by omega), mR]
  have fA6 : m (100000 * (w + 1)) 6 = R := by rw [hR]; exact f.1.2.2.2.2.2.2.1
  have lR5 : m R 5 = r 32 w := by rw [hR]; exact l.2.2.1
  have lR8 : m R 8 = r 14 w := by rw [hR]; exact l.2.2.2.1
  have n1 : ∀ i, i < A ∨ A + 10006 < i → i ≠ -1 → i ≠ -2 → m1 i = mp i := fun i c d e => x1 i (by omega) d e
  obtain ⟨m4, hm4⟩ : ∃ m4, m4 = upd9 (upd9 (upd9 (upd9 m1 A 7 w) A 8 (r 12 w)) A 9 (r 32 w)) A 10 y := ⟨_, rfl⟩
  have o4 : ∀ i, i ≠ A → m4 i = m1 i := fun i c => by rw [hm4, upd9_row c, upd9_row c, upd9_row c, upd9_row c]
  have v4 : ∀ j, m4 A j = if j = 10 then y else if j = 9 then r 32 w else if j = 8 then r 12 w else if j = 7 then w else m1 A j := fun j => by
    rw [hm4]
    by_cases c : j = 10
    · rw [if_t c, upd9_e rfl c]
    · rw [if_f c, upd9_n (by omega)]
      by_cases c : j = 9
      · rw [if_t c, upd9_e rfl c]
      · rw [if_f c, upd9_n (by omega)]
        by_cases c : j = 8
        · rw [if_t c, upd9_e rfl c]
        · rw [if_f c, upd9_n (by omega)]
          by_cases c : j = 7
          · rw [if_t c, upd9_e rfl c]
          · rw [if_f c, upd9_n (by omega)]
  have xa : X11_addFlow 1 A m4 = some (0, upd9 (upd9 m4 3 W A) 1 5 (W + 1)) := by
    have q1 : m4 1 = m 1 := by rw [o4 1 (by omega), n1 1 (by omega) (by omega) (by omega), mm1]
    have q5 : upd9 m4 3 W A 1 5 = W := by rw [upd9_n (by omega), q1, e5]
    unfold X11_addFlow X11_addFlow_0
    rw [q1, e5, e11, if_f (show ¬ 10 ≤ W by omega)]
    repeat rw [chk_t (by omega)]
    rw [st_e, q5]
    repeat rw [chk_t (by omega)]
    rw [st_e]
  obtain ⟨mf, hmf⟩ : ∃ mf, mf = upd9 (upd9 (upd9 m4 3 W A) 1 5 (W + 1)) R 5 (r 32 w + 1) := ⟨_, rfl⟩
  have of : ∀ i, i ≠ 1 → i ≠ 3 → i ≠ R → mf i = m4 i := fun i c d e => by rw [hmf, upd9_row e, upd9_row c, upd9_row d]
  have rR : m4 R = m R := by rw [o4 R (by omega), n1 R (by omega) (by omega) (by omega), mR]
  have run : X11_takeEffect 1 (100000 * (w + 1)) 12 x y mp = some (0, mf) := by
    unfold X11_takeEffect X11_takeEffect_0
    rw [if_f (show ¬ (12 : Int) = 8 by decide), if_f (show ¬ (12 : Int) = 9 by decide), if_f (show ¬ (12 : Int) = 10 by decide), if_f (show ¬ (12 : Int) = 11 by decide), if_t (show (12 : Int) = 12 from rfl)]
    unfold X11_makeChild X11_makeChild_0
    rw [mm1, e5, if_f (show ¬ 10 ≤ W by omega), vl_e, ← hA, st_e, mA, fA6, k1, kA, kR, e5, f.1.2.2.1, lR8, x0, cal_e]
    have u0 : m1 (100000 * (w + 1)) 0 = w := by rw [n1 _ (by omega) (by omega) (by omega), mA]; exact f.1.1
    have u5 : upd9 m1 A 7 w (100000 * (w + 1)) 5 = r 12 w := by rw [upd9_n (by omega), n1 _ (by omega) (by omega) (by omega), mA]; exact f.1.2.2.2.2.2.1
    have uR : upd9 (upd9 m1 A 7 w) A 8 (r 12 w) R 5 = r 32 w := by rw [upd9_n (by omega), upd9_n (by omega), n1 _ (by omega) (by omega) (by omega), mR, lR5]
    rw [u0, st_e, u5, st_e, uR, st_e, st_e, ← hm4, xa, cal_e]
    unfold X11_makeChild_92
    have uf5 : upd9 (upd9 m4 3 W A) 1 5 (W + 1) R 5 = r 32 w := by rw [upd9_n (by omega), upd9_n (by omega), rR, lR5]
    rw [uf5]
    have fzA : mp (-1) A = 0 := by rw [pm (-1) (by omega)]; exact fz A (by omega) (by omega)
    repeat rw [chk_t (by omega)]
    rw [st_e, cal_e, ← hmf]
  refine ⟨mf, run, ?_, ⟨fun i hi => by rw [of i (by omega) (by omega) (by omega), o4 i (by omega), n1 i (by omega) (by omega) (by omega), pm i (by omega)], ?_, ?_⟩⟩
  · /- first without its parent -/
    obtain ⟨mb, hmb⟩ : ∃ mb, mb = upd9 (upd9 (upd9 (upd9 mf A 7 (-1)) A 8 (-1)) A 9 (-1)) A 10 0 := ⟨_, rfl⟩
    have ob : ∀ i, i ≠ A → mb i = mf i := fun i c => by rw [hmb, upd9_row c, upd9_row c, upd9_row c, upd9_row c]
    have vb : ∀ j, mb A j = if j = 10 then 0 else if j = 9 ∨ j = 8 ∨ j = 7 then -1 else m1 A j := fun j => by
      have e := v4 j
      rw [hmb]
      by_cases c : j = 10
      · rw [if_t c, upd9_e rfl c]
      · rw [if_f c, upd9_n (by omega)]
        by_cases c9 : j = 9
        · rw [if_t (by omega), upd9_e rfl c9]
        · rw [upd9_n (by omega)]
          by_cases c8 : j = 8
          · rw [if_t (by omega), upd9_e rfl c8]
          · rw [upd9_n (by omega)]
            by_cases c7 : j = 7
            · rw [if_t (by omega), upd9_e rfl c7]
            · rw [upd9_n (by omega), if_f (by omega), of A (by omega) (by omega) (by omega), e, if_f (by omega), if_f (by omega), if_f (by omega), if_f (by omega)]
    clear hmb
    have gc := gc_newflow umc (by rw [sz 16 (by omega)]; exact hW) W10 al
    have nw := al.2.2.2.2.2.2.2
    have oa : ∀ i, i ≠ 1 → i ≠ 3 → i ≠ R → i ≠ A → mb i = m1 i := fun i c d e f => by rw [ob i f, of i c d e, o4 i f]
    have flz : Fl r1 mb W := by
      unfold Fl Rl
      rw [← hA, oa (A + 1) (by omega) (by omega) (by omega) (by omega), oa (A + 2) (by omega) (by omega) (by omega) (by omega), al.2.1.1, al.2.1.2.1, al.2.1.2.2.1, al.2.2.1, nw 13 _ (by omega), nw 13 _ (by omega), sz 13 (by omega), gu1.2.1, gu1.2.2, vb, vb, vb, vb, vb, vb, vb, vb]
      refine ⟨⟨?_, ?_, ?_, ?_, ?_, ?_, ?_, ?_⟩, fun hh => absurd rfl hh, ⟨x5.1 0, x5.1 1⟩, fun k k0 k1 => ?_⟩
      · rw [if_f (by decide), if_f (by decide)]; exact x4.1
      · rw [if_f (by decide), if_f (by decide)]; exact x4.2.1
      · rw [if_f (by decide), if_f (by decide)]; exact x4.2.2.1
      · rw [if_f (by decide), if_f (by decide)]; exact x4.2.2.2.1
      · rw [if_f (by decide), if_f (by decide)]; exact x4.2.2.2.2.1
      · rw [if_f (by decide), if_f (by decide)]; exact x4.2.2.2.2.2.1
      · rw [if_f (by decide), if_f (by decide), x4.2.2.2.2.2.2.1]; omega
      · rw [if_f (by decide), if_t (by decide)]
      · rw [show k - 1 = 0 by omega, x5.2]
        omega
    have gw := gi.2.2.2.1 w w0 w1
    have rc : RelC N r1 mb := by
      refine rel_newflow umc (by rw [sz 16 (by omega)]; exact hW) W10 al hx gw.2.1 hv gc hA (fun i c d e f k => ?_) (fun i c => ?_) (fun j => ?_) (fun j => ?_) flz ?_ ?_ ?_ (fun hh => absurd al.2.1.2.2.1 hh)
      · by_cases p : i = R
        · rw [p]
          funext j
          rw [ob R (by omega), hmf]
          by_cases q5 : j = 5
          · rw [upd9_e rfl q5, upd9_e rfl q5]
          · rw [upd9_n (by omega), upd9_n (by omega), upd9_n (by omega), upd9_n (by omega), rR, mR]
        · rw [oa i f k p (by omega), n1 i (by omega) d e, upd9_row p]
      · rw [oa (-1) (by omega) (by omega) (by omega) (by omega), x2 i c, upd9_n (by omega)]
      · rw [ob 1 (by omega), hmf]
        by_cases q5 : j = 5
        · rw [if_t q5, upd9_n (by omega), upd9_e rfl q5]
        · rw [if_f q5, upd9_n (by omega), upd9_n (by omega), upd9_n (by omega), o4 1 (by omega), n1 1 (by omega) (by omega) (by omega), upd9_n (by omega)]
      · rw [ob 3 (by omega), hmf]
        by_cases q5 : j = W
        · rw [if_t q5, upd9_n (by omega), upd9_n (by omega), upd9_e rfl q5]
        · rw [if_f q5, upd9_n (by omega), upd9_n (by omega), upd9_n (by omega), o4 3 (by omega), n1 3 (by omega) (by omega) (by omega), upd9_n (by omega)]
      · rw [oa _ (by omega) (by omega) (by omega) (by omega)]; exact x6
      · rw [oa _ (by omega) (by omega) (by omega) (by omega)]; exact x7
      · rw [oa _ (by omega) (by omega) (by omega) (by omega), oa _ (by omega) (by omega) (by omega) (by omega), oa _ (by omega) (by omega) (by omega) (by omega)]; exact x8
    have a12 : r1 12 w = r 12 w := by rw [nw 12 w (by omega), sz 12 (by omega)]
    have a9 : rw9 r1 w = rw9 r w := by unfold rw9; rw [a12]
    have gr := g.2.2 w w0 w1
    have ad := rc.adopt (m' := mf) (W := W) (w := w) (n := r 32 w) w0 wA (by rw [al.1]; omega) al.2.1.2.2.1 (by omega) (by rw [nw 32 w (by omega), s32]; omega) (by rw [nw 33 _ (by omega)]; exact s33) (fun i a b c => ?_) (fun i a => ?_) (fun j => ?_)
    · rw [a12] at ad
      have e : ur (ur (ur (ur r1 33 (80 * w + r 32 w) W) 9 W w) 10 W (r 12 w)) 11 W (r 32 w) = ur z0 33 (80 * w + r 32 w) W := by
        obtain ⟨b1, b2, b3, b4, b5⟩ := nf.2.1
        funext j i
        rw [hr1]
        by_cases c11 : j = 11 ∧ i = W
        · rw [ur_e c11.1 c11.2, ur_n (by omega), c11.1, c11.2, b5]
        · rw [ur_n (by omega)]
          by_cases c10 : j = 10 ∧ i = W
          · rw [ur_e c10.1 c10.2, ur_n (by omega), c10.1, c10.2, b4]
          · rw [ur_n (by omega)]
            by_cases c9 : j = 9 ∧ i = W
            · rw [ur_e c9.1 c9.2, ur_n (by omega), c9.1, c9.2, b3]
            · rw [ur_n (by omega)]
              by_cases c33 : j = 33 ∧ i = 80 * w + r 32 w
              · rw [ur_e c33.1 c33.2, ur_e c33.1 c33.2]
              · rw [ur_n (by omega), ur_n (by omega), ur_n (by omega), ur_n (by omega), ur_n (by omega)]
      rw [e] at ad
      exact ad
    · rw [a9] at b ⊢
      unfold hk at c
      have s6 := gr.2.2.2.2.2 (rw9 r w) (by omega) (by omega)
      rw [nw 18 _ (by omega), s18] at b
      rw [a9, nw 19 _ (by omega)] at c
      by_cases p : i = r 18 (rw9 r w)
      · rw [p, s19k] at c; omega
      · rw [s19 19 i (by omega) (by omega) a (by omega)] at c
        rw [nw 20 _ (by omega), s19 20 i (by omega) (by omega) a (by omega)]
        have := h5 i a (by omega) c
        omega
    · rw [← hA] at a
      exact (ob i a).symm
    · rw [← hA, of A (by omega) (by omega) (by omega), v4, vb, nw 34 _ (by omega), s34, a12]
      by_cases c10 : j = 10
      · rw [if_t c10, if_f (by omega), if_f (by omega), if_f (by omega), if_t c10]
      · rw [if_f c10]
        by_cases c9 : j = 9
        · rw [if_t c9, if_f (by omega), if_f (by omega), if_t c9]
        · rw [if_f c9]
          by_cases c8 : j = 8
          · rw [if_t c8, if_f (by omega), if_t c8]
          · rw [if_f c8]
            by_cases c7 : j = 7
            · rw [if_t c7, if_t c7]
            · rw [if_f c7, if_f c7, if_f c8, if_f c9, if_f c10, if_f c10, if_f (by omega)]
  · rw [of (-2) (by omega) (by omega) (by omega), o4 (-2) (by omega), x3.1, pm (-2) (by omega)]; omega
  · rw [of (-2) (by omega) (by omega) (by omega), o4 (-2) (by omega), x3.2, pm (-2) (by omega)]; omega
end EF
