/-! p35's law holds -/
section LOK
variable {N : Int} {r r' : Rst} {m m' m0 m1 : Mem} {ty z : Int}
theorem rel0c (h : Cl0 m0 m) (z : ∀ (j : Nat) i, j < 84 → j ≠ 35 → j ≠ 38 → j ≠ 39 → r j i = 0) (z35 : ∀ q, 0 ≤ q → q < 2 → r 35 q = 9) (z38 : ∀ q, 0 ≤ q → q < 4 → r 38 q = 1) (z39 : ∀ q, 0 ≤ q → q < 4 → r 39 q = -1) : RelC 0 r m ∧ GT r := by
  obtain ⟨h1, h2, h3, h4, h5, h6, h7, h8, h9⟩ := h
  have zz : ∀ (j : Nat) i, j < 35 → r j i = 0 := fun j i a => z j i (by omega) (by omega) (by omega) (by omega)
  refine ⟨⟨⟨⟨?_, fun w a b => ?_⟩, h2, fun t a b => ?_, fun q a b => ?_, fun q a b => ?_, fun w a b => ?_, fun c a b => ?_, ⟨fun w a b i c d => ?_, fun w a b => ?_, fun t a b i c d => ?_⟩⟩, fun w a b => ?_, ⟨?_, ⟨fun i a b => ?_, fun t a b => ?_⟩, ⟨⟨fun k => ?_, fun k => ?_, fun k => ?_, fun k => ?_⟩, ?_, ?_, ?_⟩, fun w a b => ?_, ⟨fun w a b => ?_, fun w k a b c d => ?_, fun w k a b => ?_⟩, fun w a b => ?_, ⟨fun w n a b => ?_, fun c a b => ?_⟩, ⟨fun q a b => ?_, fun w n a b => ?_⟩, ?_, ?_, fun q a b => ?_, fun i a b => ?_⟩⟩, fun w n a b => ?_⟩
  · rw [zz 16 _ (by omega), zz 29 _ (by omega), zz 1 _ (by omega)]; exact h1
  · rw [zz 16 _ (by omega)] at b; omega
  · obtain ⟨k1, k2, k3⟩ := h3 t a b
    unfold Fm
    rw [zz 6 _ (by omega)]
    refine ⟨⟨k1, k2.1, k2.2.1, by rw [k2.2.2]; omega⟩, fun k x y => by omega, fun k x y => ?_⟩
    rw [show k = 0 by omega, show 1000 * (t + 1) + 10 * (0 + 1) = 1000 * (t + 1) + 10 by omega]
    unfold Pm
    rw [zz 5 _ (by omega)]
    exact ⟨⟨by rw [k3.1]; omega, by rw [k3.2.1]; omega, by rw [k3.2.2.1]; omega, k3.2.2.2⟩, fun s c d => by omega⟩
  · obtain ⟨k1, k2, k3⟩ := h4 q a b
    exact ⟨⟨k1, k2.1, by rw [z35 q a b]; exact k2.2.1, by rw [z 36 _ (by omega) (by omega) (by omega) (by omega)]; exact k2.2.2⟩, fun t c d => by rw [z 37 _ (by omega) (by omega) (by omega) (by omega)]; exact k3 t⟩
  · obtain ⟨k1, k2, k3⟩ := h5 q a b
    exact ⟨k1, by rw [z38 q a b]; exact k2, Or.inl ⟨z39 q a b, k3⟩⟩
  · rw [zz 16 _ (by omega)] at b; omega
  · rw [zz 16 _ (by omega)] at b; omega
  · rw [zz 16 _ (by omega)] at a
    exact h6 i (by omega)
  · rw [zz 16 _ (by omega)] at b; omega
  · rw [zz 6 _ (by omega)] at c
    exact h7 t a b i (by omega) (by omega)
  · rw [zz 16 _ (by omega)] at b; omega
  · rw [zz 16 _ (by omega)]; omega
  · rw [zz 2 _ (by omega), zz 3 _ (by omega), zz 4 _ (by omega)]
    omega
  · rw [zz 6 _ (by omega), zz 5 _ (by omega)]
    exact ⟨by omega, by omega, fun v c d => by omega⟩
  · rw [z 62 _ (by omega) (by omega) (by omega) (by omega)]; omega
  · rw [z 66 _ (by omega) (by omega) (by omega) (by omega)]; omega
  · exact Or.inl (z 60 _ (by omega) (by omega) (by omega) (by omega))
  · exact Or.inl (z 61 _ (by omega) (by omega) (by omega) (by omega))
  · rw [z 78 _ (by omega) (by omega) (by omega) (by omega)]; omega
  · rw [z 78 _ (by omega) (by omega) (by omega) (by omega)]; omega
  · rw [z 79 _ (by omega) (by omega) (by omega) (by omega)]; omega
  · rw [zz 16 _ (by omega)] at b; omega
  · exact ⟨zz 12 _ (by omega), zz 13 _ (by omega), zz 13 _ (by omega)⟩
  · exact zz 18 _ (by omega)
  · rw [zz 16 _ (by omega)] at b; omega
  · rw [zz 16 _ (by omega)] at b; omega
  · rw [zz 16 _ (by omega)] at b; omega
  · rw [zz 16 _ (by omega)] at b; omega
  · exact ⟨Or.inr (z38 q a b), Or.inl (z39 q a b)⟩
  · rw [zz 16 _ (by omega)] at b; omega
  · rw [zz 1 _ (by omega)]; omega
  · rw [zz 29 _ (by omega)]; omega
  · rw [z 36 _ (by omega) (by omega) (by omega) (by omega)]; omega
  · rw [z 37 _ (by omega) (by omega) (by omega) (by omega)]; omega
  · rw [zz 16 _ (by omega)] at b; omega
end LOK
section LOP
variable {N K b0 b1 t v c y z k L : Int} {s3 s4 : Int → Int} {r r' : Rst} {m m' : Mem}
/-- while programs are told, nothing else has happened -/
def Su (K b0 b1 : Int) (s3 s4 : Int → Int) (r : Rst) (m : Mem) : Prop := Sw K K b0 b1 s3 s4 r m ∧ ∀ j : Nat, j = 1 ∨ j = 16 ∨ j = 29 ∨ j = 36 ∨ j = 37 → r j = fun _ => 0
def Dr (t v c : Int) (r : Rst) : Prop := (∀ u, t < u → u < 3 → r 6 u = 0 ∧ r 5 (5 * u + 4) = 0) ∧ r 6 t = v ∧ r 5 (5 * t + 4) = c
theorem Su.mono {K' : Int} (h : Su K b0 b1 s3 s4 r m) (hK : K ≤ K') : Su K' b0 b1 s3 s4 r m := ⟨h.1.mono hK hK, h.2⟩
theorem Su.nx {r1 : Rst} (h : Su K b0 b1 s3 s4 r m) (e : ∀ j : Nat, j = 1 ∨ 7 ≤ j → r1 j = r j) (hs : Sw (K + 1) (K + 1) b0 b1 s3 s4 (zr r1) m') : Su (K + 1) b0 b1 s3 s4 ((zr r1)) m' := ⟨hs, fun j hj => by
  show zr r1 j = _
  rw [zr_lo (by omega), e j (by omega)]
  exact h.2 j hj⟩
theorem p_164 {k90 : Int → Int → Int → Int → Int → Int → Int → Mem → Option R2} {size : Int} (h : Su K b0 b1 s3 s4 r m) (t0 : 0 ≤ t) (t1 : t < 3) (hd : Dr t v c r) (v0 : 0 ≤ v) (v4 : v < 4) (c0 : 0 ≤ c) (c1 : c < 12) (y0 : 0 ≤ y) (y1 : y < 2147483648) (k0 : 0 ≤ k) (k1 : k ≤ 15) : ∃ r' m', L_law_164 k90 1 1 t z (v + 1) size c y k m = k90 1 1 t z (v + 1) size (c + 1) m' ∧ Su (K + 1) b0 b1 s3 s4 r' m' ∧ Dr t v (c + 1) r' := by
  obtain ⟨h1, h2, h3, h4, h5⟩ := id h.1
  obtain ⟨d1, d2, d3⟩ := hd
  obtain ⟨u, x1, x2, x3⟩ := l_packed (m := m) y0 y1 k0 k1
  obtain ⟨r1, g1, g2, g3, g4, g5⟩ := o_step h1.2.2.rg t0 t1 x3 (by omega) (by omega)
  have cl := c_step (cd := id) (t := t) (k := k) (a := u / 100) (b := u % 100) h1 h2 rfl rfl rfl rfl
  rw [g1] at cl
  obtain ⟨e, v9, m1, v', r', u1, u2, u3, u4, u5, u6⟩ := h.1.call cl fun v r' e => by cases e; exact h3.fr fun j hj => g3 j (by omega)
  cases u2
  rw [g2] at u4
  obtain rfl : e = 0 := u4.symm
  have hv := u5 rfl
  have su := h.nx (fun j hj => g3 j (by omega)) u6
  unfold L_law_164
  rw [x1, cal_e, chk_t x2, chk_t x2, on_0 u3 u1, cal_e, if_f (by decide), chk_t (by omega), show onV 0 v9 = v9 from rfl, if_t (by omega), chk_t (by omega)]
  refine ⟨_, m1, rfl, su, fun w w0 w1 => ?_, ?_, ?_⟩
  · show zr r1 6 w = 0 ∧ zr r1 5 (5 * w + 4) = 0
    rw [zr_lo (by omega), zr_lo (by omega), g3 6 (by omega), g4, if_f (by omega)]
    exact d1 w w0 w1
  · show zr r1 6 t = v
    rw [zr_lo (by omega), g3 6 (by omega)]
    exact d2
  · show zr r1 5 (5 * t + 4) = c + 1
    rw [zr_lo (by omega), g4, if_t rfl, d3]
theorem p_90 {k220 : Int → Int → Int → Int → Int → Int → Mem → Option R2} {size : Int} (t0 : 0 ≤ t) (t1 : t < 3) (v0 : 0 ≤ v) (v4 : v < 4) (hsz : size ≤ 12) : ∀ (d f : Nat) (c z K : Int) (r : Rst) (m : Mem), size - c = d → 0 ≤ c → d < f → Su K b0 b1 s3 s4 r m → Dr t v c r → ∃ z' r' m', L_law_90 k220 f 1 1 t z (v + 1) size c m = k220 1 1 t z' (v + 1) size m' ∧ Su (K + d) b0 b1 s3 s4 r' m' ∧ Dr t v size r' := by
  intro d
  induction d with
  | zero =>
    intro f c z K r m h1 h2 h3 h hd
    obtain ⟨f, rfl⟩ : ∃ k, f = k + 1 := ⟨f - 1, by omega⟩
    rw [L_law_90, if_t (by omega)]
    obtain rfl : c = size := by omega
    exact ⟨z, r, m, rfl, h.mono (by omega), hd⟩
  | succ d ih =>
    intro f c z K r m h1 h2 h3 h hd
    obtain ⟨f, rfl⟩ : ∃ k, f = k + 1 := ⟨f - 1, by omega⟩
    rw [L_law_90, if_f (by omega)]
    generalize w32 (w32 (z * 1103515245) + 12345) = z2
    have zy := and_nn (x := Int32.ofInt ((Int32.ofInt z2 >>> (Int32.ofInt 8 &&& 31)).toInt)) (k := Int32.ofInt 16777215) (by decide)
    rw [show (Int32.ofInt 16777215).toInt = 16777215 from by decide] at zy
    generalize (Int32.ofInt ((Int32.ofInt z2 >>> (Int32.ofInt 8 &&& 31)).toInt) &&& Int32.ofInt 16777215).toInt = y at *
    have zk := and_nn (x := Int32.ofInt y) (k := Int32.ofInt 31) (by decide)
    rw [show (Int32.ofInt 31).toInt = 31 from by decide] at zk
    generalize (Int32.ofInt y &&& Int32.ofInt 31).toInt = a at *
    have t146 : ∀ s, 0 ≤ s → s ≤ 15 → ∃ z' r' m', L_law_146 (L_law_90 k220 f) 1 1 t z2 (v + 1) size c y s m = k220 1 1 t z' (v + 1) size m' ∧ Su (K + ((d + 1 : Nat) : Int)) b0 b1 s3 s4 r' m' ∧ Dr t v size r' := fun s s0 s1 => by
      have t164 : ∀ s, 0 ≤ s → s ≤ 15 → ∃ z' r' m', L_law_164 (L_law_90 k220 f) 1 1 t z2 (v + 1) size c y s m = k220 1 1 t z' (v + 1) size m' ∧ Su (K + ((d + 1 : Nat) : Int)) b0 b1 s3 s4 r' m' ∧ Dr t v size r' := fun s s0 s1 => by
        obtain ⟨r1, m1, x1, x2, x3⟩ := p_164 (k90 := L_law_90 k220 f) (z := z2) (size := size) h t0 t1 hd v0 v4 h2 (by omega) zy.1 (by omega) s0 s1
        obtain ⟨z', r', m', y1, y2, y3⟩ := ih f (c + 1) z2 (K + 1) r1 m1 (by omega) (by omega) (by omega) x2 x3
        exact ⟨z', r', m', by rw [x1, y1], y2.mono (by omega), y3⟩
      unfold L_law_146
      by_cases e : s = 3
      · rw [if_t e]
        by_cases e2 : t ≤ 0
        · rw [if_t e2]; exact t164 s s0 s1
        · rw [if_f e2]; exact t164 1 (by decide) (by decide)
      · rw [if_f e]; exact t164 s s0 s1
    by_cases e : 14 ≤ a
    · rw [if_t e, chk_t zk.1]; exact t146 _ (by omega) (by omega)
    · rw [if_f e, chk_t zk.1]; exact t146 _ (by omega) (by omega)
theorem rel_dr {r1 : Rst} {u : Int} (hd : Dr t v c r) (h : Rel t u r r1) : Dr t (v + 1) 0 (zr r1) := by
  obtain ⟨d1, d2, d3⟩ := hd
  obtain ⟨a1, a2, a3, a4, a5, a6, a7⟩ := h
  refine ⟨fun w w0 w1 => ?_, ?_, ?_⟩
  · rw [zr_lo (by omega), zr_lo (by omega), a5 w (by omega), a7 _ (by omega)]
    exact d1 w w0 w1
  · rw [zr_lo (by omega), a4, d2]
  · rw [zr_lo (by omega), a6]
theorem p_220 {k64 : Int → Int → Int → Int → Int → Mem → Option R2} (h : Su K b0 b1 s3 s4 r m) (t0 : 0 ≤ t) (t1 : t < 3) (hd : Dr t v c r) (v0 : 0 ≤ v) (v4 : v < 4) : ∃ r' m', L_law_220 k64 1 1 t z (v + 1) c m = k64 1 1 t z (v + 1 + 1) m' ∧ Su (K + 4) b0 b1 s3 s4 r' m' ∧ Dr t (v + 1) 0 r' := by
  obtain ⟨h1, h2, h3, h4, h5⟩ := id h.1
  have g := h1.2.2.rg
  have g6 := g.2.1 t t0 t1
  have hd9 := hd
  obtain ⟨d1, d2, d3⟩ := hd
  have cl := c_release (cd := cdA) (t := t) h1 h2 rfl rfl rfl
  obtain ⟨e, v9, m1, v', r1, u1, u2, u3, u4, u5, u6⟩ := h.1.call cl fun v r' e => by
    rcases o_release g t0 t1 (by omega) e with rfl | a
    · exact h3.f0
    · exact h3.fr fun j hj => a.2.2.1 j (by omega)
  unfold L_law_220
  rw [on_1 u3 u1, cal_e]
  rcases o_release g t0 t1 (by omega) u2 with rfl | a
  · rw [ur_e rfl rfl] at u4
    obtain rfl := cdA_2 u3 u4.symm
    have su := h.nx (fun j hj => ur_ne (by omega)) u6
    have zl : ∀ j : Nat, 1 ≤ j → j < 40 → (zr (ur r 0 0 2)) j = r j := fun j a b => by
      show zr (ur r 0 0 2) j = r j
      rw [zr_lo b, ur_ne (by omega)]
    generalize (zr (ur r 0 0 2)) = S at *
    rw [show onV 3 v9 = -90003 from rfl, if_t rfl, if_f (by decide), chk_t (by omega)]
    -- forget
    obtain ⟨a1, a2, a3, a4, a5⟩ := id su.1
    have cf := c_forget (cd := id) (t := t) a1 a2 rfl rfl
    rw [o_forget a1.2.2.rg t0 t1] at cf
    obtain ⟨e2, v2, m2, v2', r2, f1, f2, f3, f4, f5, f6⟩ := su.1.call cf fun v r' e => by cases e; exact a3.fr fun j hj => by rw [ur_ne (by omega), ur_ne (by omega)]
    cases f2
    rw [ur_n (by omega), ur_e rfl rfl] at f4
    obtain rfl : e2 = 0 := f4.symm
    have hv := f5 rfl
    have su2 := su.nx (fun j hj => by rw [ur_ne (by omega), ur_ne (by omega)]) f6
    have zl2 : ∀ (j : Nat) i, 1 ≤ j → j < 40 → ¬ (j = 5 ∧ i = 5 * t + 4) → (zr (ur (ur S 0 0 0) 5 (5 * t + 4) 0)) j i = r j i := fun j i a b c => by
      show zr (ur (ur S 0 0 0) 5 (5 * t + 4) 0) j i = r j i
      rw [zr_lo b, ur_n (by omega), ur_n (by omega), zl j a b]
    have z25 : (zr (ur (ur S 0 0 0) 5 (5 * t + 4) 0)) 5 (5 * t + 4) = 0 := by
      show zr (ur (ur S 0 0 0) 5 (5 * t + 4) 0) 5 (5 * t + 4) = 0
      rw [zr_lo (by omega), ur_e rfl rfl]
    generalize (zr (ur (ur S 0 0 0) 5 (5 * t + 4) 0)) = S2 at *
    rw [zl 5 (by omega) (by omega), d3] at hv
    rw [f1, cal0_e, if_t hv.symm]
    -- one ACT
    obtain ⟨p1, p2, p3, p4, p5⟩ := id su2.1
    have s26 : S2 6 t = v := by rw [zl2 6 t (by omega) (by omega) (by omega)]; exact d2
    obtain ⟨r3, o1, o2, o3, o4, o5⟩ := o_step p1.2.2.rg t0 t1 (st_0 (a := t) (b := 0) (by omega)) (by omega) (by omega)
    have cs := c_step (cd := id) (t := t) (k := 0) (a := t) (b := 0) p1 p2 rfl rfl rfl rfl
    rw [o1] at cs
    obtain ⟨e3, v3, m3, v3', r3', q1, q2, q3, q4, q5, q6⟩ := su2.1.call cs fun v r' e => by cases e; exact p3.fr fun j hj => o3 j (by omega)
    cases q2
    rw [o2] at q4
    obtain rfl : e3 = 0 := q4.symm
    have hv3 := q5 rfl
    have su3 := su2.nx (fun j hj => o3 j (by omega)) q6
    rw [on_0 q3 q1, cal_e, show onV 0 v3 = v3 from rfl, if_t (by omega)]
    have w5 : (zr r3) 5 (5 * t + 4) = 1 := by
      show zr r3 5 (5 * t + 4) = 1
      rw [zr_lo (by omega), o4, if_t rfl, z25]; rfl
    have w2 : (zr r3) 2 (12 * (5 * t + 4)) = 0 := by
      show zr r3 2 (12 * (5 * t + 4)) = 0
      rw [z25, Int.add_zero] at o5
      rw [zr_lo (by omega)]; exact o5
    have w6 : ∀ i, (zr r3) 6 i = r 6 i := fun i => by
      show zr r3 6 i = r 6 i
      rw [zr_lo (by omega), o3 6 (by omega), zl2 6 i (by omega) (by omega) (by omega)]
    have w5o : ∀ i, i ≠ 5 * t + 4 → (zr r3) 5 i = r 5 i := fun i hi => by
      show zr r3 5 i = r 5 i
      rw [zr_lo (by omega), o4, if_f hi, zl2 5 i (by omega) (by omega) (by omega)]
    generalize (zr r3) = S3 at *
    -- and it is released
    obtain ⟨b1', b2', b3', b4', b5'⟩ := id su3.1
    have cr := c_release (cd := cdA) (t := t) b1' b2' rfl rfl rfl
    have s36 : S3 6 t = v := by rw [w6]; exact d2
    obtain ⟨e4, v4', m4, v4'', r4, n1, n2, n3, n4, n5, n6⟩ := su3.1.call cr fun v r' e => b3'.fr fun j hj => (o_release1 b1'.2.2.rg t0 t1 (by omega) w5 w2 e).2.2.1 j (by omega)
    have rl := o_release1 b1'.2.2.rg t0 t1 (by omega) w5 w2 n2
    obtain rfl := cdA_0 n3 (by rw [← n4]; exact rl.2.1)
    have hv4 := n5 rfl
    have su4 := su3.nx (fun j hj => rl.2.2.1 j (by omega)) n6
    have rv := rl.1
    rw [on_1 n3 n1, cal_e, show onV 0 v4' = v4' from rfl, if_t (by omega), chk_t (by omega)]
    refine ⟨_, m4, rfl, su4.mono (by omega), rel_dr (c := 1) ⟨fun w w0 w1 => ?_, s36, w5⟩ rl⟩
    rw [w6, w5o _ (by omega)]
    exact d1 w w0 w1
  · obtain rfl := cdA_0 u3 (by rw [← u4]; exact a.2.1)
    have hv := u5 rfl
    have rv := a.1
    have su := h.nx (fun j hj => a.2.2.1 j (by omega)) u6
    have dr := rel_dr hd9 a
    rw [show onV 0 v9 = v9 from rfl, if_f (by omega), if_f (by decide), if_t (by omega), chk_t (by omega), q_versions u6.1 t0 t1, cal0_e, if_t dr.2.1, chk_t (by omega)]
    exact ⟨_, m1, rfl, su.mono (by omega), dr⟩
theorem p_64 {k30 : Int → Int → Int → Mem → Option R2} (t0 : 0 ≤ t) (t1 : t < 3) : ∀ (d f : Nat) (v z K : Int) (r : Rst) (m : Mem), 2 - v = d → 0 ≤ v → d < f → Su K b0 b1 s3 s4 r m → Dr t v 0 r → ∃ r' m', L_law_64 k30 f 1 1 t z (v + 1) m = k30 1 1 (t + 1) m' ∧ Su (K + 11 * d) b0 b1 s3 s4 r' m' ∧ Dr t 2 0 r' := by
  have f9 := fuel9_ge
  intro d
  induction d with
  | zero =>
    intro f v z K r m h1 h2 h3 h hd
    obtain ⟨f, rfl⟩ : ∃ k, f = k + 1 := ⟨f - 1, by omega⟩
    rw [L_law_64, if_t (by omega), chk_t (by omega)]
    exact ⟨r, m, rfl, h.mono (by omega), by rw [show (2 : Int) = v by omega]; exact hd⟩
  | succ d ih =>
    intro f v z K r m h1 h2 h3 h hd
    obtain ⟨f, rfl⟩ : ∃ k, f = k + 1 := ⟨f - 1, by omega⟩
    have zk := and_nn (x := Int32.ofInt ((Int32.ofInt z >>> (Int32.ofInt 3 &&& 31)).toInt)) (k := Int32.ofInt 7) (by decide)
    rw [show (Int32.ofInt 7).toInt = 7 from by decide] at zk
    rw [L_law_64, if_f (by omega), if_f (by decide)]
    generalize (Int32.ofInt ((Int32.ofInt z >>> (Int32.ofInt 3 &&& 31)).toInt) &&& Int32.ofInt 7).toInt = a at *
    rw [chk_t zk.1, chk_t (by omega)]
    have hsz : 3 ≤ 3 + a % 5 ∧ 3 + a % 5 ≤ 7 := by omega
    generalize 3 + a % 5 = size at *
    obtain ⟨z', r1, m1, x1, x2, x3⟩ := p_90 (k220 := L_law_220 (L_law_64 k30 f)) (size := size) t0 t1 h2 (by omega) (by omega) size.toNat fuel9 0 z K r m (by omega) (by omega) (by omega) h hd
    obtain ⟨r2, m2, y1, y2, y3⟩ := p_220 (k64 := L_law_64 k30 f) (z := z') x2 t0 t1 x3 h2 (by omega)
    obtain ⟨r3, m3, w1, w2, w3⟩ := ih f (v + 1) z' (K + size.toNat + 4) r2 m2 (by omega) (by omega) (by omega) y2 y3
    exact ⟨r3, m3, by rw [x1, y1, w1], w2.mono (by omega), w3⟩
theorem p_30 {k327 : Int → Int → Mem → Option R2} (h4 : s4 0 = L) (hL : L ≤ 2560) : ∀ (d f : Nat) (t K : Int) (r : Rst) (m : Mem), 3 - t = d → 0 ≤ t → d < f → Su K b0 b1 s3 s4 r m → (∀ u, t ≤ u → u < 3 → r 6 u = 0 ∧ r 5 (5 * u + 4) = 0) → ∃ r' m', L_law_30 k327 f 1 1 t m = k327 1 1 m' ∧ Su (K + 22 * d) b0 b1 s3 s4 r' m' := by
  have f9 := fuel9_ge
  intro d
  induction d with
  | zero =>
    intro f t K r m h1 h2 h3 h hd
    obtain ⟨f, rfl⟩ : ∃ k, f = k + 1 := ⟨f - 1, by omega⟩
    rw [L_law_30, if_t (by omega)]
    exact ⟨r, m, rfl, h.mono (by omega)⟩
  | succ d ih =>
    intro f t K r m h1 h2 h3 h hd
    obtain ⟨f, rfl⟩ : ∃ k, f = k + 1 := ⟨f - 1, by omega⟩
    have e4 : m (-4) 0 = L := by rw [h.1.2.2.2.2.1.2]; exact h4
    have dr : Dr t 0 0 r := ⟨fun u a b => hd u (by omega) b, (hd t (Int.le_refl _) (by omega)).1, (hd t (Int.le_refl _) (by omega)).2⟩
    have go : ∀ x : Int, ∃ r' m', L_law_64 (L_law_30 k327 f) fuel9 1 1 t x 1 m = k327 1 1 m' ∧ Su (K + 22 * ((d + 1 : Nat) : Int)) b0 b1 s3 s4 r' m' := fun x => by
      obtain ⟨r1, m1, x1, x2, x3⟩ := p_64 (k30 := L_law_30 k327 f) h2 (by omega) 2 fuel9 0 x K r m (by omega) (by omega) (by omega) h dr
      obtain ⟨r2, m2, y1, y2⟩ := ih f (t + 1) (K + 22) r1 m1 (by omega) (by omega) (by omega) (x2.mono (by omega)) (fun u a b => x3.1 u (by omega) b)
      rw [Int.zero_add] at x1
      exact ⟨r2, m2, by rw [x1, y1], y2.mono (by omega)⟩
    rw [L_law_30, if_f (by omega), if_f (by decide), chk_t (by omega)]
    by_cases c : m (-4) 0 ≤ t
    · rw [if_t c, chk_t (by omega), chk_t (by omega)]; exact go _
    · rw [if_f c, chk_t (by omega)]; exact go _
/-- the clock and the counts are as new -/
theorem RelC.gn0 (h : RelC N r m) (e : ∀ j : Nat, j = 1 ∨ j = 29 ∨ j = 36 ∨ j = 37 → r j = fun _ => 0) : RelC 0 r m := by
  obtain ⟨h1, h2, a1, a2, a3, a4, a5, a6, a7, a8, a9⟩ := h
  refine ⟨h1, h2, a1, a2, a3, a4, a5, a6, a7, a8, ?_⟩
  unfold GN
  rw [e 1 (by omega), e 29 (by omega), e 36 (by omega), e 37 (by omega)]
  have z : (0 : Int) ≤ 0 ∧ (0 : Int) ≤ 0 := by decide
  exact ⟨by decide, by decide, fun _ _ _ => z, fun _ _ _ => z⟩
/-- the reference's fields, as new -/
def rst0 : Rst := fun j _ => if j = 35 then 9 else if j = 38 then 1 else if j = 39 then -1 else 0
theorem rst0_z {j : Nat} (h : j ≠ 35) (h2 : j ≠ 38) (h3 : j ≠ 39) : rst0 j = fun _ => 0 := by
  funext i
  unfold rst0
  rw [if_f h, if_f h2, if_f h3]
theorem rst0_px : Px nob nob nob rst0 := by
  have e16 : rst0 16 0 = 0 := by rw [rst0_z (by omega) (by omega) (by omega)]
  refine ⟨by omega, fun w a b => by omega, fun w _ _ => by rw [rst0_z (by omega) (by omega) (by omega)], fun w k _ _ _ _ => by rw [rst0_z (by omega) (by omega) (by omega)], fun p q _ _ _ _ => rfl⟩
theorem law_ok : LawOK := fun L xs hL => by
  have f9 := fuel9_ge
  have z0 : ∀ i, mem0 L xs (-1) i = 0 := fun i => by
    unfold mem0
    rw [if_neg (by decide), if_neg (fun h => absurd h.1 (by decide))]
  have zc : ∀ i, mem0 L xs (-2) i = 0 := fun i => by
    unfold mem0
    rw [if_neg (by decide), if_neg (fun h => absurd h.1 (by decide))]
  have z4 : mem0 L xs (-4) 0 = L := by
    unfold mem0
    rw [if_neg (by decide), if_pos ⟨rfl, rfl⟩]
  obtain ⟨m4, a1, a2⟩ := x_cls z0
  have k := a2
  obtain ⟨h1, h2, h3, h4, h5, h6, h7, h8, h9, h10⟩ := k
  rw [zc] at h9 h10
  obtain ⟨rc, gt⟩ := rel0c (r := rst0) a2 (fun j i _ x y w => by rw [rst0_z x y w]) (fun _ _ _ => rfl) (fun _ _ _ => rfl) (fun _ _ _ => rfl)
  have e4 : m4 (-4) 0 = L := by rw [h8.2, z4]
  have su : Su 0 (m4 (-2) 0) (m4 (-2) 1) (m4 (-3)) (m4 (-4)) rst0 m4 := by
    have e16 : rst0 16 0 = 0 := by rw [rst0_z (by omega) (by omega) (by omega)]
    exact ⟨⟨rc, gt, rst0_px, fun j hj => rst0_z (by omega) (by omega) (by omega), ⟨rfl, rfl⟩, by omega, by omega⟩, fun j hj => rst0_z (by omega) (by omega) (by omega)⟩
  obtain ⟨r1, m1, x1, x2⟩ := p_30 (k327 := L_law_327) (L := L) e4 (by omega) 3 fuel9 0 0 rst0 m4 (by omega) (by omega) (by omega) su (fun u _ _ => by rw [rst0_z (by omega) (by omega) (by omega), rst0_z (by omega) (by omega) (by omega)]; exact ⟨rfl, rfl⟩)
  obtain ⟨⟨s1, s2, s3, s4, s5⟩, sz⟩ := id x2
  have sw : Sw 0 66 (m4 (-2) 0) (m4 (-2) 1) (m4 (-3)) (m4 (-4)) r1 m1 := ⟨s1.gn0 fun j hj => sz j (by omega), s2, s3, s4, s5.1, by have := s5.2.1; omega, by have := s5.2.2; omega⟩
  have m14 : m1 (-4) 0 = L := by rw [s5.1.2]; exact e4
  have go : ∀ T : Int, T ≤ 180 → ∃ m', L_law_360 fuel9 1 1 T 0 m1 = some (1, m') ∧ m' (-2) 0 ≤ 600104 ∧ m' (-2) 1 ≤ 7301314 := fun T hT => by
    obtain ⟨m', y1, y2, y3⟩ := l_360 (L := L) e4 (by omega) hT 180 fuel9 0 0 66 r1 m1 (by omega) (by omega) (by omega) (by omega) (Or.inr (by omega)) sw
    exact ⟨m', y1, by omega, by omega⟩
  have fin : ∃ m', L_law_327 1 1 m1 = some (1, m') ∧ m' (-2) 0 ≤ 600104 ∧ m' (-2) 1 ≤ 7301314 := by
    unfold L_law_327
    rw [chk_t (by omega)]
    by_cases c : 40 ≤ m1 (-4) 0
    · rw [if_t c, chk_t (by omega)]
      by_cases d : 80 ≤ m1 (-4) 0
      · rw [if_t d]; exact go _ (by omega)
      · rw [if_f d, chk_t (by omega), chk_t (by omega)]; exact go _ (by omega)
    · rw [if_f c]; exact go _ (by omega)
  obtain ⟨m', y1, y2, y3⟩ := fin
  refine ⟨m', ?_, y2, y3⟩
  have c1 := q_clock rc
  have c2 := q_workflows rc
  rw [rst0_z (by omega) (by omega) (by omega)] at c1 c2
  unfold L_law L_law_0
  rw [chk_t (z0 1), st_e, a1, cal_e, c1, cal_e, if_t rfl, c2, cal_e, if_t rfl, x1, y1]
  exact boolR_e (Or.inr rfl)
end LOP
