/-! the class's constructor -/
section KC
variable {N : Int} {r r' : Rst} {m m' m0 m1 : Mem} {ty z : Int}
theorem fam_loop {k76 : Int → Int → Mem → Option R2} : ∀ (d : Nat) (l : Int) (t : Nat) (m : Mem), 3 - l = d → 0 ≤ l → d < t → m 1 0 = 2 → (∀ i, 1000 * (l + 1) ≤ i → i < 4000 → m (-1) i = 0) → ∃ m', X11_init_50 k76 t 1 l m = k76 1 0 m' ∧ (∀ i, ¬ (1000 * (l + 1) ≤ i ∧ i < 4000) → i ≠ 2 → i ≠ -1 → i ≠ -2 → m' i = m i) ∧ (∀ i, (∀ q, l ≤ q → q < 3 → ¬ (1000 * (q + 1) ≤ i ∧ i ≤ 1000 * (q + 1) + 13)) → m' (-1) i = m (-1) i) ∧ (m' (-2) 0 = m (-2) 0 + 6 * (3 - l) ∧ m' (-2) 1 = m (-2) 1 + 47 * (3 - l)) ∧ (∀ k, k < l → m' 2 k = m 2 k) ∧ ∀ q, l ≤ q → q < 3 → m' 2 q = 1000 * (q + 1) ∧ (m' (1000 * (q + 1)) 0 = 1000 * (q + 1) + 1 ∧ m' (1000 * (q + 1)) 1 = 0 ∧ m' (1000 * (q + 1)) 2 = 1000 * (q + 1) + 10) ∧ m' (1000 * (q + 1) + 10) 0 = 1000 * (q + 1) + 11 ∧ m' (1000 * (q + 1) + 10) 1 = 1000 * (q + 1) + 12 ∧ m' (1000 * (q + 1) + 10) 2 = 1000 * (q + 1) + 13 ∧ m' (1000 * (q + 1) + 10) 3 = 0 := by
  intro d
  induction d with
  | zero =>
    intro l t m hd l0 ht h1 fr
    obtain ⟨t, rfl⟩ : ∃ k, t = k + 1 := ⟨t - 1, by omega⟩
    refine ⟨m, by rw [X11_init_50, if_t (by omega)], fun _ _ _ _ _ => rfl, fun _ _ => rfl, ⟨by omega, by omega⟩, fun _ _ => rfl, fun q a b => by omega⟩
  | succ d ih =>
    intro l t m hd l0 ht h1 fr
    obtain ⟨t, rfl⟩ : ∃ k, t = k + 1 := ⟨t - 1, by omega⟩
    obtain ⟨F, hF⟩ : ∃ F, F = 1000 * (l + 1) := ⟨_, rfl⟩
    obtain ⟨m1, a1, a2, a3, a4, a5, a6⟩ := x_fam (m := m) (F := F) (by omega) (fun i b c => fr i (by omega) (by omega))
    obtain ⟨m2, hm2⟩ : ∃ m2, m2 = upd9 m1 2 l F := ⟨_, rfl⟩
    have o2 : ∀ i, i ≠ 2 → m2 i = m1 i := fun i b => by rw [hm2, upd9_row b]
    have v2 : ∀ k, m2 2 k = if k = l then F else m 2 k := fun k => by
      rw [hm2]
      by_cases c : k = l
      · rw [if_t c, upd9_e rfl c]
      · rw [if_f c, upd9_n (Or.inr c), a2 2 (by omega) (by omega) (by omega)]
    obtain ⟨m', b1, b2, b3, b4, b5, b6⟩ := ih (l + 1) t m2 (by omega) (by omega) (by omega) (by rw [o2 1 (by omega), a2 1 (by omega) (by omega) (by omega)]; exact h1) (fun i b c => by rw [o2 (-1) (by omega), a3 i (by omega)]; exact fr i (by omega) c)
    refine ⟨m', ?_, fun i b c e f => by rw [b2 i (by omega) c e f, o2 i c, a2 i (by omega) e f], fun i b => ?_, ⟨by rw [b4.1, o2 (-2) (by omega), a4.1]; omega, by rw [b4.2, o2 (-2) (by omega), a4.2]; omega⟩, fun k b => by rw [b5 k (by omega), v2, if_f (by omega)], fun q b c => ?_⟩
    · have fF := fr F (by omega) (by omega)
      rw [← b1, X11_init_50, if_f (by omega), vl_e, ← hF, st_e, a1, cal_e, h1, st_e, ← hm2]
      repeat rw [chk_t (by omega)]
    · rw [b3 i (fun q x y => b q (by omega) y), o2 (-1) (by omega), a3 i (by have := b l (Int.le_refl _) (by omega); omega)]
    · by_cases e : q = l
      · rw [e, b5 l (by omega), v2, if_t rfl, ← hF, b2 F (by omega) (by omega) (by omega) (by omega), b2 (F + 10) (by omega) (by omega) (by omega) (by omega), o2 F (by omega), o2 (F + 10) (by omega)]
        exact ⟨rfl, a5, a6⟩
      · exact b6 q (by omega) c
theorem que_loop {k102 : Int → Int → Mem → Option R2} : ∀ (d : Nat) (l : Int) (t : Nat) (m : Mem), 2 - l = d → 0 ≤ l → d < t → m 1 2 = 4 → (∀ i, 5000 + 10 * l ≤ i → i < 5100 → m (-1) i = 0) → ∃ m', X11_init_76 k102 t 1 l m = k102 1 0 m' ∧ (∀ i, ¬ (5000 + 10 * l ≤ i ∧ i < 5100) → i ≠ 4 → i ≠ -1 → i ≠ -2 → m' i = m i) ∧ (∀ i, ¬ (5000 + 10 * l ≤ i ∧ i < 5100) → m' (-1) i = m (-1) i) ∧ (m' (-2) 0 = m (-2) 0 + 2 * (2 - l) ∧ m' (-2) 1 = m (-2) 1 + 6 * (2 - l)) ∧ (∀ k, k < l → m' 4 k = m 4 k) ∧ ∀ q, l ≤ q → q < 2 → m' 4 q = 5000 + 10 * q ∧ (m' (5000 + 10 * q) 0 = 5000 + 10 * q + 1 ∧ m' (5000 + 10 * q) 1 = 9 ∧ m' (5000 + 10 * q) 2 = 0) ∧ ∀ k, m' (5000 + 10 * q + 1) k = 0 := by
  intro d
  induction d with
  | zero =>
    intro l t m hd l0 ht h1 fr
    obtain ⟨t, rfl⟩ : ∃ k, t = k + 1 := ⟨t - 1, by omega⟩
    refine ⟨m, by rw [X11_init_76, if_t (by omega)], fun _ _ _ _ _ => rfl, fun _ _ => rfl, ⟨by omega, by omega⟩, fun _ _ => rfl, fun q a b => by omega⟩
  | succ d ih =>
    intro l t m hd l0 ht h1 fr
    obtain ⟨t, rfl⟩ : ∃ k, t = k + 1 := ⟨t - 1, by omega⟩
    obtain ⟨F, hF⟩ : ∃ F, F = 5000 + 10 * l := ⟨_, rfl⟩
    obtain ⟨m1, a1, a2, a3, a4, a5, a6⟩ := x_que (m := m) (Q := F) (by omega) (fr _ (by omega) (by omega))
    obtain ⟨m2, hm2⟩ : ∃ m2, m2 = upd9 m1 4 l F := ⟨_, rfl⟩
    have o2 : ∀ i, i ≠ 4 → m2 i = m1 i := fun i b => by rw [hm2, upd9_row b]
    have v2 : ∀ k, m2 4 k = if k = l then F else m 4 k := fun k => by
      rw [hm2]
      by_cases c : k = l
      · rw [if_t c, upd9_e rfl c]
      · rw [if_f c, upd9_n (Or.inr c), a2 4 (by omega) (by omega) (by omega)]
    obtain ⟨m', b1, b2, b3, b4, b5, b6⟩ := ih (l + 1) t m2 (by omega) (by omega) (by omega) (by rw [o2 1 (by omega), a2 1 (by omega) (by omega) (by omega)]; exact h1) (fun i b c => by rw [o2 (-1) (by omega), a3 i (by omega)]; exact fr i (by omega) c)
    refine ⟨m', ?_, fun i b c e f => by rw [b2 i (by omega) c e f, o2 i c, a2 i (by omega) e f], fun i b => by rw [b3 i (by omega), o2 (-1) (by omega), a3 i (by omega)], ⟨by rw [b4.1, o2 (-2) (by omega), a4.1]; omega, by rw [b4.2, o2 (-2) (by omega), a4.2]; omega⟩, fun k b => by rw [b5 k (by omega), v2, if_f (by omega)], fun q b c => ?_⟩
    · have fF := fr F (by omega) (by omega)
      rw [← b1, X11_init_76, if_f (by omega), vl_e, ← hF, st_e, a1, cal_e, h1, st_e, ← hm2]
      repeat rw [chk_t (by omega)]
    · by_cases e : q = l
      · rw [e, b5 l (by omega), v2, if_t rfl, ← hF, b2 F (by omega) (by omega) (by omega) (by omega), b2 (F + 1) (by omega) (by omega) (by omega) (by omega), o2 F (by omega), o2 (F + 1) (by omega)]
        exact ⟨rfl, a5, a6⟩
      · exact b6 q (by omega) c
theorem wrk_loop : ∀ (d : Nat) (l : Int) (t : Nat) (m : Mem), 4 - l = d → 0 ≤ l → d < t → m 1 3 = 5 → (∀ i, 5100 + l ≤ i → i < 5104 → m (-1) i = 0) → ∃ m', X11_init_102 t 1 l m = some (0, m') ∧ (∀ i, ¬ (5100 + l ≤ i ∧ i < 5104) → i ≠ 5 → i ≠ -1 → i ≠ -2 → m' i = m i) ∧ (∀ i, ¬ (5100 + l ≤ i ∧ i < 5104) → m' (-1) i = m (-1) i) ∧ (m' (-2) 0 = m (-2) 0 + (4 - l) ∧ m' (-2) 1 = m (-2) 1 + 2 * (4 - l)) ∧ (∀ k, k < l → m' 5 k = m 5 k) ∧ ∀ q, l ≤ q → q < 4 → m' 5 q = 5100 + q ∧ m' (5100 + q) 0 = 1 ∧ m' (5100 + q) 1 = 0 := by
  intro d
  induction d with
  | zero =>
    intro l t m hd l0 ht h1 fr
    obtain ⟨t, rfl⟩ : ∃ k, t = k + 1 := ⟨t - 1, by omega⟩
    refine ⟨m, by rw [X11_init_102, if_t (by omega)], fun _ _ _ _ _ => rfl, fun _ _ => rfl, ⟨by omega, by omega⟩, fun _ _ => rfl, fun q a b => by omega⟩
  | succ d ih =>
    intro l t m hd l0 ht h1 fr
    obtain ⟨t, rfl⟩ : ∃ k, t = k + 1 := ⟨t - 1, by omega⟩
    obtain ⟨F, hF⟩ : ∃ F, F = 5100 + l := ⟨_, rfl⟩
    obtain ⟨m1, a1, a2, a3, a4, a5, a6⟩ := x_wrk (m := m) (Q := F) (by omega)
    obtain ⟨m2, hm2⟩ : ∃ m2, m2 = upd9 m1 5 l F := ⟨_, rfl⟩
    have o2 : ∀ i, i ≠ 5 → m2 i = m1 i := fun i b => by rw [hm2, upd9_row b]
    have v2 : ∀ k, m2 5 k = if k = l then F else m 5 k := fun k => by
      rw [hm2]
      by_cases c : k = l
      · rw [if_t c, upd9_e rfl c]
      · rw [if_f c, upd9_n (Or.inr c), a2 5 (by omega) (by omega) (by omega)]
    obtain ⟨m', b1, b2, b3, b4, b5, b6⟩ := ih (l + 1) t m2 (by omega) (by omega) (by omega) (by rw [o2 1 (by omega), a2 1 (by omega) (by omega) (by omega)]; exact h1) (fun i b c => by rw [o2 (-1) (by omega), a3 i (by omega)]; exact fr i (by omega) c)
    refine ⟨m', ?_, fun i b c e f => by rw [b2 i (by omega) c e f, o2 i c, a2 i (by omega) e f], fun i b => by rw [b3 i (by omega), o2 (-1) (by omega), a3 i (by omega)], ⟨by rw [b4.1, o2 (-2) (by omega), a4.1]; omega, by rw [b4.2, o2 (-2) (by omega), a4.2]; omega⟩, fun k b => by rw [b5 k (by omega), v2, if_f (by omega)], fun q b c => ?_⟩
    · have fF := fr F (by omega) (by omega)
      rw [← b1, X11_init_102, if_f (by omega), vl_e, ← hF, st_e, a1, cal_e, h1, st_e, ← hm2]
      repeat rw [chk_t (by omega)]
    · by_cases e : q = l
      · rw [e, b5 l (by omega), v2, if_t rfl, ← hF, b2 F (by omega) (by omega) (by omega) (by omega), o2 F (by omega)]
        exact ⟨rfl, a5, a6⟩
      · exact b6 q (by omega) c
/-- what the class's memory is like when it is new -/
def Cl0 (m0 m : Mem) : Prop := (m 1 0 = 2 ∧ m 1 1 = 3 ∧ m 1 2 = 4 ∧ m 1 3 = 5 ∧ m 1 4 = 100 ∧ m 1 5 = 0 ∧ m 1 6 = 0 ∧ m 1 7 = 0) ∧ Pl m ∧ (∀ q, 0 ≤ q → q < 3 → m 2 q = 1000 * (q + 1) ∧ (m (1000 * (q + 1)) 0 = 1000 * (q + 1) + 1 ∧ m (1000 * (q + 1)) 1 = 0 ∧ m (1000 * (q + 1)) 2 = 1000 * (q + 1) + 10) ∧ m (1000 * (q + 1) + 10) 0 = 1000 * (q + 1) + 11 ∧ m (1000 * (q + 1) + 10) 1 = 1000 * (q + 1) + 12 ∧ m (1000 * (q + 1) + 10) 2 = 1000 * (q + 1) + 13 ∧ m (1000 * (q + 1) + 10) 3 = 0) ∧ (∀ q, 0 ≤ q → q < 2 → m 4 q = 5000 + 10 * q ∧ (m (5000 + 10 * q) 0 = 5000 + 10 * q + 1 ∧ m (5000 + 10 * q) 1 = 9 ∧ m (5000 + 10 * q) 2 = 0) ∧ ∀ k, m (5000 + 10 * q + 1) k = 0) ∧ (∀ q, 0 ≤ q → q < 4 → m 5 q = 5100 + q ∧ m (5100 + q) 0 = 1 ∧ m (5100 + q) 1 = 0) ∧ (∀ i, (6 ≤ i ∧ i < 100) ∨ 5104 ≤ i → m (-1) i = 0) ∧ (∀ t, 0 ≤ t → t < 3 → ∀ i, 1000 * (t + 1) + 14 ≤ i → i < 1000 * (t + 2) → m (-1) i = 0) ∧ (m (-3) = m0 (-3) ∧ m (-4) = m0 (-4)) ∧ m (-2) 0 ≤ m0 (-2) 0 + 100 ∧ m (-2) 1 ≤ m0 (-2) 1 + 1200
theorem x_cls (fr : ∀ i, m0 (-1) i = 0) : ∃ m, X11_init 1 (alo9 m0 1 21 8) = some (0, m) ∧ Cl0 m0 m := by
  have f9 := fuel9_ge
  unfold X11_init X11_init_0
  have f0 : ∀ i, 1 < i → alo9 m0 1 21 8 (-1) i = 0 := fun i b => by rw [alo_t (by decide), if_f (by omega)]; exact fr i
  obtain ⟨ma, a1, a2, a3, a4, a5, a6, a7⟩ := stp (m := alo9 m0 1 21 8) (i := 2) (a := 1) (j := 0) (ty := 402003) (z := 3) (by decide) (by decide) (by decide)
  obtain ⟨mb, b1, b2, b3, b4, b5, b6, b7⟩ := stp (m := ma) (i := 3) (a := 1) (j := 1) (ty := 410010) (z := 10) (by decide) (by decide) (by decide)
  obtain ⟨mc, c1, c2, c3, c4, c5, c6, c7⟩ := stp (m := mb) (i := 4) (a := 1) (j := 2) (ty := 406002) (z := 2) (by decide) (by decide) (by decide)
  obtain ⟨md, d1, d2, d3, d4, d5, d6, d7⟩ := stp (m := mc) (i := 5) (a := 1) (j := 3) (ty := 409004) (z := 4) (by decide) (by decide) (by decide)
  have za : ∀ i, 2 < i → ma (-1) i = 0 := fun i b => by rw [a3 i (by omega)]; exact f0 i (by omega)
  have zb : ∀ i, 3 < i → mb (-1) i = 0 := fun i b => by rw [b3 i (by omega)]; exact za i (by omega)
  have zc : ∀ i, 4 < i → mc (-1) i = 0 := fun i b => by rw [c3 i (by omega)]; exact zb i (by omega)
  have zd : ∀ i, 5 < i → md (-1) i = 0 := fun i b => by rw [d3 i (by omega)]; exact zc i (by omega)
  obtain ⟨me, e1, e2, e3, e4, e5⟩ := x_ply (m := md) (fun i b c => zd i (by omega))
  obtain ⟨mf, hmf⟩ : ∃ mf, mf = upd9 me 1 4 100 := ⟨_, rfl⟩
  have of : ∀ i, i ≠ 1 → mf i = me i := fun i b => by rw [hmf, upd9_row b]
  have v1 : ∀ k, mf 1 k = if k = 4 then 100 else if k = 3 then 5 else if k = 2 then 4 else if k = 1 then 3 else if k = 0 then 2 else 0 := fun k => by
    rw [hmf]
    by_cases c : k = 4
    · rw [if_t c, upd9_e rfl c]
    · rw [if_f c, upd9_n (Or.inr c), e2 1 (by omega) (by omega) (by omega), d4, c4, b4, a4, alo_z]
  have zf : ∀ i, 5 < i → ¬ (100 ≤ i ∧ i ≤ 139) → mf (-1) i = 0 := fun i b c => by rw [of (-1) (by omega), e3 i c]; exact zd i b
  obtain ⟨mg, g1, g2, g3, g4, g5, g6⟩ := fam_loop (k76 := X11_init_76 (X11_init_102 fuel9) fuel9) 3 0 fuel9 mf (by omega) (by omega) (by omega) (by rw [v1]; rfl) (fun i b c => zf i (by omega) (by omega))
  have zg : ∀ i, 4000 ≤ i → mg (-1) i = 0 := fun i b => by rw [g3 i (fun q x y => by omega)]; exact zf i (by omega) (by omega)
  obtain ⟨mh, h1, h2, h3, h4, h5, h6⟩ := que_loop (k102 := X11_init_102 fuel9) 2 0 fuel9 mg (by omega) (by omega) (by omega) (by rw [g2 1 (by omega) (by omega) (by omega) (by omega), v1]; rfl) (fun i b c => zg i (by omega))
  obtain ⟨mi, i1, i2, i3, i4, i5, i6⟩ := wrk_loop 4 0 fuel9 mh (by omega) (by omega) (by omega) (by rw [h2 1 (by omega) (by omega) (by omega) (by omega), g2 1 (by omega) (by omega) (by omega) (by omega), v1]; rfl) (fun i b c => by rw [h3 i (by omega)]; exact zg i (by omega))
  have r1 : ∀ k, mi 1 k = mf 1 k := fun k => by rw [i2 1 (by omega) (by omega) (by omega) (by omega), h2 1 (by omega) (by omega) (by omega) (by omega), g2 1 (by omega) (by omega) (by omega) (by omega)]
  have rg : ∀ i, i < 5000 → i ≠ 4 → i ≠ 5 → i ≠ -1 → i ≠ -2 → mi i = mg i := fun i b c d e f => by rw [i2 i (by omega) d e f, h2 i (by omega) c e f]
  have rp : ∀ i, 100 ≤ i → i ≤ 139 → mi i = me i := fun i b c => by rw [rg i (by omega) (by omega) (by omega) (by omega) (by omega), g2 i (by omega) (by omega) (by omega) (by omega), of i (by omega)]
  refine ⟨mi, ?_, ⟨?_, ?_, ?_, ?_, ?_, ?_, ?_, ?_⟩, e5.rows rp, fun q b c => ?_, fun q b c => ?_, fun q b c => i6 q b c, fun i b => ?_, fun t b c i d e => ?_, ⟨?_, ?_⟩, ?_, ?_⟩
  · rw [chk_t (by decide), chk_t (f0 2 (by decide)), st_e, st_e, ← a1, chk_t (za 3 (by decide)), st_e, st_e, ← b1, chk_t (zb 4 (by decide)), st_e, st_e, ← c1, chk_t (zc 5 (by decide)), st_e, st_e, ← d1, chk_t (zd 100 (by decide)), st_e, e1, cal_e, st_e, ← hmf, g1, h1, i1]
  · rw [r1, v1]; rfl
  · rw [r1, v1]; rfl
  · rw [r1, v1]; rfl
  · rw [r1, v1]; rfl
  · rw [r1, v1]; rfl
  · rw [r1, v1]; rfl
  · rw [r1, v1]; rfl
  · rw [r1, v1]; rfl
  · have k := g6 q b c
    rw [rg 2 (by omega) (by omega) (by omega) (by omega) (by omega), rg (1000 * (q + 1)) (by omega) (by omega) (by omega) (by omega) (by omega), rg (1000 * (q + 1) + 10) (by omega) (by omega) (by omega) (by omega) (by omega)]
    exact k
  · have k := h6 q b c
    rw [i2 4 (by omega) (by omega) (by omega) (by omega), i2 (5000 + 10 * q) (by omega) (by omega) (by omega) (by omega), i2 (5000 + 10 * q + 1) (by omega) (by omega) (by omega) (by omega)]
    exact k
  · rw [i3 i (by omega), h3 i (by omega), g3 i (fun q x y => by omega)]
    exact zf i (by omega) (by omega)
  · rw [i3 i (by omega), h3 i (by omega), g3 i (fun q x y => by omega)]
    exact zf i (by omega) (by omega)
  · rw [rg _ (by omega) (by omega) (by omega) (by omega) (by omega), g2 _ (by omega) (by omega) (by omega) (by omega), of _ (by omega), e2 _ (by omega) (by omega) (by omega), d2 _ (by omega) (by omega) (by omega) (by omega), c2 _ (by omega) (by omega) (by omega) (by omega), b2 _ (by omega) (by omega) (by omega) (by omega), a2 _ (by omega) (by omega) (by omega) (by omega), alo_row (by omega) (by omega) (by omega)]
  · rw [rg _ (by omega) (by omega) (by omega) (by omega) (by omega), g2 _ (by omega) (by omega) (by omega) (by omega), of _ (by omega), e2 _ (by omega) (by omega) (by omega), d2 _ (by omega) (by omega) (by omega) (by omega), c2 _ (by omega) (by omega) (by omega) (by omega), b2 _ (by omega) (by omega) (by omega) (by omega), a2 _ (by omega) (by omega) (by omega) (by omega), alo_row (by omega) (by omega) (by omega)]
  · rw [i4.1, h4.1, g4.1, of (-2) (by omega), e4.1, d6, c6, b6, a6, (alo_c (by decide)).1]; omega
  · rw [i4.2, h4.2, g4.2, of (-2) (by omega), e4.2, d7, c7, b7, a7, (alo_c (by decide)).2]; omega
end KC
