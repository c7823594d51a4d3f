/-! the constructors -/
section KO
variable {N : Int} {r r' : Rst} {m m' m0 m1 : Mem} {i a j ty z k Q F K : Int}
theorem stp (hi : 0 < i) (ha : 0 < a) (hia : i ≠ a) : ∃ m', m' = upd9 (alo9 m i ty z) a j i ∧ (∀ k, k ≠ i → k ≠ a → k ≠ -1 → k ≠ -2 → m' k = m k) ∧ (∀ k, k ≠ i → m' (-1) k = m (-1) k) ∧ (∀ k, m' a k = if k = j then i else m a k) ∧ (∀ k, m' i k = 0) ∧ m' (-2) 0 = m (-2) 0 + 1 ∧ m' (-2) 1 = m (-2) 1 + z := by
  refine ⟨_, rfl, fun k b c d e => by rw [upd9_row c, alo_row b d e], fun k b => by rw [upd9_n (by omega), alo_t hi, if_f b], fun k => ?_, fun k => by rw [upd9_n (by omega), alo_z], by rw [upd9_n (by omega), (alo_c hi).1], by rw [upd9_n (by omega), (alo_c hi).2]⟩
  by_cases c : k = j
  · rw [if_t c, upd9_e rfl c]
  · rw [if_f c, upd9_n (Or.inr c), alo_row (by omega) (by omega) (by omega)]
/-- a queue, a worker, a family, as they are made -/
theorem x_que (hQ : 0 < Q) (fr : m (-1) (Q + 1) = 0) : ∃ m', X6_init Q (alo9 m Q 16 3) = some (0, m') ∧ (∀ i, ¬ (Q ≤ i ∧ i ≤ Q + 1) → i ≠ -1 → i ≠ -2 → m' i = m i) ∧ (∀ i, ¬ (Q ≤ i ∧ i ≤ Q + 1) → m' (-1) i = m (-1) i) ∧ (m' (-2) 0 = m (-2) 0 + 2 ∧ m' (-2) 1 = m (-2) 1 + 6) ∧ (m' Q 0 = Q + 1 ∧ m' Q 1 = 9 ∧ m' Q 2 = 0) ∧ ∀ k, m' (Q + 1) k = 0 := by
  unfold X6_init X6_init_0
  obtain ⟨m1, h1, h2, h3, h4, h5, h6, h7⟩ := stp (m := alo9 m Q 16 3) (i := Q + 1) (a := Q) (j := 0) (ty := 100003) (z := 3) (by omega) hQ (by omega)
  have f : alo9 m Q 16 3 (-1) (Q + 1) = 0 := by rw [alo_t hQ, if_f (by omega)]; exact fr
  rw [chk_t hQ, vl_e, chk_t ⟨by omega, f⟩, st_e, st_e, ← h1, st_e]
  refine ⟨_, rfl, fun i b c d => by rw [upd9_row (by omega), h2 i (by omega) (by omega) c d, alo_row (by omega) c d], fun i b => by rw [upd9_n (by omega), h3 i (by omega), alo_t hQ, if_f (by omega)], ⟨by rw [upd9_n (by omega), h6, (alo_c hQ).1]; omega, by rw [upd9_n (by omega), h7, (alo_c hQ).2]; omega⟩, ⟨by rw [upd9_n (by omega), h4, if_t rfl], upd9_e rfl rfl, by rw [upd9_n (by omega), h4, if_f (by decide), alo_z]⟩, fun k => by rw [upd9_row (by omega), h5]⟩
theorem x_wrk (hQ : 0 < Q) : ∃ m', X9_init Q (alo9 m Q 19 2) = some (0, m') ∧ (∀ i, i ≠ Q → i ≠ -1 → i ≠ -2 → m' i = m i) ∧ (∀ i, i ≠ Q → m' (-1) i = m (-1) i) ∧ (m' (-2) 0 = m (-2) 0 + 1 ∧ m' (-2) 1 = m (-2) 1 + 2) ∧ m' Q 0 = 1 ∧ m' Q 1 = 0 := by
  unfold X9_init X9_init_0
  rw [chk_t hQ, st_e]
  exact ⟨_, rfl, fun i b c d => by rw [upd9_row b, alo_row b c d], fun i b => by rw [upd9_n (by omega), alo_t hQ, if_f b], ⟨by rw [upd9_n (by omega), (alo_c hQ).1], by rw [upd9_n (by omega), (alo_c hQ).2]⟩, upd9_e rfl rfl, by rw [upd9_n (by omega), alo_z]⟩
theorem x_fam (hF : 0 < F) (fr : ∀ i, F ≤ i → i ≤ F + 13 → m (-1) i = 0) : ∃ m', X2_init F (alo9 m F 12 3) = some (0, m') ∧ (∀ i, ¬ (F ≤ i ∧ i ≤ F + 13) → i ≠ -1 → i ≠ -2 → m' i = m i) ∧ (∀ i, ¬ (F ≤ i ∧ i ≤ F + 13) → m' (-1) i = m (-1) i) ∧ (m' (-2) 0 = m (-2) 0 + 6 ∧ m' (-2) 1 = m (-2) 1 + 47) ∧ (m' F 0 = F + 1 ∧ m' F 1 = 0 ∧ m' F 2 = F + 10) ∧ (m' (F + 10) 0 = F + 11 ∧ m' (F + 10) 1 = F + 12 ∧ m' (F + 10) 2 = F + 13 ∧ m' (F + 10) 3 = 0) := by
  unfold X2_init X2_init_0
  obtain ⟨m1, h1, h2, h3, h4, h5, h6, h7⟩ := stp (m := alo9 m F 12 3) (i := F + 1) (a := F) (j := 0) (ty := 405004) (z := 4) (by omega) hF (by omega)
  have f : alo9 m F 12 3 (-1) (F + 1) = 0 := by rw [alo_t hF, if_f (by omega)]; exact fr _ (by omega) (by omega)
  have m1z : ∀ i, F + 10 ≤ i → i ≤ F + 13 → m1 (-1) i = 0 := fun i b c => by rw [h3 i (by omega), alo_t hF, if_f (by omega)]; exact fr i (by omega) c
  obtain ⟨m2, z1, z2, z3, z4, z5⟩ := x_newProg (m := m1) (Q := F + 10) (by omega) (fun i b c => m1z i b (by omega))
  have f2 := m1z (F + 10) (by omega) (by omega)
  rw [chk_t hF, vl_e, chk_t ⟨by omega, f⟩, st_e, st_e, ← h1, vl_e, chk_t ⟨by omega, f2⟩, st_e, z1, cal_e, st_e]
  refine ⟨_, rfl, fun i b c d => by rw [upd9_row (by omega), z2 i (by omega) c d, h2 i (by omega) (by omega) c d, alo_row (by omega) c d], fun i b => by rw [upd9_n (by omega), z3 i (by omega), h3 i (by omega), alo_t hF, if_f (by omega)], ⟨by rw [upd9_n (by omega), z4.1, h6, (alo_c hF).1]; omega, by rw [upd9_n (by omega), z4.2, h7, (alo_c hF).2]; omega⟩, ⟨by rw [upd9_n (by omega), z2 F (by omega) (by omega) (by omega), h4, if_t rfl], by rw [upd9_n (by omega), z2 F (by omega) (by omega) (by omega), h4, if_f (by decide), alo_z], upd9_e rfl rfl⟩, ?_⟩
  rw [upd9_row (by omega), z5.1, z5.2.1, z5.2.2.1, z5.2.2.2]
  exact ⟨by omega, by omega, by omega, rfl⟩
/-- what the player decides -/
theorem x_dec (fr : ∀ i, 101 ≤ i → i ≤ 108 → m (-1) i = 0) : ∃ m', X1_init 101 (alo9 m 101 11 12) = some (0, m') ∧ (∀ i, ¬ (101 ≤ i ∧ i ≤ 108) → i ≠ -1 → i ≠ -2 → m' i = m i) ∧ (∀ i, ¬ (101 ≤ i ∧ i ≤ 108) → m' (-1) i = m (-1) i) ∧ (m' (-2) 0 = m (-2) 0 + 8 ∧ m' (-2) 1 = m (-2) 1 + 496) ∧ m' 101 0 = 102 ∧ m' 101 1 = 103 ∧ m' 101 2 = 104 := by
  unfold X1_init X1_init_0
  obtain ⟨m1, a1, a2, a3, a4, a5, a6, a7⟩ := stp (m := alo9 m 101 11 12) (i := 101 + 1) (a := 101) (j := 0) (ty := 100080) (z := 80) (by decide) (by decide) (by decide)
  obtain ⟨m2, b1, b2, b3, b4, b5, b6, b7⟩ := stp (m := m1) (i := 101 + 2) (a := 101) (j := 1) (ty := 100080) (z := 80) (by decide) (by decide) (by decide)
  obtain ⟨m3, c1, c2, c3, c4, c5, c6, c7⟩ := stp (m := m2) (i := 101 + 3) (a := 101) (j := 2) (ty := 100080) (z := 80) (by decide) (by decide) (by decide)
  have f0 : ∀ i, 101 < i → i ≤ 108 → alo9 m 101 11 12 (-1) i = 0 := fun i b c => by rw [alo_t (by decide), if_f (by omega)]; exact fr i (by omega) c
  have f1 : ∀ i, 102 < i → i ≤ 108 → m1 (-1) i = 0 := fun i b c => by rw [a3 i (by omega)]; exact f0 i (by omega) c
  have f2 : ∀ i, 103 < i → i ≤ 108 → m2 (-1) i = 0 := fun i b c => by rw [b3 i (by omega)]; exact f1 i (by omega) c
  have f3 : ∀ i, 104 < i → i ≤ 108 → m3 (-1) i = 0 := fun i b c => by rw [c3 i (by omega)]; exact f2 i (by omega) c
  obtain ⟨m4, z1, z2, z3, z4, z5⟩ := x_newHist (m := m3) (Q := 101 + 4) (by decide) (fun i b c => f3 i (by omega) (by omega))
  rw [chk_t (by decide), vl_e, chk_t ⟨by decide, f0 _ (by decide) (by decide)⟩, st_e, st_e, ← a1, vl_e, chk_t ⟨by decide, f1 _ (by decide) (by decide)⟩, st_e, st_e, ← b1, vl_e, chk_t ⟨by decide, f2 _ (by decide) (by decide)⟩, st_e, st_e, ← c1, vl_e, chk_t ⟨by decide, f3 _ (by decide) (by decide)⟩, st_e, z1, cal_e, st_e]
  refine ⟨_, rfl, fun i b c d => by rw [upd9_row (by omega), z2 i (by omega) c d, c2 i (by omega) (by omega) c d, b2 i (by omega) (by omega) c d, a2 i (by omega) (by omega) c d, alo_row (by omega) c d], fun i b => by rw [upd9_n (by omega), z3 i (by omega), c3 i (by omega), b3 i (by omega), a3 i (by omega), alo_t (by decide), if_f (by omega)], ⟨by rw [upd9_n (by omega), z4.1, c6, b6, a6, (alo_c (by decide)).1]; omega, by rw [upd9_n (by omega), z4.2, c7, b7, a7, (alo_c (by decide)).2]; omega⟩, ?_, ?_, ?_⟩
  · rw [upd9_n (by omega), z2 101 (by omega) (by omega) (by omega), c4, if_f (by decide), b4, if_f (by decide), a4, if_t rfl]; rfl
  · rw [upd9_n (by omega), z2 101 (by omega) (by omega) (by omega), c4, if_f (by decide), b4, if_t rfl]; rfl
  · rw [upd9_n (by omega), z2 101 (by omega) (by omega) (by omega), c4, if_t rfl]; rfl
/-- the player -/
theorem x_ply (fr : ∀ i, 100 ≤ i → i ≤ 139 → m (-1) i = 0) : ∃ m', X4_init 100 (alo9 m 100 14 20) = some (0, m') ∧ (∀ i, ¬ (100 ≤ i ∧ i ≤ 139) → i ≠ -1 → i ≠ -2 → m' i = m i) ∧ (∀ i, ¬ (100 ≤ i ∧ i ≤ 139) → m' (-1) i = m (-1) i) ∧ (m' (-2) 0 = m (-2) 0 + 20 ∧ m' (-2) 1 = m (-2) 1 + 823) ∧ Pl m' := by
  have f9 := fuel9_ge
  unfold X4_init X4_init_0
  have f0 : ∀ i, 100 < i → i ≤ 139 → alo9 m 100 14 20 (-1) i = 0 := fun i b c => by rw [alo_t (by decide), if_f (by omega)]; exact fr i (by omega) c
  obtain ⟨m7, y1, y2, y3, y4, y5, y6, y7⟩ := x_dec (m := alo9 m 100 14 20) (fun i b c => f0 i (by omega) (by omega))
  obtain ⟨m9, hm9⟩ : ∃ m9, m9 = upd9 m7 100 0 (100 + 1) := ⟨_, rfl⟩
  have o9 : ∀ i, i ≠ 100 → m9 i = m7 i := fun i b => by rw [hm9, upd9_row b]
  have v9 : ∀ k, m9 100 k = if k = 0 then 101 else 0 := fun k => by
    rw [hm9]
    by_cases c : k = 0
    · rw [if_t c, upd9_e rfl c]; rfl
    · rw [if_f c, upd9_n (by omega), y2 100 (by omega) (by omega) (by omega), alo_z]
  obtain ⟨ma, a1, a2, a3, a4, a5, a6, a7⟩ := stp (m := m9) (i := 100 + 10) (a := 100) (j := 1) (ty := 200080) (z := 80) (by decide) (by decide) (by decide)
  obtain ⟨mb, b1, b2, b3, b4, b5, b6, b7⟩ := stp (m := ma) (i := 100 + 11) (a := 100) (j := 3) (ty := 408003) (z := 3) (by decide) (by decide) (by decide)
  obtain ⟨mc, c1, c2, c3, c4, c5, c6, c7⟩ := stp (m := mb) (i := 100 + 12) (a := 100) (j := 4) (ty := 100080) (z := 80) (by decide) (by decide) (by decide)
  obtain ⟨md, d1, d2, d3, d4, d5, d6, d7⟩ := stp (m := mc) (i := 100 + 13) (a := 100) (j := 5) (ty := 100080) (z := 80) (by decide) (by decide) (by decide)
  have z9 : ∀ i, 109 < i → i ≤ 139 → m9 (-1) i = 0 := fun i b c => by rw [o9 _ (by omega), y3 i (by omega)]; exact f0 i (by omega) c
  have za : ∀ i, 110 < i → i ≤ 139 → ma (-1) i = 0 := fun i b c => by rw [a3 i (by omega)]; exact z9 i (by omega) c
  have zb : ∀ i, 111 < i → i ≤ 139 → mb (-1) i = 0 := fun i b c => by rw [b3 i (by omega)]; exact za i (by omega) c
  have zc : ∀ i, 112 < i → i ≤ 139 → mc (-1) i = 0 := fun i b c => by rw [c3 i (by omega)]; exact zb i (by omega) c
  have zd : ∀ i, 113 < i → i ≤ 139 → md (-1) i = 0 := fun i b c => by rw [d3 i (by omega)]; exact zc i (by omega) c
  obtain ⟨me, e1, e2, e3, e4, e5⟩ := x_newProg (m := md) (Q := 100 + 20) (by decide) (fun i b c => zd i (by omega) (by omega))
  obtain ⟨mf, hmf⟩ : ∃ mf, mf = upd9 me 100 7 (100 + 20) := ⟨_, rfl⟩
  have of : ∀ i, i ≠ 100 → mf i = me i := fun i b => by rw [hmf, upd9_row b]
  have vf : ∀ k, k ≠ 7 → mf 100 k = md 100 k := fun k b => by rw [hmf, upd9_n (Or.inr b), e2 100 (by omega) (by omega) (by omega)]
  have zf : ∀ i, 123 < i → i ≤ 139 → mf (-1) i = 0 := fun i b c => by rw [of _ (by omega), e3 i (by omega)]; exact zd i (by omega) c
  obtain ⟨mg, g1, g2, g3, g4, g5, g6, g7⟩ := stp (m := mf) (i := 100 + 30 + 0) (a := 111) (j := 0) (ty := 18) (z := 8) (by decide) (by decide) (by decide)
  obtain ⟨mh, h1, h2, h3, h4, h5, h6, h7⟩ := stp (m := mg) (i := 100 + 30 + (0 + 1)) (a := 111) (j := 0 + 1) (ty := 18) (z := 8) (by decide) (by decide) (by decide)
  obtain ⟨mi, i1, i2, i3, i4, i5, i6, i7⟩ := stp (m := mh) (i := 100 + 30 + (0 + 1 + 1)) (a := 111) (j := 0 + 1 + 1) (ty := 18) (z := 8) (by decide) (by decide) (by decide)
  have f3 : mf 100 3 = 111 := by rw [vf 3 (by decide), d4, if_f (by decide), c4, if_f (by decide), b4, if_t rfl]; rfl
  have g3' : mg 100 3 = 111 := by rw [g2 100 (by omega) (by omega) (by omega) (by omega)]; exact f3
  have h3' : mh 100 3 = 111 := by rw [h2 100 (by omega) (by omega) (by omega) (by omega)]; exact g3'
  have x8 : ∀ (q : Int) (m : Mem), 0 < q → X8_init q m = some (0, m) := fun q m hq => by
    unfold X8_init X8_init_0
    rw [chk_t hq]
  have r9 : ∀ k, k = 0 ∨ k = 1 ∨ k = 3 ∨ k = 4 ∨ k = 5 → mi 100 k = md 100 k := fun k hk => by
    rw [i2 100 (by omega) (by omega) (by omega) (by omega), h2 100 (by omega) (by omega) (by omega) (by omega), g2 100 (by omega) (by omega) (by omega) (by omega), vf k (by omega)]
  have r1 : ∀ k, mi 101 k = m7 101 k := fun k => by
    rw [i2 101 (by omega) (by omega) (by omega) (by omega), h2 101 (by omega) (by omega) (by omega) (by omega), g2 101 (by omega) (by omega) (by omega) (by omega), of 101 (by omega), e2 101 (by omega) (by omega) (by omega), d2 101 (by omega) (by omega) (by omega) (by omega), c2 101 (by omega) (by omega) (by omega) (by omega), b2 101 (by omega) (by omega) (by omega) (by omega), a2 101 (by omega) (by omega) (by omega) (by omega), o9 101 (by omega)]
  refine ⟨mi, ?_, fun i b c d => ?_, fun i b => ?_, ⟨?_, ?_⟩, ⟨?_, ?_, ?_, ?_, ?_, ?_, ?_, ?_⟩, fun i b c => ?_⟩
  · obtain ⟨t, ht⟩ : ∃ t, fuel9 = t + 4 := ⟨fuel9 - 4, by omega⟩
    rw [chk_t (by decide), vl_e, chk_t ⟨by decide, f0 _ (by decide) (by decide)⟩, st_e, show (100 : Int) + 1 = 101 from rfl, y1, cal_e, st_e, show (101 : Int) = 100 + 1 from rfl, ← hm9, vl_e, chk_t ⟨by decide, z9 _ (by decide) (by decide)⟩, st_e, st_e, ← a1, vl_e, chk_t ⟨by decide, za _ (by decide) (by decide)⟩, st_e, st_e, ← b1, vl_e, chk_t ⟨by decide, zb _ (by decide) (by decide)⟩, st_e, st_e, ← c1, vl_e, chk_t ⟨by decide, zc _ (by decide) (by decide)⟩, st_e, st_e, ← d1, vl_e, chk_t ⟨by decide, zd _ (by decide) (by decide)⟩, st_e, e1, cal_e, st_e, ← hmf, ht]
    rw [X4_init_60, if_f (by decide), chk_t (by decide), vl_e, chk_t ⟨by decide, zf _ (by decide) (by decide)⟩, st_e, x8 _ _ (by decide), cal_e, f3, chk_t (by decide), st_e, ← g1, chk_t (by decide)]
    rw [X4_init_60, if_f (by decide), chk_t (by decide), vl_e, chk_t ⟨by decide, by rw [g3 _ (by decide)]; exact zf _ (by decide) (by decide)⟩, st_e, x8 _ _ (by decide), cal_e, g3', chk_t (by decide), st_e, ← h1, chk_t (by decide)]
    rw [X4_init_60, if_f (by decide), chk_t (by decide), vl_e, chk_t ⟨by decide, by rw [h3 _ (by decide), g3 _ (by decide)]; exact zf _ (by decide) (by decide)⟩, st_e, x8 _ _ (by decide), cal_e, h3', chk_t (by decide), st_e, ← i1, chk_t (by decide)]
    rw [X4_init_60, if_t (by decide)]
  · rw [i2 i (by omega) (by omega) c d, h2 i (by omega) (by omega) c d, g2 i (by omega) (by omega) c d, of i (by omega), e2 i (by omega) c d, d2 i (by omega) (by omega) c d, c2 i (by omega) (by omega) c d, b2 i (by omega) (by omega) c d, a2 i (by omega) (by omega) c d, o9 i (by omega), y2 i (by omega) c d, alo_row (by omega) c d]
  · rw [i3 i (by omega), h3 i (by omega), g3 i (by omega), of (-1) (by omega), e3 i (by omega), d3 i (by omega), c3 i (by omega), b3 i (by omega), a3 i (by omega), o9 (-1) (by omega), y3 i (by omega), alo_t (by decide), if_f (by omega)]
  · rw [i6, h6, g6, of (-2) (by omega), e4.1, d6, c6, b6, a6, o9 (-2) (by omega), y4.1, (alo_c (by decide)).1]; omega
  · rw [i7, h7, g7, of (-2) (by omega), e4.2, d7, c7, b7, a7, o9 (-2) (by omega), y4.2, (alo_c (by decide)).2]; omega
  · rw [r9 0 (by omega), d4, if_f (by decide), c4, if_f (by decide), b4, if_f (by decide), a4, if_f (by decide), v9, if_t rfl]
  · rw [r9 1 (by omega), d4, if_f (by decide), c4, if_f (by decide), b4, if_f (by decide), a4, if_t rfl]; rfl
  · rw [r9 3 (by omega), d4, if_f (by decide), c4, if_f (by decide), b4, if_t rfl]; rfl
  · rw [r9 4 (by omega), d4, if_f (by decide), c4, if_t rfl]; rfl
  · rw [r9 5 (by omega), d4, if_t rfl]; rfl
  · rw [r1]; exact y5
  · rw [r1]; exact y6
  · rw [r1]; exact y7
  · rcases (show i = 0 ∨ i = 1 ∨ i = 2 by omega) with rfl | rfl | rfl
    · rw [i4, if_f (by decide), h4, if_f (by decide), g4, if_t rfl]; rfl
    · rw [i4, if_f (by decide), h4, if_t (by decide)]; rfl
    · rw [i4, if_t (by decide)]; rfl
end KO
