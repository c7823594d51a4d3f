/-! the reference's constructor -/
section KR
variable {N : Int} {r r' : Rst} {m m' m0 m1 : Mem} {ty z : Int}
/-- the reference's fields so far: those that hold a row up to K -/
def PX (K : Nat) (m0 m : Mem) : Prop := (∀ k : Int, 10 + K < k → k ≤ 94 → m (-1) k = 0) ∧ (∀ j : Nat, j < 84 → j ≤ K → arr9 j = true → m 10 j = 10 + j) ∧ (∀ j : Nat, j < 84 → arr9 j = false → m 10 j = 0) ∧ (∀ j : Nat, j ≤ K → arr9 j = true → ∀ i, m (10 + j) i = 0) ∧ (∀ k, k < 10 ∨ 94 < k → k ≠ -1 → k ≠ -2 → m k = m0 k) ∧ (∀ k, k < 10 ∨ 94 < k → m (-1) k = m0 (-1) k) ∧ m (-2) 0 ≤ m0 (-2) 0 + K ∧ m (-2) 1 ≤ m0 (-2) 1 + 7200 * K
theorem PX.next {K k : Nat} {i : Int} (h : PX K m0 m) (hi : i = k) (hk : K < k) (k8 : k < 84) (ar : arr9 k = true) (nm : ∀ j : Nat, j < 84 → K < j → j < k → arr9 j = false) (hz : z ≤ 7200) : (0 < 10 + i ∧ m (-1) (10 + i) = 0) ∧ ∃ m', m' = upd9 (alo9 m (10 + i) ty z) 10 i (10 + i) ∧ PX k m0 m' := by
  obtain ⟨h1, h2, h3, h4, h5, h6, h7, h8⟩ := h
  subst hi
  have k0 : k ≠ 0 := fun e => by rw [e] at ar; revert ar; decide
  obtain ⟨m', a1, a2, a3, a4, a5, a6, a7⟩ := stp (m := m) (i := 10 + (k : Int)) (a := 10) (j := k) (ty := ty) (z := z) (by omega) (by omega) (by omega)
  refine ⟨⟨by omega, h1 _ (by omega) (by omega)⟩, m', a1, fun q b c => by rw [a3 q (by omega)]; exact h1 q (by omega) c, fun j b c d => ?_, fun j b c => ?_, fun j c d i => ?_, fun q b c d => by rw [a2 q (by omega) (by omega) c d]; exact h5 q b c d, fun q b => by rw [a3 q (by omega)]; exact h6 q b, by rw [a6]; omega, by rw [a7]; omega⟩
  · rw [a4]
    by_cases e : j = k
    · rw [e, if_t rfl]
    · rw [if_f (by omega)]
      by_cases f : j ≤ K
      · exact h2 j b f d
      · rw [nm j b (by omega) (by omega)] at d
        cases d
  · rw [a4]
    by_cases e : j = k
    · rw [e, ar] at c
      cases c
    · rw [if_f (by omega)]; exact h3 j b c
  · by_cases e : j = k
    · rw [e]; exact a5 i
    · have j0 : j ≠ 0 := fun e => by rw [e] at d; revert d; decide
      rw [a2 _ (by omega) (by omega) (by omega) (by omega)]
      by_cases f : j ≤ K
      · exact h4 j f d i
      · rw [nm j (by omega) (by omega) (by omega)] at d
        cases d
theorem x_ref (fr : ∀ i, 10 ≤ i → i ≤ 94 → m (-1) i = 0) : ∃ m1, (∃ m', X12_init 10 (alo9 m 10 22 84) = some (0, m') ∧ m' = upd9 (upd9 (upd9 (upd9 (upd9 (upd9 (upd9 (upd9 (upd9 (upd9 m1 45 0 9) 45 1 9) 48 0 1) 49 0 (-1)) 48 1 1) 49 1 (-1)) 48 2 1) 49 2 (-1)) 48 3 1) 49 3 (-1)) ∧ PX 81 (alo9 m 10 22 84) m1 := by
  have f9 := fuel9_ge
  have p0 : PX 1 (alo9 m 10 22 84) (alo9 m 10 22 84) := by
    refine ⟨fun k a b => by rw [alo_t (by decide), if_f (by omega)]; exact fr k (by omega) b, fun j a b c => ?_, fun j a b => alo_z, fun j a b i => ?_, fun k a b c => rfl, fun k a => rfl, by omega, by omega⟩
    · rcases (show j = 0 ∨ j = 1 by omega) with rfl | rfl <;> exact absurd c (by decide)
    · rcases (show j = 0 ∨ j = 1 by omega) with rfl | rfl <;> exact absurd b (by decide)
  unfold X12_init X12_init_0
  rw [chk_t (by decide)]
  clear fr
  generalize hb : alo9 m 10 22 84 = m0 at *
  clear hb
  obtain ⟨q, m1, e, p1⟩ := p0.next (k := 2) (i := 2) (ty := 100180) (z := 180) rfl (by decide) (by decide) rfl (by decide) (by decide)
  rw [vl_e, chk_t q, st_e, st_e, ← e]
  clear q e p0
  obtain ⟨q, m2, e, p2⟩ := p1.next (k := 3) (i := 3) (ty := 100180) (z := 180) rfl (by decide) (by decide) rfl (by decide) (by decide)
  rw [vl_e, chk_t q, st_e, st_e, ← e]
  clear q e p1
  obtain ⟨q, m3, e, p3⟩ := p2.next (k := 4) (i := 4) (ty := 100180) (z := 180) rfl (by decide) (by decide) rfl (by decide) (by decide)
  rw [vl_e, chk_t q, st_e, st_e, ← e]
  clear q e p2
  obtain ⟨q, m4, e, p4⟩ := p3.next (k := 5) (i := 5) (ty := 100015) (z := 15) rfl (by decide) (by decide) rfl (by decide) (by decide)
  rw [vl_e, chk_t q, st_e, st_e, ← e]
  clear q e p3
  obtain ⟨q, m5, e, p5⟩ := p4.next (k := 6) (i := 6) (ty := 100003) (z := 3) rfl (by decide) (by decide) rfl (by decide) (by decide)
  rw [vl_e, chk_t q, st_e, st_e, ← e]
  clear q e p4
  obtain ⟨q, m6, e, p6⟩ := p5.next (k := 7) (i := 7) (ty := 100010) (z := 10) rfl (by decide) (by decide) rfl (by decide) (by decide)
  rw [vl_e, chk_t q, st_e, st_e, ← e]
  clear q e p5
  obtain ⟨q, m7, e, p7⟩ := p6.next (k := 8) (i := 8) (ty := 100010) (z := 10) rfl (by decide) (by decide) rfl (by decide) (by decide)
  rw [vl_e, chk_t q, st_e, st_e, ← e]
  clear q e p6
  obtain ⟨q, m8, e, p8⟩ := p7.next (k := 9) (i := 9) (ty := 100010) (z := 10) rfl (by decide) (by decide) rfl (by decide) (by decide)
  rw [vl_e, chk_t q, st_e, st_e, ← e]
  clear q e p7
  obtain ⟨q, m9, e, p9⟩ := p8.next (k := 10) (i := 10) (ty := 100010) (z := 10) rfl (by decide) (by decide) rfl (by decide) (by decide)
  rw [vl_e, chk_t q, st_e, st_e, ← e]
  clear q e p8
  obtain ⟨q, m10, e, p10⟩ := p9.next (k := 11) (i := 11) (ty := 100010) (z := 10) rfl (by decide) (by decide) rfl (by decide) (by decide)
  rw [vl_e, chk_t q, st_e, st_e, ← e]
  clear q e p9
  obtain ⟨q, m11, e, p11⟩ := p10.next (k := 12) (i := 12) (ty := 100010) (z := 10) rfl (by decide) (by decide) rfl (by decide) (by decide)
  rw [vl_e, chk_t q, st_e, st_e, ← e]
  clear q e p10
  obtain ⟨q, m12, e, p12⟩ := p11.next (k := 13) (i := 13) (ty := 100020) (z := 20) rfl (by decide) (by decide) rfl (by decide) (by decide)
  rw [vl_e, chk_t q, st_e, st_e, ← e]
  clear q e p11
  obtain ⟨q, m13, e, p13⟩ := p12.next (k := 14) (i := 14) (ty := 100010) (z := 10) rfl (by decide) (by decide) rfl (by decide) (by decide)
  rw [vl_e, chk_t q, st_e, st_e, ← e]
  clear q e p12
  obtain ⟨q, m14, e, p14⟩ := p13.next (k := 15) (i := 15) (ty := 100010) (z := 10) rfl (by decide) (by decide) rfl (by decide) (by decide)
  rw [vl_e, chk_t q, st_e, st_e, ← e]
  clear q e p13
  obtain ⟨q, m15, e, p15⟩ := p14.next (k := 17) (i := 17) (ty := 100090) (z := 90) rfl (by decide) (by decide) rfl (by decide) (by decide)
  rw [vl_e, chk_t q, st_e, st_e, ← e]
  clear q e p14
  obtain ⟨q, m16, e, p16⟩ := p15.next (k := 18) (i := 18) (ty := 100090) (z := 90) rfl (by decide) (by decide) rfl (by decide) (by decide)
  rw [vl_e, chk_t q, st_e, st_e, ← e]
  clear q e p15
  obtain ⟨q, m17, e, p17⟩ := p16.next (k := 19) (i := 19) (ty := 107200) (z := 7200) rfl (by decide) (by decide) rfl (by decide) (by decide)
  rw [vl_e, chk_t q, st_e, st_e, ← e]
  clear q e p16
  obtain ⟨q, m18, e, p18⟩ := p17.next (k := 20) (i := 20) (ty := 107200) (z := 7200) rfl (by decide) (by decide) rfl (by decide) (by decide)
  rw [vl_e, chk_t q, st_e, st_e, ← e]
  clear q e p17
  obtain ⟨q, m19, e, p19⟩ := p18.next (k := 21) (i := 21) (ty := 107200) (z := 7200) rfl (by decide) (by decide) rfl (by decide) (by decide)
  rw [vl_e, chk_t q, st_e, st_e, ← e]
  clear q e p18
  obtain ⟨q, m20, e, p20⟩ := p19.next (k := 22) (i := 22) (ty := 100010) (z := 10) rfl (by decide) (by decide) rfl (by decide) (by decide)
  rw [vl_e, chk_t q, st_e, st_e, ← e]
  clear q e p19
  obtain ⟨q, m21, e, p21⟩ := p20.next (k := 23) (i := 23) (ty := 100800) (z := 800) rfl (by decide) (by decide) rfl (by decide) (by decide)
  rw [vl_e, chk_t q, st_e, st_e, ← e]
  clear q e p20
  obtain ⟨q, m22, e, p22⟩ := p21.next (k := 24) (i := 24) (ty := 100800) (z := 800) rfl (by decide) (by decide) rfl (by decide) (by decide)
  rw [vl_e, chk_t q, st_e, st_e, ← e]
  clear q e p21
  obtain ⟨q, m23, e, p23⟩ := p22.next (k := 25) (i := 25) (ty := 100800) (z := 800) rfl (by decide) (by decide) rfl (by decide) (by decide)
  rw [vl_e, chk_t q, st_e, st_e, ← e]
  clear q e p22
  obtain ⟨q, m24, e, p24⟩ := p23.next (k := 26) (i := 26) (ty := 100800) (z := 800) rfl (by decide) (by decide) rfl (by decide) (by decide)
  rw [vl_e, chk_t q, st_e, st_e, ← e]
  clear q e p23
  obtain ⟨q, m25, e, p25⟩ := p24.next (k := 27) (i := 27) (ty := 100800) (z := 800) rfl (by decide) (by decide) rfl (by decide) (by decide)
  rw [vl_e, chk_t q, st_e, st_e, ← e]
  clear q e p24
  obtain ⟨q, m26, e, p26⟩ := p25.next (k := 28) (i := 28) (ty := 100800) (z := 800) rfl (by decide) (by decide) rfl (by decide) (by decide)
  rw [vl_e, chk_t q, st_e, st_e, ← e]
  clear q e p25
  obtain ⟨q, m27, e, p27⟩ := p26.next (k := 30) (i := 30) (ty := 100010) (z := 10) rfl (by decide) (by decide) rfl (by decide) (by decide)
  rw [vl_e, chk_t q, st_e, st_e, ← e]
  clear q e p26
  obtain ⟨q, m28, e, p28⟩ := p27.next (k := 31) (i := 31) (ty := 100800) (z := 800) rfl (by decide) (by decide) rfl (by decide) (by decide)
  rw [vl_e, chk_t q, st_e, st_e, ← e]
  clear q e p27
  obtain ⟨q, m29, e, p29⟩ := p28.next (k := 32) (i := 32) (ty := 100010) (z := 10) rfl (by decide) (by decide) rfl (by decide) (by decide)
  rw [vl_e, chk_t q, st_e, st_e, ← e]
  clear q e p28
  obtain ⟨q, m30, e, p30⟩ := p29.next (k := 33) (i := 33) (ty := 100800) (z := 800) rfl (by decide) (by decide) rfl (by decide) (by decide)
  rw [vl_e, chk_t q, st_e, st_e, ← e]
  clear q e p29
  obtain ⟨q, m31, e, p31⟩ := p30.next (k := 34) (i := 34) (ty := 100800) (z := 800) rfl (by decide) (by decide) rfl (by decide) (by decide)
  rw [vl_e, chk_t q, st_e, st_e, ← e]
  clear q e p30
  obtain ⟨q, m32, e, p32⟩ := p31.next (k := 35) (i := 35) (ty := 100002) (z := 2) rfl (by decide) (by decide) rfl (by decide) (by decide)
  rw [vl_e, chk_t q, st_e, st_e, ← e]
  clear q e p31
  obtain ⟨q, m33, e, p33⟩ := p32.next (k := 36) (i := 36) (ty := 100002) (z := 2) rfl (by decide) (by decide) rfl (by decide) (by decide)
  rw [vl_e, chk_t q, st_e, st_e, ← e]
  clear q e p32
  obtain ⟨q, m34, e, p34⟩ := p33.next (k := 37) (i := 37) (ty := 100006) (z := 6) rfl (by decide) (by decide) rfl (by decide) (by decide)
  rw [vl_e, chk_t q, st_e, st_e, ← e]
  clear q e p33
  obtain ⟨q, m35, e, p35⟩ := p34.next (k := 38) (i := 38) (ty := 200004) (z := 4) rfl (by decide) (by decide) rfl (by decide) (by decide)
  rw [vl_e, chk_t q, st_e, st_e, ← e]
  clear q e p34
  obtain ⟨q, m36, e, p36⟩ := p35.next (k := 39) (i := 39) (ty := 100004) (z := 4) rfl (by decide) (by decide) rfl (by decide) (by decide)
  rw [vl_e, chk_t q, st_e, st_e, ← e]
  clear q e p35
  obtain ⟨q, m37, e, p37⟩ := p36.next (k := 56) (i := 56) (ty := 100003) (z := 3) rfl (by decide) (by decide) rfl (by decide) (by decide)
  rw [vl_e, chk_t q, st_e, st_e, ← e]
  clear q e p36
  obtain ⟨q, m38, e, p38⟩ := p37.next (k := 57) (i := 57) (ty := 100003) (z := 3) rfl (by decide) (by decide) rfl (by decide) (by decide)
  rw [vl_e, chk_t q, st_e, st_e, ← e]
  clear q e p37
  obtain ⟨q, m39, e, p39⟩ := p38.next (k := 58) (i := 58) (ty := 100003) (z := 3) rfl (by decide) (by decide) rfl (by decide) (by decide)
  rw [vl_e, chk_t q, st_e, st_e, ← e]
  clear q e p38
  obtain ⟨q, m40, e, p40⟩ := p39.next (k := 59) (i := 59) (ty := 100003) (z := 3) rfl (by decide) (by decide) rfl (by decide) (by decide)
  rw [vl_e, chk_t q, st_e, st_e, ← e]
  clear q e p39
  obtain ⟨q, m41, e, p41⟩ := p40.next (k := 60) (i := 60) (ty := 200003) (z := 3) rfl (by decide) (by decide) rfl (by decide) (by decide)
  rw [vl_e, chk_t q, st_e, st_e, ← e]
  clear q e p40
  obtain ⟨q, m42, e, p42⟩ := p41.next (k := 61) (i := 61) (ty := 200003) (z := 3) rfl (by decide) (by decide) rfl (by decide) (by decide)
  rw [vl_e, chk_t q, st_e, st_e, ← e]
  clear q e p41
  obtain ⟨q, m43, e, p43⟩ := p42.next (k := 62) (i := 62) (ty := 100003) (z := 3) rfl (by decide) (by decide) rfl (by decide) (by decide)
  rw [vl_e, chk_t q, st_e, st_e, ← e]
  clear q e p42
  obtain ⟨q, m44, e, p44⟩ := p43.next (k := 63) (i := 63) (ty := 200003) (z := 3) rfl (by decide) (by decide) rfl (by decide) (by decide)
  rw [vl_e, chk_t q, st_e, st_e, ← e]
  clear q e p43
  obtain ⟨q, m45, e, p45⟩ := p44.next (k := 65) (i := 65) (ty := 100080) (z := 80) rfl (by decide) (by decide) rfl (by decide) (by decide)
  rw [vl_e, chk_t q, st_e, st_e, ← e]
  clear q e p44
  obtain ⟨q, m46, e, p46⟩ := p45.next (k := 66) (i := 66) (ty := 100080) (z := 80) rfl (by decide) (by decide) rfl (by decide) (by decide)
  rw [vl_e, chk_t q, st_e, st_e, ← e]
  clear q e p45
  obtain ⟨q, m47, e, p47⟩ := p46.next (k := 67) (i := 67) (ty := 200080) (z := 80) rfl (by decide) (by decide) rfl (by decide) (by decide)
  rw [vl_e, chk_t q, st_e, st_e, ← e]
  clear q e p46
  obtain ⟨q, m48, e, p48⟩ := p47.next (k := 69) (i := 69) (ty := 105200) (z := 5200) rfl (by decide) (by decide) rfl (by decide) (by decide)
  rw [vl_e, chk_t q, st_e, st_e, ← e]
  clear q e p47
  obtain ⟨q, m49, e, p49⟩ := p48.next (k := 70) (i := 70) (ty := 105200) (z := 5200) rfl (by decide) (by decide) rfl (by decide) (by decide)
  rw [vl_e, chk_t q, st_e, st_e, ← e]
  clear q e p48
  obtain ⟨q, m50, e, p50⟩ := p49.next (k := 72) (i := 72) (ty := 105200) (z := 5200) rfl (by decide) (by decide) rfl (by decide) (by decide)
  rw [vl_e, chk_t q, st_e, st_e, ← e]
  clear q e p49
  obtain ⟨q, m51, e, p51⟩ := p50.next (k := 73) (i := 73) (ty := 105200) (z := 5200) rfl (by decide) (by decide) rfl (by decide) (by decide)
  rw [vl_e, chk_t q, st_e, st_e, ← e]
  clear q e p50
  obtain ⟨q, m52, e, p52⟩ := p51.next (k := 74) (i := 74) (ty := 105200) (z := 5200) rfl (by decide) (by decide) rfl (by decide) (by decide)
  rw [vl_e, chk_t q, st_e, st_e, ← e]
  clear q e p51
  obtain ⟨q, m53, e, p53⟩ := p52.next (k := 75) (i := 75) (ty := 105200) (z := 5200) rfl (by decide) (by decide) rfl (by decide) (by decide)
  rw [vl_e, chk_t q, st_e, st_e, ← e]
  clear q e p52
  obtain ⟨q, m54, e, p54⟩ := p53.next (k := 81) (i := 81) (ty := 100016) (z := 16) rfl (by decide) (by decide) rfl (by decide) (by decide)
  rw [vl_e, chk_t q, st_e, st_e, ← e]
  clear q e p53
  have s35 : m54 10 35 = 45 := p54.2.1 35 (by decide) (by decide) rfl
  have s38 : m54 10 38 = 48 := p54.2.1 38 (by decide) (by decide) rfl
  have s39 : m54 10 39 = 49 := p54.2.1 39 (by decide) (by decide) rfl
  obtain ⟨t, ht⟩ : ∃ t, fuel9 = t + 6 := ⟨fuel9 - 6, by omega⟩
  refine ⟨m54, ⟨_, ?_, rfl⟩, p54⟩
  have w : ∀ (m : Mem) (i j v k : Int), i ≠ 10 → upd9 m i j v 10 k = m 10 k := fun m i j v k h => upd9_n (Or.inl (Ne.symm h))
  rw [ht]
  rw [X12_init_446, if_f (by decide), chk_t (by decide), s35, chk_t (by decide), st_e, chk_t (by decide)]
  rw [X12_init_446, if_f (by decide), chk_t (by decide), w _ _ _ _ _ (by decide), s35, chk_t (by decide), st_e, chk_t (by decide)]
  rw [X12_init_446, if_t (by decide)]
  rw [X12_init_467, if_f (by decide), chk_t (by decide), w _ _ _ _ _ (by decide), w _ _ _ _ _ (by decide), s38, chk_t (by decide), st_e, w _ _ _ _ _ (by decide), w _ _ _ _ _ (by decide), w _ _ _ _ _ (by decide), s39, chk_t (by decide), st_e, chk_t (by decide)]
  rw [X12_init_467, if_f (by decide), chk_t (by decide), w _ _ _ _ _ (by decide), w _ _ _ _ _ (by decide), w _ _ _ _ _ (by decide), w _ _ _ _ _ (by decide), s38, chk_t (by decide), st_e, w _ _ _ _ _ (by decide), w _ _ _ _ _ (by decide), w _ _ _ _ _ (by decide), w _ _ _ _ _ (by decide), w _ _ _ _ _ (by decide), s39, chk_t (by decide), st_e, chk_t (by decide)]
  rw [X12_init_467, if_f (by decide), chk_t (by decide), w _ _ _ _ _ (by decide), w _ _ _ _ _ (by decide), w _ _ _ _ _ (by decide), w _ _ _ _ _ (by decide), w _ _ _ _ _ (by decide), w _ _ _ _ _ (by decide), s38, chk_t (by decide), st_e, w _ _ _ _ _ (by decide), w _ _ _ _ _ (by decide), w _ _ _ _ _ (by decide), w _ _ _ _ _ (by decide), w _ _ _ _ _ (by decide), w _ _ _ _ _ (by decide), w _ _ _ _ _ (by decide), s39, chk_t (by decide), st_e, chk_t (by decide)]
  rw [X12_init_467, if_f (by decide), chk_t (by decide), w _ _ _ _ _ (by decide), w _ _ _ _ _ (by decide), w _ _ _ _ _ (by decide), w _ _ _ _ _ (by decide), w _ _ _ _ _ (by decide), w _ _ _ _ _ (by decide), w _ _ _ _ _ (by decide), w _ _ _ _ _ (by decide), s38, chk_t (by decide), st_e, w _ _ _ _ _ (by decide), w _ _ _ _ _ (by decide), w _ _ _ _ _ (by decide), w _ _ _ _ _ (by decide), w _ _ _ _ _ (by decide), w _ _ _ _ _ (by decide), w _ _ _ _ _ (by decide), w _ _ _ _ _ (by decide), w _ _ _ _ _ (by decide), s39, chk_t (by decide), st_e, chk_t (by decide)]
  rw [X12_init_467, if_t (by decide)]
  rfl
end KR
