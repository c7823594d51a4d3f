/-! what the player may rely on -/
section CX
variable {N : Int} {r : Rst} {m : Mem} {w ver : Int}
/-- four rows as one object -/
def obj9 (m : Mem) (P : Int) : Rst := fun j i => if j = 0 then m (P + 1) i else if j = 1 then m (P + 2) i else if j = 2 then m (P + 3) i else m P 3
theorem RelC.cx (h : RelC N r m) (w0 : 0 ≤ w) (w1 : w < r 16 0) (v0 : 1 ≤ ver) (v1 : ver ≤ r 6 (r 7 w)) : Cx (obj9 m (1000 * (r 7 w + 1) + 10 * ver)) (obj9 m (Rl r w + 1)) (80 * rw9 r w) (r 18 (rw9 r w)) w ver r ∧ Ob (obj9 m (1000 * (r 7 w + 1) + 10 * ver)) (1000 * (r 7 w + 1) + 10 * ver) m ∧ Ob (obj9 m (Rl r w + 1)) (Rl r w + 1) m := by
  have g := h.2.2.rg
  have b10 := g.1
  have gw := h.2.2.2.2.2.1 w w0 w1
  have s := g.2.2 w w0 w1
  have s1 := s.1
  have s2 := s.2.1
  have eR : Rl r w = 100000 * (w + 1) + 10000 * r 12 w := rfl
  have e9 : rw9 r w = 9 * w + r 12 w - 1 := rfl
  have g6 := g.2.1 (r 7 w) gw.1.1 gw.1.2
  have u := (h.1.2.2.2.2.2.1 w w0 w1).2.1 (r 12 w) s1 (Int.le_refl _)
  rw [← eR, ← e9] at u
  have hi := h.2.2.hi w0 w1
  have f := h.1.2.2.1 (r 7 w) gw.1.1 gw.1.2
  have p := f.2.2 (ver - 1) (by omega) (by omega)
  unfold rowk at p
  rw [if_t (by omega), show 1000 * (r 7 w + 1) + 10 * (ver - 1 + 1) = 1000 * (r 7 w + 1) + 10 * ver by omega, show 5 * r 7 w + (ver - 1) = 5 * r 7 w + ver - 1 by omega] at p
  have gp := h.2.2.gp
  have pr := (gp.2 (r 7 w) gw.1.1 gw.1.2).2.2 ver v0 v1
  obtain ⟨a1, a2, a3, a4, a5, a6, a7, a8, a9, b1, b2, b3, b4⟩ := hi
  have h0 : ∀ i, 0 ≤ i → i < r 18 (rw9 r w) → obj9 m (Rl r w + 1) 0 i = hk r w i := fun i c d => by
    unfold obj9
    rw [if_t rfl, show Rl r w + 1 + 1 = Rl r w + 2 by omega]
    exact (u.2 i c d).1
  have h1 : ∀ i, 0 ≤ i → i < r 18 (rw9 r w) → obj9 m (Rl r w + 1) 1 i = r 20 (80 * rw9 r w + i) := fun i c d => by
    unfold obj9
    rw [if_f (by decide), if_t rfl, show Rl r w + 1 + 2 = Rl r w + 3 by omega]
    exact (u.2 i c d).2.1
  have h2 : ∀ i, 0 ≤ i → i < r 18 (rw9 r w) → obj9 m (Rl r w + 1) 2 i = r 21 (80 * rw9 r w + i) := fun i c d => by
    unfold obj9
    rw [if_f (by decide), if_f (by decide), if_t rfl, show Rl r w + 1 + 3 = Rl r w + 4 by omega]
    exact (u.2 i c d).2.2
  have o : ∀ P, 200 < P → m P 0 = P + 1 → m P 1 = P + 2 → m P 2 = P + 3 → Ob (obj9 m P) P m := fun P c d e f => ⟨c, d, e, f, by unfold obj9; rw [if_f (by decide), if_f (by decide), if_f (by decide)], fun i => by unfold obj9; rw [if_t rfl], fun i => by unfold obj9; rw [if_f (by decide), if_t rfl], fun i => by unfold obj9; rw [if_f (by decide), if_f (by decide), if_t rfl]⟩
  refine ⟨⟨⟨w0, by omega, s1, s2, gw.1.1, gw.1.2, v0, by omega⟩, ⟨rfl, rfl, a1.1, a1.2⟩, ⟨by omega, by omega, by omega, a1.2, a5⟩, ⟨?_, fun i c d => ⟨h0 i c d, h1 i c d, h2 i c d⟩⟩, ⟨fun i c d => ?_, fun i c d e f => ?_, fun i j c d e f k => ?_, fun i j c d e f k => ?_, fun i c d => ?_⟩, fun j c d e => ?_, ?_, fun j c d e => ?_, pr, ⟨?_, fun s c d => ?_⟩, fun i c d => ?_, h.2.2.2.2.1.1, h.2.2.2.2.1.2⟩, ?_, ?_⟩
  · unfold obj9
    rw [if_f (by decide), if_f (by decide), if_f (by decide)]
    exact u.1.2.2.2.2.2.2.2
  · rw [h0 i (by omega) d]; exact a3 i c d
  · rw [h0 i c d] at e f
    rw [h1 i c d]
    exact a6 i c d e f
  · rw [h0 i c (by omega)] at f
    rw [h0 j (by omega) e] at k
    rw [h1 i c (by omega), h1 j (by omega) e]
    exact a8 i j c d e f k
  · rw [h0 i c (by omega)] at f
    rw [h0 j (by omega) e] at k
    rw [h1 i c (by omega), h1 j (by omega) e]
    exact b1 i j c d e f k
  · rw [h0 i c d]; exact a4 i c d
  · rw [h0 j c d] at e
    exact (b2 j c d e).1
  · rw [h0 0 (by omega) (by omega)]; exact a2
  · rw [h0 j (by omega) d] at e
    rw [h0 (j - 1) (by omega) (by omega)]
    exact b3 j c d e
  · unfold obj9
    rw [if_f (by decide), if_f (by decide), if_f (by decide), ur_e (j := 77) (a := 77) rfl rfl, ur_n (by omega)]
    exact p.1.2.2.2
  · rw [ur_e (j := 77) (a := 77) rfl rfl, ur_ne (j := 77) (a := 5) (by omega)] at d
    rw [ur_e (j := 77) (a := 77) rfl rfl, ur_ne (j := 77) (a := 2) (by omega), ur_ne (j := 77) (a := 3) (by omega), ur_ne (j := 77) (a := 4) (by omega)]
    unfold obj9
    rw [if_t rfl, if_f (by decide), if_t rfl, if_f (by decide), if_f (by decide), if_t rfl]
    exact p.2 s c d
  · have st := gp.1 i c d
    obtain ⟨q1, q2, q3, q4, q5, q6, q7, q8, q9, q10, q11⟩ := st
    exact ⟨q11, q10, by omega, by omega⟩
  · exact o _ (by omega) p.1.1 p.1.2.1 p.1.2.2.1
  · exact o _ (by omega) (by rw [u.1.2.2.2.2.1]; omega) (by rw [u.1.2.2.2.2.2.1]; omega) (by rw [u.1.2.2.2.2.2.2.1]; omega)
end CX
