/-! the class's player beside the reference's play: a part of the history (2) -/
section SG
variable {pg hs : Rst} {c : Int → Int} {B E n : Int} {q r : Rst}
theorem Pe.ds (h : Pe pg hs c B E n q r) (h38 : q 38 0 = 0) : Ds hs B E q r := by
  rcases h with ⟨a, ⟨h1, _⟩ | ⟨p, _, h1, _⟩⟩ | ⟨h, _⟩
  · exact h1.2.2.2.2.2.2.2
  · exact h1.2.2.2.2.2.2.2
  · omega
theorem Ds.q37 (h : Ds hs B E q r) : (q 37 0 = 1 ∧ r 80 0 = 0) ∨ (q 37 0 = 0 ∧ r 80 0 = 1) := by
  rcases h.2 with ⟨a1, a2, _⟩ | ⟨a1, a2, _⟩
  · exact Or.inl ⟨a2, a1⟩
  · exact Or.inr ⟨a2, a1⟩
theorem HsR.sameQ {r' : Rst} (h : HsR hs B E r) (k : SameQ r r') : HsR hs B E r' := by
  unfold HsR
  rw [k 19 (by omega), k 20 (by omega), k 21 (by omega)]
  exact h
theorem sy_seg {hi l4 : Int} {k122 : Rst → Option G2} (cs : Cs c hs) (hf : Hf hs E) (hE : hi ≤ E) (hE8 : E ≤ 80) (hl : l4 = 0 ∨ l4 = 1) : ∀ (m2 m : Nat) (i : Int) (q r r' : Rst) (v : Int), 1 ≤ i → i ≤ hi → 80 - i < m2 → Btw i r → Hs B E r → HsR hs B E r → PgR r → Pt r → PgM pg r → r 83 0 ≤ 9 → (r 80 0 = 0 ∨ l4 = 1) → Pe pg hs c B E i (ur q 18 0 i) r → q 38 0 = 0 → (∀ j, i ≤ j → j < hi → hs 0 j ≠ 7) → hi - i + 1 < m → G_takesAll_7 m2 (B + hi) (B + i) r = some (v, r') →
    ∃ q' m', SameQ r r' ∧ 1 ≤ m' ∧ m' + (hi - i) ≥ (m : Int) ∧ ((q' 38 0 = 0 ∧ Pe pg hs c B E hi (ur q' 18 0 hi) r' ∧ Btw hi r' ∧ H_4_play_10 pg hs k122 m l4 i q = H_4_play_10 pg hs k122 m'.toNat l4 hi q') ∨ (q' 38 0 = 1 ∧ Mis r' ∧ H_4_play_10 pg hs k122 m l4 i q = k122 q')) := by
  intro m2
  induction m2 with
  | zero => intro m i q r r' v h0 h1 h2; omega
  | succ m2 ih =>
    intro m i q r r' v h0 h1 h2 hb hs' hh g pt pm hr h80 hp h38 h7 hm e
    obtain ⟨m, rfl⟩ : ∃ k, m = k + 1 := ⟨m - 1, by omega⟩
    rw [G_takesAll_7] at e
    have b1 := hs'.1
    have b4 := hs'.2.2.2.1
    rcases ite_some e with ⟨c0, e⟩ | ⟨c0, e⟩
    · cases e
      have ei : i = hi := by omega
      subst ei
      exact ⟨q, (m + 1 : Nat), SameQ.rf, by omega, by omega, Or.inl ⟨h38, hp, hb, by rw [Int.toNat_natCast]⟩⟩
    · obtain ⟨_, e⟩ := chk_some e
      have hx := hh.2 i (by omega) (by omega)
      have n7 := h7 i (by omega) (by omega)
      have hE0 := hh.1
      rw [H_4_play_10, if_f (by omega), if_f (by omega), if_t h38, chk_t (by omega), if_f n7]
      rcases ite_some e with ⟨c1, e⟩ | ⟨c1, e⟩
      · obtain ⟨_, e⟩ := chk_some e
        rw [Int.add_assoc] at e
        rw [if_t (by omega), chk_t (by omega)]
        obtain ⟨q', m', k1, k2, k3, k4⟩ := ih m (i + 1) q r r' v (by omega) (by omega) (by omega) (hb.le (by omega)) hs' hh g pt pm hr h80 (hp.skip cs (by omega) (by omega)) h38 (fun j a b => h7 j (by omega) b) (by omega) e
        exact ⟨q', m', k1, k2, by omega, k4⟩
      · obtain ⟨_, e⟩ := chk_some e
        obtain ⟨_, e⟩ := chk_some e
        obtain ⟨_, e⟩ := chk_some e
        obtain ⟨v1, r1, e1, e2⟩ := cag_some e
        obtain ⟨_, e2⟩ := chk_some e2
        rw [Int.add_assoc] at e2
        obtain ⟨v2, r2, o1, o2, o3, o4⟩ := ok_takes1 hb hs' g pt (by omega) (by omega) (by omega)
        rw [o1] at e1
        cases e1
        have hv := hs'.2.2.2.2 i (by omega) (by omega) (by omega)
        obtain ⟨cc, c1', c2', c3', hbd⟩ := hb
        rw [← hx.1, ← hx.2.1, ← hx.2.2] at o1
        rw [← hx.2.1, ← hx.2.2] at hv
        have e38 : ur q 18 0 i 38 0 = 0 := by rw [ur_n (by omega)]; exact h38
        obtain ⟨q1, q', t1, t2, t3⟩ := sy_takes cs hf h0 (by omega) (by omega) rfl rfl (by omega) hv.2.1 hv.2.2 hp e38 hbd g pt pm hr (by omega) (by omega) (by omega) (by omega) o1
        rw [ur_ur] at t1
        have q37 := (hp.ds e38).q37
        have eq37 : ur q 18 0 i 37 0 = q 37 0 := ur_n (by omega)
        rw [eq37] at q37
        rw [if_f (by omega)]
        have e84 : (if q 37 0 = 0 then (if l4 = 0 then chk9 (iR (i + 1)) (H_4_play_10 pg hs k122 m l4 (i + 1) q) else H_4_play_84 pg hs (H_4_play_10 pg hs k122 m) l4 i (hs 0 i) q) else H_4_play_84 pg hs (H_4_play_10 pg hs k122 m) l4 i (hs 0 i) q) = H_4_play_10 pg hs k122 m l4 (i + 1) q' := by
          have e2 : H_4_play_84 pg hs (H_4_play_10 pg hs k122 m) l4 i (hs 0 i) q = H_4_play_10 pg hs k122 m l4 (i + 1) q' := by
            unfold H_4_play_84
            rw [chk_t (by omega), stg_e, chk_t (by omega), chk_t (by omega), t1, cag_e, t2, cag_e, chk_t (by omega)]
          by_cases d1 : q 37 0 = 0
          · rw [if_t d1, if_f (by omega)]; exact e2
          · rw [if_f d1]; exact e2
        rw [e84]
        have s38 : q' 38 0 = 0 ∨ q' 38 0 = 1 ∧ Mis r1 := by
          rcases t3 with ⟨a, _⟩ | a
          · exact Or.inl a
          · exact Or.inr a
        rcases s38 with s38 | ⟨s38, mis⟩
        · obtain ⟨q2, m', k1, k2, k3, k4⟩ := ih m (i + 1) q' r1 r' v (by omega) (by omega) (by omega) o4.1 (hs'.sameQ o2) (hh.sameQ o2) (g.sameQ o2) (pt.sameQ o2) (pm.fr o2) (by rw [o2 83 (by omega)]; exact hr) (by rw [o2 80 (by omega)]; exact h80) t3.norm s38 (fun j a b => h7 j (by omega) b) (by omega) e2
          exact ⟨q2, m', o2.tr k1, k2, by omega, k4⟩
        · obtain ⟨v3, r3, w1, w2, w3, w4⟩ := ok_takesAll7 hE m2 (i + 1) r1 (by omega) (by omega) (by omega) o4.1 (hs'.sameQ o2) (g.sameQ o2) (pt.sameQ o2)
          rw [w1] at e2
          cases e2
          refine ⟨q', hi - i + m + 1, o2.tr w2, by omega, by omega, Or.inr ⟨s38, mis.keep w3 (w2 19 (by omega)) (w2 20 (by omega)) (w2 21 (by omega)) (w2 78 (by omega)) (w2 79 (by omega)) (w2 80 (by omega)), ?_⟩⟩
          obtain ⟨m, rfl⟩ : ∃ k, m = k + 1 := ⟨m - 1, by omega⟩
          rw [H_4_play_10]
          by_cases d1 : hs 3 0 ≤ i + 1
          · rw [if_t d1]
          · rw [if_f d1, if_f (by omega), if_f (by omega)]
end SG
