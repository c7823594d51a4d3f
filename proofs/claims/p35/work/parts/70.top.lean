/-! the class's player beside the reference's play: what stands between two parts of the history -/
section TP
variable {pg hs : Rst} {c : Int → Int} {B E n p : Int} {q r q' r' : Rst}
/-- only what is decided differs -/
def AgQ (q q' : Rst) : Prop := ∀ j : Nat, j < 33 ∨ (34 ≤ j ∧ j ≤ 36) ∨ 45 ≤ j → q' j = q j
def AgR (r r' : Rst) : Prop := ∀ j : Nat, j < 72 ∨ j = 77 ∨ 81 ≤ j → r' j = r j
theorem AgQ.tr {q1 : Rst} (h : AgQ q q1) (k : AgQ q1 q') : AgQ q q' := fun j hj => (k j hj).trans (h j hj)
theorem AgR.tr {r1 : Rst} (h : AgR r r1) (k : AgR r1 r') : AgR r r' := fun j hj => (k j hj).trans (h j hj)
theorem Cm.re (h : Cm pg hs c B E n p q r) (kq : AgQ q q') (kr : AgR r r') (hd : Ds hs B E q' r') : Cm pg hs c B E n p q' r' := by
  obtain ⟨h1, h2, h3, h4, h5, h6, h7, h8⟩ := h
  unfold Cm
  rw [kq 18 (by omega), kq 2 (by omega), kq 7 (by omega), kq 19 (by omega), kq 20 (by omega), kq 15 (by omega), kq 22 (by omega), kq 23 (by omega), kq 34 (by omega), kq 35 (by omega), kq 36 (by omega), kr 41 (by omega), kr 83 (by omega), kr 48 (by omega), kr 65 (by omega), kr 66 (by omega), kr 67 (by omega), kr 68 (by omega), kr 69 (by omega), kr 70 (by omega), kr 71 (by omega), kr 51 (by omega), kr 52 (by omega), kr 53 (by omega)]
  exact ⟨h1, h2, h3, h4, h5, h6, h7, hd⟩
theorem P1.re (h : P1 hs n q r) (kq : AgQ q q') (kr : AgR r r') : P1 hs n q' r' := by
  unfold P1 SL at *
  rw [kq 8 (by omega), kq 9 (by omega), kq 10 (by omega), kq 11 (by omega), kq 12 (by omega), kq 13 (by omega), kq 14 (by omega), kq 50 (by omega), kq 51 (by omega), kq 52 (by omega), kq 53 (by omega), kq 54 (by omega), kq 55 (by omega), kq 56 (by omega), kq 57 (by omega), kr 42 (by omega), kr 55 (by omega), kr 40 (by omega), kr 64 (by omega), kr 45 (by omega), kr 47 (by omega), kr 46 (by omega), kr 51 (by omega), kr 52 (by omega), kr 53 (by omega), kr 56 (by omega), kr 57 (by omega), kr 58 (by omega), kr 59 (by omega), kr 60 (by omega), kr 61 (by omega), kr 62 (by omega), kr 63 (by omega)]
  exact h
theorem P3.re (h : P3 q r) (kq : AgQ q q') (kr : AgR r r') : P3 q' r' := by
  unfold P3 at *
  rw [kq 8 (by omega), kq 11 (by omega), kq 16 (by omega), kq 17 (by omega), kr 42 (by omega), kr 55 (by omega), kr 54 (by omega), kr 43 (by omega)]
  exact h
theorem P0.re (h : P0 q r) (kq : AgQ q q') (kr : AgR r r') : P0 q' r' := by
  unfold P0 at *
  rw [kq 8 (by omega), kq 11 (by omega), kq 9 (by omega), kq 12 (by omega), kq 14 (by omega), kr 42 (by omega), kr 55 (by omega), kr 40 (by omega), kr 45 (by omega), kr 47 (by omega)]
  exact h
theorem Pe.re (h : Pe pg hs c B E n q r) (h38 : q 38 0 = 0) (h42 : r 42 0 ≠ 2) (kq : AgQ q q') (kr : AgR r r') (hd : Ds hs B E q' r') : Pe pg hs c B E n q' r' := by
  rcases h with ⟨a, ⟨h1, h2, h3⟩ | ⟨p, h1, h2, h3⟩⟩ | h
  · refine Pe.p1 (h1.re kq kr hd) (h2.re kq kr) ?_
    rw [kr 55 (by omega), kr 60 (by omega)]
    exact h3
  · rcases h3 with h3 | h3
    · exact Pe.p34 (h2.re kq kr hd) h1 (Or.inl (h3.re kq kr))
    · exact absurd h3.2.1 h42
  · exact absurd h.1 (by omega)
/-- where the class stands at the beginning of a part of the history, whatever is to be decided in it -/
def Tq (pg hs : Rst) (c : Int → Int) (B E L : Int) (q r : Rst) : Prop := q 38 0 = 0 ∧ q 33 0 = 0 ∧ 0 ≤ L ∧ (r 42 0 = 2 → ∃ j, 0 ≤ j ∧ j < L ∧ hs 0 j = 16) ∧ ∃ q0 r0, AgQ q0 q ∧ AgR r0 r ∧ (L = 0 ∧ Cm pg hs c B E 0 0 q0 r0 ∧ P0 q0 r0 ∨ 1 ≤ L ∧ Pe pg hs c B E L (ur q0 18 0 L) r0 ∧ q0 38 0 = 0)
theorem AgQ.ur (h : AgQ q q') {j : Nat} {i v : Int} : AgQ (ur q j i v) (ur q' j i v) := fun k hk => by
  by_cases e : k = j
  · funext b
    subst e
    by_cases eb : b = i
    · rw [ur_e rfl eb, ur_e rfl eb]
    · rw [ur_n (Or.inr eb), ur_n (Or.inr eb), h k hk]
  · rw [ur_ne e, ur_ne e, h k hk]
theorem Tq.go {L : Int} {z : Rst} (h : Tq pg hs c B E L q r) (h2 : r 42 0 ≠ 2) (kr : AgR r z) (hd : Ds hs B E q z) : L = 0 ∧ Cm pg hs c B E 0 0 q z ∧ P0 q z ∨ 1 ≤ L ∧ Pe pg hs c B E L (ur q 18 0 L) z := by
  obtain ⟨a1, a2, a3, a4, q0, r0, b1, b2, ⟨c0, c1, c2⟩ | ⟨c0, c1, c2⟩⟩ := h
  · exact Or.inl ⟨c0, c1.re b1 (b2.tr kr) hd, c2.re b1 (b2.tr kr)⟩
  · refine Or.inr ⟨c0, c1.re (by rw [ur_n (by omega)]; exact c2) (by rw [← b2 42 (by omega)]; exact h2) b1.ur (b2.tr kr) (hd.same (fun j hj => ur_ne (by omega)) fun _ _ => rfl)⟩
theorem Tq.v {L : Int} (h : Tq pg hs c B E L q r) : q 2 0 = r 41 0 := by
  obtain ⟨a1, a2, a3, a4, q0, r0, b1, b2, ⟨c0, c1, c2⟩ | ⟨c0, c1, c2⟩⟩ := h
  · rw [b1 2 (by omega), b2 41 (by omega)]; exact c1.2.1
  · rw [b1 2 (by omega), b2 41 (by omega)]
    rcases c1 with ⟨_, ⟨h, _⟩ | ⟨p, _, h, _⟩⟩ | h
    · have := h.2.1
      rw [ur_n (by omega)] at this; exact this
    · have := h.2.1
      rw [ur_n (by omega)] at this; exact this
    · have := h.1
      rw [ur_n (by omega)] at this; omega
theorem Btw.w76 {i : Int} (h : Btw i r) : Btw i (ur r 76 0 0) := by
  obtain ⟨cc, h1, h2, h3, hb, hm⟩ := h
  refine ⟨cc, h1, h2, h3, ?_, hm.same fun j hj => ur_ne (by omega)⟩
  unfold Bz at *
  simp (disch := omega) only [ur_n, ur_e, ur_ne]
  exact ⟨by omega, hb.2⟩
theorem Btw.z76 {i : Int} {z : Rst} (h : Btw i (ur r 76 0 0)) (k : AgR r z) (k76 : z 76 0 = 0) : Btw i z := by
  obtain ⟨cc, h1, h2, h3, hb, hm⟩ := h
  refine ⟨cc, h1, h2, h3, ?_, hm.same fun j hj => by rw [k j (by omega), ur_ne (by omega)]⟩
  unfold Bz at *
  simp (disch := omega) only [ur_n, ur_e, ur_ne] at hb
  rw [k76, k 51 (by omega), k 52 (by omega), k 53 (by omega), k 71 (by omega), k 68 (by omega), k 48 (by omega), k 45 (by omega), k 41 (by omega), k 55 (by omega), k 62 (by omega), k 66 (by omega), k 60 (by omega), k 61 (by omega)]
  exact ⟨by omega, hb.2⟩
/-- the first event -/
theorem sy_first {hi l4 : Int} {k122 : Rst → Option G2} (cs : Cs c hs) (hf : Hf hs E) (hE : hi ≤ E) (hE8 : E ≤ 80) (hl : l4 = 0 ∨ l4 = 1) (m2 m : Nat) (v : Int) (h1 : 1 ≤ hi) (h2 : 80 < (m2 : Int)) (hb : Btw 0 r) (hs' : Hs B E r) (hh : HsR hs B E r) (g : PgR r) (pt : Pt r) (pm : PgM pg r) (hr : r 83 0 ≤ 9) (h80 : r 80 0 = 0 ∨ l4 = 1) (h0 : hs 0 0 = 0) (hc : Cm pg hs c B E 0 0 q r) (hp : P0 q r) (h38 : q 38 0 = 0) (h7 : ∀ j, 0 ≤ j → j < hi → hs 0 j ≠ 7) (hm : hi + 1 < m) (e : G_takesAll_7 m2 (B + hi) (B + 0) r = some (v, r')) :
    ∃ q' m', SameQ r r' ∧ 1 ≤ m' ∧ m' + (hi - 0) ≥ (m : Int) ∧ ((q' 38 0 = 0 ∧ Pe pg hs c B E hi (ur q' 18 0 hi) r' ∧ Btw hi r' ∧ H_4_play_10 pg hs k122 m l4 0 q = H_4_play_10 pg hs k122 m'.toNat l4 hi q') ∨ (q' 38 0 = 1 ∧ Mis r' ∧ H_4_play_10 pg hs k122 m l4 0 q = k122 q')) := by
  obtain ⟨m2, rfl⟩ : ∃ k, m2 = k + 1 := ⟨m2 - 1, by omega⟩
  obtain ⟨m, rfl⟩ : ∃ k, m = k + 1 := ⟨m - 1, by omega⟩
  rw [G_takesAll_7] at e
  have b1 := hs'.1
  have b4 := hs'.2.2.2.1
  have hx := hh.2 0 (by omega) (by omega)
  have hE0 := hh.1
  rw [if_f (by omega)] at e
  obtain ⟨_, e⟩ := chk_some e
  rw [if_f (by omega)] at e
  obtain ⟨_, e⟩ := chk_some e
  obtain ⟨_, e⟩ := chk_some e
  obtain ⟨_, e⟩ := chk_some e
  obtain ⟨v1, r1, e1, e2⟩ := cag_some e
  obtain ⟨_, e2⟩ := chk_some e2
  rw [Int.add_assoc, Int.zero_add] at e2
  obtain ⟨v2, r2, o1, o2, o3, o4⟩ := ok_takes1 (i := 0) hb hs' g pt (by omega) (by omega) (by omega)
  rw [o1] at e1
  cases e1
  have hv := hs'.2.2.2.2 0 (by omega) (by omega) (by omega)
  obtain ⟨cc, c1', c2', c3', hbd⟩ := hb
  rw [← hx.1, ← hx.2.1, ← hx.2.2, h0] at o1
  rw [← hx.2.1, ← hx.2.2] at hv
  rw [H_4_play_10, if_f (by omega), if_f (by omega), if_t h38, chk_t (by omega), if_f (by omega), if_f (by omega)]
  unfold G_takes G_takes_0 at o1
  have o1 := stg_some o1
  rw [if_t rfl] at o1
  have o1 := stg_some o1
  have q37 := (hc.2.2.2.2.2.2.2).q37
  have hcl := ((hc.heard cs (by omega) (by omega)).rset (j := 44) (i := 0) (v := 0) (by omega)).val (v := hs 1 0)
  have z44 : ur (ur r 44 0 0) 41 0 (hs 1 0) 44 0 = 0 := by rw [ur_n (by omega), ur_e rfl rfl]
  have zb : Bd (66 * cc) (250 * cc) (61 * cc) cc (ur (ur r 44 0 0) 41 0 (hs 1 0)) := ⟨(hbd.1.o44).v41 hv.2.1.1 hv.2.1.2, hbd.2.same fun j hj => by rw [ur_ne (by omega), ur_ne (by omega)]⟩
  have sq : SameQ r (ur (ur r 44 0 0) 41 0 (hs 1 0)) := (SameQ.rf.ur (by omega) (by omega)).ur (by omega) (by omega)
  have hp0 : P0 (ur (ur q 18 0 (0 + 1)) 2 0 (hs 1 0)) (ur (ur r 44 0 0) 41 0 (hs 1 0)) := by
    unfold P0 at *
    simp (disch := omega) only [ur_n]
    exact hp
  obtain ⟨q', t2, t3⟩ := sy_tail cs (by omega) (by omega) zb z44 (g.sameQ sq) (pt.sameQ sq) (pm.fr sq) (by rw [sq 83 (by omega)]; exact hr) (by omega) (by omega) (by omega) (by omega) (Or.inl ⟨hcl, Or.inr hp0⟩) o1
  have t1 : H_4_hear pg hs (hs 0 0) (hs 1 0) (hs 2 0) (ur q 18 0 (0 + 1)) = some (0, ur (ur q 18 0 (0 + 1)) 2 0 (hs 1 0)) := by
    unfold H_4_hear H_4_hear_0
    rw [if_t h0, stg_e]
  have e84 : (if q 37 0 = 0 then (if l4 = 0 then chk9 (iR (0 + 1)) (H_4_play_10 pg hs k122 m l4 (0 + 1) q) else H_4_play_84 pg hs (H_4_play_10 pg hs k122 m) l4 0 (hs 0 0) q) else H_4_play_84 pg hs (H_4_play_10 pg hs k122 m) l4 0 (hs 0 0) q) = H_4_play_10 pg hs k122 m l4 1 q' := by
    have e2 : H_4_play_84 pg hs (H_4_play_10 pg hs k122 m) l4 0 (hs 0 0) q = H_4_play_10 pg hs k122 m l4 1 q' := by
      unfold H_4_play_84
      rw [chk_t (by omega), stg_e, chk_t (by omega), chk_t (by omega), t1, cag_e, t2, cag_e, chk_t (by omega)]
      rfl
    by_cases d1 : q 37 0 = 0
    · rw [if_t d1, if_f (by omega)]; exact e2
    · rw [if_f d1]; exact e2
  rw [e84]
  have s38 : q' 38 0 = 0 ∨ q' 38 0 = 1 ∧ Mis r1 := by
    rcases t3 with ⟨a, _⟩ | a
    · exact Or.inl a
    · exact Or.inr a
  rcases s38 with s38 | ⟨s38, mis⟩
  · obtain ⟨q2, m', k1, k2, k3, k4⟩ := sy_seg (k122 := k122) cs hf hE hE8 hl m2 m 1 q' r1 r' v (by omega) h1 (by omega) o4.1 (hs'.sameQ o2) (hh.sameQ o2) (g.sameQ o2) (pt.sameQ o2) (pm.fr o2) (by rw [o2 83 (by omega)]; exact hr) (by rw [o2 80 (by omega)]; exact h80) t3.norm s38 (fun j a b => h7 j (by omega) b) (by omega) e2
    exact ⟨q2, m', o2.tr k1, k2, by omega, k4⟩
  · obtain ⟨v3, r3, w1, w2, w3, w4⟩ := ok_takesAll7 hE m2 1 r1 (by omega) (by omega) (by omega) o4.1 (hs'.sameQ o2) (g.sameQ o2) (pt.sameQ o2)
    rw [w1] at e2
    cases e2
    refine ⟨q', hi + m + 1, o2.tr w2, by omega, by omega, Or.inr ⟨s38, mis.keep w3 (w2 19 (by omega)) (w2 20 (by omega)) (w2 21 (by omega)) (w2 78 (by omega)) (w2 79 (by omega)) (w2 80 (by omega)), ?_⟩⟩
    obtain ⟨m, rfl⟩ : ∃ k, m = k + 1 := ⟨m - 1, by omega⟩
    rw [H_4_play_10]
    by_cases d1 : hs 3 0 ≤ 1
    · rw [if_t d1]
    · rw [if_f d1, if_f (by omega), if_f (by omega)]
end TP
