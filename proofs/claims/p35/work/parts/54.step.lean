/-! the class's player beside the reference's play: a step that is waited for begins -/
section CS
variable {c : Int → Int} {hs : Rst}
theorem Cs.mono (h : Cs c hs) : ∀ (k : Nat) (i : Int), 0 ≤ i → c i ≤ c (i + k) ∧ c (i + k) ≤ c i + k := by
  intro k
  induction k with
  | zero => intro i hi; simp only [Int.ofNat_zero, Int.natCast_zero, Int.add_zero]; omega
  | succ k ih =>
    intro i hi
    have e := h.2 (i + k) (by omega)
    have g := ih i hi
    have e2 : i + (k + 1 : Nat) = i + k + 1 := by omega
    rw [e2, e]
    split <;> omega
theorem Cs.le (h : Cs c hs) {i j : Int} (hi : 0 ≤ i) (hj : i ≤ j) : c i ≤ c j ∧ c j ≤ c i + (j - i) := by
  have g := h.mono (j - i).toNat i hi
  rw [show i + ((j - i).toNat : Int) = j by omega] at g
  omega
theorem Cs.lt (h : Cs c hs) {i j : Int} (hi : 0 ≤ i) (hj : i < j) (e : hs 0 i = 4) : c i < c j := by
  have g := h.le (i := i + 1) (j := j) (by omega) (by omega)
  have e2 := h.2 i hi
  rw [if_t e] at e2
  omega
theorem Cs.inv (h : Cs c hs) : ∀ (k : Nat) (v : Int), 0 ≤ v → v < c k → ∃ i : Int, 0 ≤ i ∧ i < k ∧ hs 0 i = 4 ∧ c i = v := by
  intro k
  induction k with
  | zero => intro v h0 h1; have := h.1; simp only [Int.ofNat_zero, Int.natCast_zero] at h1; omega
  | succ k ih =>
    intro v h0 h1
    have e := h.2 k (by omega)
    have e2 : ((k + 1 : Nat) : Int) = (k : Int) + 1 := by omega
    rw [e2, e] at h1
    by_cases g : v < c k
    · obtain ⟨i, a, b, d⟩ := ih v h0 g
      exact ⟨i, a, by omega, d⟩
    · by_cases g4 : hs 0 k = 4
      · rw [if_t g4] at h1
        exact ⟨k, by omega, by omega, g4, by omega⟩
      · rw [if_f g4] at h1
        omega
theorem Cs.zero (h : Cs c hs) {n : Int} (hn : 0 ≤ n) : 0 ≤ c n ∧ c n ≤ n := by
  have g := h.le (i := 0) (j := n) (by omega) hn
  have := h.1
  omega
end CS
section ST
variable {pg hs : Rst} {c : Int → Int} {B E n p : Int} {q r : Rst}
theorem bw_none {k67 k95 : Int → Int → Rst → Option G2} (hn : q 18 0 = n) (hn2 : n ≤ 80) {l1 l2 l3 : Int} (hno : ∀ i, 0 ≤ i → i < n → ¬ (hs 0 i = 4 ∧ hs 1 i = l2 ∧ q 20 i = 0)) : ∀ (m : Nat) (l5 : Int), 0 ≤ l5 → l5 ≤ 80 → 80 - l5 < m → H_4_beginWait_17 pg hs k67 k95 m l1 l2 l3 l5 q = k95 l1 l3 q := by
  intro m
  induction m with
  | zero => intro l5 h0 h1 h2; omega
  | succ m ih =>
    intro l5 h0 h1 h2
    rw [H_4_beginWait_17]
    by_cases c0 : q 18 0 ≤ l5
    · rw [if_t c0]
    · have g := hno l5 h0 (by omega)
      have nx := ih (l5 + 1) (by omega) (by omega) (by omega)
      rw [if_f c0, if_f (by omega), chk_t (by omega), chk_t (by omega), chk_t (by omega), chk_t (by omega)]
      by_cases c1 : hs 0 l5 = 4
      · rw [if_t c1]
        by_cases c2 : hs 1 l5 = l2
        · rw [if_t c2, if_f (fun c3 => g ⟨c1, c2, c3⟩)]; exact nx
        · rw [if_f c2]; exact nx
      · rw [if_f c1]; exact nx
theorem bw_some {k67 k95 : Int → Int → Rst → Option G2} (hn : q 18 0 = n) (hn2 : n ≤ 80) {l1 l2 l3 i0 : Int} (hi0 : i0 < n) (hy : hs 0 i0 = 4 ∧ hs 1 i0 = l2 ∧ q 20 i0 = 0) (hno : ∀ i, 0 ≤ i → i < i0 → ¬ (hs 0 i = 4 ∧ hs 1 i = l2 ∧ q 20 i = 0)) : ∀ (m : Nat) (l5 : Int), 0 ≤ l5 → l5 ≤ i0 → 80 - l5 < m → H_4_beginWait_17 pg hs k67 k95 m l1 l2 l3 l5 q = k67 l1 i0 q := by
  intro m
  induction m with
  | zero => intro l5 h0 h1 h2; omega
  | succ m ih =>
    intro l5 h0 h1 h2
    rw [H_4_beginWait_17, if_f (by omega), if_f (by omega), chk_t (by omega), chk_t (by omega), chk_t (by omega), chk_t (by omega)]
    by_cases ce : l5 = i0
    · subst ce
      rw [if_t hy.1, if_t hy.2.1, if_t hy.2.2]
    · have g := hno l5 h0 (by omega)
      have nx := ih (l5 + 1) (by omega) (by omega) (by omega)
      by_cases c1 : hs 0 l5 = 4
      · rw [if_t c1]
        by_cases c2 : hs 1 l5 = l2
        · rw [if_t c2, if_f (fun c3 => g ⟨c1, c2, c3⟩)]; exact nx
        · rw [if_f c2]; exact nx
      · rw [if_f c1]; exact nx
/-- looking for a signal that was not taken: both find the same, or nothing -/
theorem bw_both (hc : Cs c hs) (h : Cm pg hs c B E n p q r) (hn0 : 0 ≤ n) (hn2 : n ≤ 80) (l2 : Int) : ∃ v, G_untaken l2 r = some (v, r) ∧ ((v = -1 ∧ ∀ k95 k67 l1 l3, H_4_beginWait_17 pg hs k67 k95 fuel9 l1 l2 l3 0 q = k95 l1 l3 q) ∨ ∃ i, 0 ≤ i ∧ i < n ∧ hs 0 i = 4 ∧ c i = v ∧ 0 ≤ v ∧ v < c n ∧ r 66 v = hs 2 i ∧ ∀ k95 k67 l1 l3, H_4_beginWait_17 pg hs k67 k95 fuel9 l1 l2 l3 0 q = k67 l1 i q) := by
  obtain ⟨h1, h2, h3, h4, ⟨s1, s2, s3⟩, h5⟩ := h
  have cz := hc.zero hn0
  obtain ⟨v, e, hv⟩ := f_untaken0 (l1 := l2) (r := r) (by omega) (by omega)
  refine ⟨v, e, ?_⟩
  rcases hv with ⟨hv, hno⟩ | ⟨hv, hy, hno⟩
  · refine Or.inl ⟨hv, fun k95 k67 l1 l3 => bw_none h1 hn2 (fun i hi hi2 hh => ?_) fuel9 0 (by omega) (by omega) (fuel_big (by omega))⟩
    have g := s2 i hi hi2 hh.1
    have cl := hc.lt hi hi2 hh.1
    have c0 := hc.zero hi
    exact hno (c i) c0.1 (by omega) ⟨by omega, by omega⟩
  · obtain ⟨i, i0, i1, i2, i3⟩ := hc.inv n.toNat v hv.1 (by rw [show ((n.toNat : Nat) : Int) = n by omega]; omega)
    have i1' : i < n := by omega
    have g := s2 i i0 i1' i2
    rw [i3] at g
    refine Or.inr ⟨i, i0, i1', i2, i3, hv.1, by omega, g.2.1, fun k95 k67 l1 l3 => bw_some h1 hn2 i1' ⟨i2, by omega, by omega⟩ (fun j hj hj2 hh => ?_) fuel9 0 (by omega) i0 (fuel_big (by omega))⟩
    have g' := s2 j hj (by omega) hh.1
    have cl := hc.lt hj hj2 hh.1
    have c0 := hc.zero hj
    exact hno (c j) c0.1 (by omega) ⟨by omega, by omega⟩
theorem waitsFor_eq2 {s : Int} {r : Rst} (h0 : 0 ≤ r 55 0) (h1 : r 55 0 < 3) (hc : 0 ≤ 12 * r 77 0 + s) (hc2 : 12 * r 77 0 + s < 180) (hp : 0 ≤ r 77 0) (hp2 : r 77 0 < 15) (hk : 0 ≤ r 2 (12 * r 77 0 + s)) (hk2 : r 2 (12 * r 77 0 + s) ≤ 3) :
    G_waitsFor s r = (if r 2 (12 * r 77 0 + s) = 0 then chk9 (iR (r 51 0 + 1)) (cag (G_decides 8 (r 3 (12 * r 77 0 + s)) (r 4 (12 * r 77 0 + s)) (ur (ur (wb (r 55 0) (r 2 (12 * r 77 0 + s)) (r 3 (12 * r 77 0 + s)) r) 58 (r 55 0) (r 51 0)) 51 0 (r 51 0 + 1))) fun _ q => some (0, q))
      else if r 2 (12 * r 77 0 + s) = 1 then cag (G_setsTimer (r 55 0) (r 3 (12 * r 77 0 + s)) (wb (r 55 0) (r 2 (12 * r 77 0 + s)) (r 3 (12 * r 77 0 + s)) r)) fun _ q => some (0, q)
      else if r 2 (12 * r 77 0 + s) = 2 then cag (G_untaken (r 3 (12 * r 77 0 + s)) (wb (r 55 0) (r 2 (12 * r 77 0 + s)) (r 3 (12 * r 77 0 + s)) r)) fun v q => if v = (-1) then (if q 4 (12 * r 77 0 + s) ≤ 0 then some (0, q) else cag (G_setsTimer (r 55 0) (q 4 (12 * r 77 0 + s)) q) fun _ q => some (0, q)) else chk9 (0 ≤ v ∧ v < 80) (stg (ur q 67 v 1) fun q2 => chk9 (0 ≤ v ∧ v < 80) (cag (G_gets (r 55 0) (q2 66 v) q2) fun _ q => some (0, q)))
      else chk9 (iR (r 53 0 + 1)) (cag (G_decides 12 (r 3 (12 * r 77 0 + s)) (r 4 (12 * r 77 0 + s)) (ur (ur (wb (r 55 0) (r 2 (12 * r 77 0 + s)) (r 3 (12 * r 77 0 + s)) r) 58 (r 55 0) (r 53 0)) 53 0 (r 53 0 + 1))) fun _ q => some (0, q))) := by
  unfold G_waitsFor G_waitsFor_0 G_stepAt G_stepAt_0
  generalize 12 * r 77 0 + s = c at *
  have e : ur (ur (ur (ur (ur (ur (ur (ur r 55 0 (r 55 0 + 1)) 56 (r 55 0) (r 2 c)) 59 (r 55 0) (-1)) 58 (r 55 0) (-1)) 57 (r 55 0) (r 3 c)) 60 (r 55 0) 0) 61 (r 55 0) 0) 63 (r 55 0) 0 = wb (r 55 0) (r 2 c) (r 3 c) r := rfl
  have g2 : wb (r 55 0) (r 2 c) (r 3 c) r 2 = r 2 := wb_n (by omega)
  have g3 : wb (r 55 0) (r 2 c) (r 3 c) r 3 = r 3 := wb_n (by omega)
  have g4 : wb (r 55 0) (r 2 c) (r 3 c) r 4 = r 4 := wb_n (by omega)
  have g51 : wb (r 55 0) (r 2 c) (r 3 c) r 51 = r 51 := wb_n (by omega)
  have g53 : wb (r 55 0) (r 2 c) (r 3 c) r 53 = r 53 := wb_n (by omega)
  rw [chk_t (by omega), chk_t (by omega), cag_e, chk_t (by omega), stg_e, chk_t (by omega), chk_t (by omega), stg_e, chk_t (by omega), stg_e, chk_t (by omega), stg_e, chk_t (by omega), chk_t (by omega), stg_e, chk_t (by omega), stg_e, chk_t (by omega), stg_e, chk_t (by omega), stg_e, chk_t (by omega)]
  have e2 : ur r 55 0 (r 55 0 + 1) 2 c = r 2 c := ur_n (by omega)
  rw [e2]
  have e3 : ur (ur (ur (ur r 55 0 (r 55 0 + 1)) 56 (r 55 0) (r 2 c)) 59 (r 55 0) (-1)) 58 (r 55 0) (-1) 3 c = r 3 c := by simp (disch := omega) only [ur_n]
  rw [e3, e]
  simp (disch := omega) only [g2, g3, g4, g51, g53, ur_ne, chk_t, stg_e, ur_n, ur_e]
  by_cases c0 : r 2 c = 0
  · rw [if_pos c0, if_pos c0]
  · rw [if_neg c0, if_neg c0]
    by_cases c1 : r 2 c = 1
    · rw [if_pos c1, if_pos c1]
    · rw [if_neg c1, if_neg c1]
      by_cases c2 : r 2 c = 2
      · rw [if_pos c2, if_pos c2]
      · have c3 : r 2 c = 3 := by omega
        rw [if_neg c2, if_neg c2, if_pos c3]
/-- a place is added to those that are waited for -/
theorem Sl1.mono {n2 a1 t1 d1 a2 t2 d2 k ac ti ch wh re ov lo kd sg fo tm dn ls rs hr : Int} (h : Sl1 hs n a1 t1 d1 k ac ti ch wh re ov lo kd sg fo tm dn ls rs hr) (h0 : n ≤ n2) (h1 : a1 ≤ a2) (h2 : t1 ≤ t2) (h3 : d1 ≤ d2) : Sl1 hs n2 a2 t2 d2 k ac ti ch wh re ov lo kd sg fo tm dn ls rs hr := by
  obtain ⟨b1, b2, b3, b4, b5, b6, b7, b8, b9, c1, c2, c3, c4, c5, c6, c7, c8, c9⟩ := h
  refine ⟨b1, b2, fun e => ?_, b4, fun e => ?_, b6, ?_, b8, b9, c1, c2, c3, c4, c5, c6, c7, fun e e2 => ?_, fun e e2 => ?_⟩
  · have := b3 e; omega
  · have := b5 e; omega
  · exact ⟨b7.1, b7.2.1, Int.lt_of_lt_of_le b7.2.2.1 h2, b7.2.2.2⟩
  · obtain ⟨x, y1, y2, y3⟩ := c8 e e2
    exact ⟨x, y1, by omega, y3⟩
  · obtain ⟨x, y1, y2, y3⟩ := c9 e e2
    exact ⟨x, y1, by omega, y3⟩
theorem SL.push {n2 k : Int} {q' r' : Rst} (h : SL hs n k q r) (hn : n ≤ n2) (h1 : r 51 0 ≤ r' 51 0) (h2 : r 52 0 ≤ r' 52 0) (h3 : r 53 0 ≤ r' 53 0) (kq : ∀ (j : Nat) i, 50 ≤ j → j ≤ 57 → i ≠ k → q' j i = q j i) (kr : ∀ (j : Nat) i, 56 ≤ j → j ≤ 63 → i ≠ k → r' j i = r j i)
    (hk : Sl1 hs n2 (r' 51 0) (r' 52 0) (r' 53 0) (q' 50 k) (q' 51 k) (q' 52 k) (q' 53 k) (q' 54 k) (q' 55 k) (q' 56 k) (q' 57 k) (r' 56 k) (r' 57 k) (r' 58 k) (r' 59 k) (r' 60 k) (r' 61 k) (r' 62 k) (r' 63 k)) : SL hs n2 (k + 1) q' r' := by
  intro i h0 hi
  by_cases e : i = k
  · rw [e]; exact hk
  · rw [kq 50 i (by omega) (by omega) e, kq 51 i (by omega) (by omega) e, kq 52 i (by omega) (by omega) e, kq 53 i (by omega) (by omega) e, kq 54 i (by omega) (by omega) e, kq 55 i (by omega) (by omega) e, kq 56 i (by omega) (by omega) e, kq 57 i (by omega) (by omega) e, kr 56 i (by omega) (by omega) e, kr 57 i (by omega) (by omega) e, kr 58 i (by omega) (by omega) e, kr 59 i (by omega) (by omega) e, kr 60 i (by omega) (by omega) e, kr 61 i (by omega) (by omega) e, kr 62 i (by omega) (by omega) e, kr 63 i (by omega) (by omega) e]
    exact (h i h0 (by omega)).mono hn h1 h2 h3
theorem DI.push {k : Int} {r' : Rst} (h : DI k (r 56) (r 58) (r 59)) (hs' : SL hs n k q r) (kr : ∀ (j : Nat) i, 56 ≤ j → j ≤ 63 → i ≠ k → r' j i = r j i) (h0 : r' 56 k = 0 → r 51 0 ≤ r' 58 k) (h3 : r' 56 k = 3 → r 53 0 ≤ r' 58 k) (h4 : 0 ≤ r' 59 k → r 52 0 ≤ r' 59 k) : DI (k + 1) (r' 56) (r' 58) (r' 59) := by
  intro i j hi hj hk
  by_cases e : j = k
  · subst e
    rw [kr 56 i (by omega) (by omega) (by omega), kr 58 i (by omega) (by omega) (by omega), kr 59 i (by omega) (by omega) (by omega)]
    obtain ⟨b1, b2, b3, b4, b5, b6, b7, b8⟩ := hs' i hi hj
    refine ⟨fun e1 e2 => ?_, fun e1 e2 => ?_, fun e1 e2 => ?_⟩
    · have := b3 e1; have := h0 e2; omega
    · have := b5 e1; have := h3 e2; omega
    · have := h4 e2; omega
  · rw [kr 56 i (by omega) (by omega) (by omega), kr 58 i (by omega) (by omega) (by omega), kr 59 i (by omega) (by omega) (by omega), kr 56 j (by omega) (by omega) (by omega), kr 58 j (by omega) (by omega) (by omega), kr 59 j (by omega) (by omega) (by omega)]
    exact h i j hi hj (by omega)
end ST
