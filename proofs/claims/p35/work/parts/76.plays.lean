/-! the class's player beside the reference's play: all that is told -/
section PL
variable {pg hs : Rst} {c : Int → Int} {B E : Int}
/-- what the class sees ahead -/
def La (hs : Rst) (E L : Int) (q : Rst) : Prop := ∃ d b, L ≤ d ∧ d ≤ E ∧ (∀ j, L ≤ j → j < d → hs 0 j ≠ 7) ∧ (d < E → hs 0 d = 7) ∧ d + 1 ≤ b ∧ (b ≤ E ∨ b = d + 1) ∧ (∀ j, d + 1 ≤ j → j < b → 7 < hs 0 j) ∧ (b < E → hs 0 b ≤ 7) ∧ q 37 0 = (if d < E then 1 else 0) ∧ q 40 0 = d + 1 ∧ q 41 0 = b
theorem play_skip {k122 : Rst → Option G2} {l4 : Int} {q : Rst} (hE : hs 3 0 = E) (hE8 : E ≤ 80) (h38 : q 38 0 = 0) : ∀ (t m : Nat) (i b : Int), 0 ≤ i → b - i = t → b ≤ E → (∀ j, i ≤ j → j < b → 7 < hs 0 j) → H_4_play_10 pg hs k122 (m + t) l4 i q = H_4_play_10 pg hs k122 m l4 b q := by
  intro t
  induction t with
  | zero =>
    intro m i b h0 h1 h2 h3
    rw [show i = b by omega, Nat.add_zero]
  | succ t ih =>
    intro m i b h0 h1 h2 h3
    have := h3 i (by omega) (by omega)
    rw [show m + (t + 1) = (m + t) + 1 from rfl, H_4_play_10, if_f (by omega), if_f (by omega), if_t h38, chk_t (by omega), if_f (by omega), if_t (by omega), chk_t (by omega)]
    exact ih m (i + 1) b (by omega) (by omega) h2 fun j a d => h3 j (by omega) d
theorem pe_skips {q r : Rst} (cs : Cs c hs) : ∀ (t : Nat) (i b : Int), 0 ≤ i → b - i = t → (∀ j, i ≤ j → j < b → hs 0 j ≠ 4) → Pe pg hs c B E i (ur q 18 0 i) r → Pe pg hs c B E b (ur q 18 0 b) r := by
  intro t
  induction t with
  | zero => intro i b h0 h1 h2 h; rw [show b = i by omega]; exact h
  | succ t ih => intro i b h0 h1 h2 h; exact ih (i + 1) b (by omega) (by omega) (fun j a d => h2 j (by omega) d) (h.skip cs h0 (h2 i (by omega) (by omega)))
/-- only the play's own fields differ -/
def AgS (r r' : Rst) : Prop := ∀ j : Nat, j < 40 ∨ j = 77 ∨ 80 ≤ j → r' j = r j
theorem AgS.tr {r r1 r2 : Rst} (h : AgS r r1) (k : AgS r1 r2) : AgS r r2 := fun j hj => (k j hj).trans (h j hj)
/-- how many there are, a part of them left out -/
theorem cntP_add {p : Int → Bool} {f : Int → Int} {n : Nat} : ∀ {t : Nat}, cntP p f (n + t) = cntP p f n + cntP p (fun k => f (n + k)) t
  | 0 => (Int.add_zero _).symm
  | t + 1 => by
    rw [show n + (t + 1) = (n + t) + 1 from rfl, cntP, cntP, cntP_add (t := t), Int.add_assoc]
    congr 1
theorem cntP_none {p : Int → Bool} {f : Int → Int} {n : Nat} : ∀ {t : Nat}, (∀ k : Int, n ≤ k → k < n + t → p (f k) = false) → cntP p f (n + t) = cntP p f n
  | 0, _ => rfl
  | t + 1, h => by
    rw [show n + (t + 1) = (n + t) + 1 from rfl, cntP, cntP_none fun k a b => h k a (by omega), h ((n + t : Nat) : Int) (by omega) (by omega)]
    exact Int.add_zero _
/-- what was told ahead of L, told again ahead of b -/
theorem cnt_part {p : Int → Bool} {f g : Int → Int} {L d b : Int} (h0 : 0 ≤ L) (h1 : L ≤ d) (h2 : d < b) (hp : ∀ k, L ≤ k → k ≤ d → p (f k) = false) (hg : ∀ k, 0 ≤ k → k < b - d - 1 → g k = f (d + 1 + k)) : cntP p f b.toNat = cntP p f L.toNat + cntP p g (b - d - 1).toNat := by
  have e1 : cntP p f (d + 1).toNat = cntP p f L.toNat := by
    rw [show (d + 1).toNat = L.toNat + (d + 1 - L).toNat by omega]
    exact cntP_none fun k a c => hp k (by omega) (by omega)
  rw [show b.toNat = (d + 1).toNat + (b - d - 1).toNat by omega, cntP_add, e1]
  congr 1
  refine cntP_congr fun i a c => ?_
  rw [hg i a (by omega)]
  congr 1
  omega
/-- the numbers of what was decided, the timers of what is waited for -/
def Jb (hs : Rst) (L : Int) (r : Rst) : Prop := r 51 0 = cntP pA (hs 0) L.toNat ∧ r 52 0 = cntP pT (hs 0) L.toNat ∧ r 53 0 = cntP pM (hs 0) L.toNat ∧ r 47 0 = can (hs 0) L.toNat ∧ (∀ i, 0 ≤ i → i < r 55 0 → -1 ≤ r 59 i ∧ r 59 i < r 52 0) ∧ PgC r
theorem Jb.j {hs : Rst} {L : Int} {r z : Rst} {hx : Prop} (h : Jb hs L r) (az : AgR r z) (z76 : z 76 0 = 0) : J (r 51 0) (r 52 0) (r 53 0) (can (hs 0) L.toNat) hx z := by
  obtain ⟨h1, h2, h3, h47, h4, h5⟩ := h
  have t := cntP_0 (p := pT) (f := hs 0) (n := L.toNat)
  refine ⟨⟨by omega, by omega, by unfold PgC; rw [az 2 (by omega), az 3 (by omega), az 4 (by omega)]; exact h5, by rw [az 47 (by omega)]; exact h47⟩, ⟨?_, ?_, ?_⟩, fun k a b => by omega, by rw [az 55 (by omega), az 59 (by omega), az 52 (by omega)]; exact h4, fun _ y => ?_⟩
  · rw [az 51 (by omega), z76]; exact (Int.add_zero _).symm
  · rw [az 52 (by omega), z76]; exact (Int.add_zero _).symm
  · rw [az 53 (by omega), z76]; exact (Int.add_zero _).symm
  · obtain ⟨k, a, b, _⟩ := y
    omega
theorem k7 {hs : Rst} {E L d : Int} (hk : ∀ j, 0 < j → j < E → 7 < hs 0 j → 7 ≤ hs 0 (j - 1)) (h0 : 0 ≤ L) (hL : L < E → hs 0 L ≤ 7) (hd : ∀ j, L ≤ j → j < d → hs 0 j ≠ 7) (hd2 : d < E) : ∀ (t : Nat) (k : Int), k - L = t → k ≤ d → hs 0 k ≤ 7 := by
  intro t
  induction t with
  | zero => intro k a b; rw [show k = L by omega]; exact hL (by omega)
  | succ t ih =>
    intro k a b
    have h1 := ih (k - 1) (by omega) (by omega)
    have h2 := hd (k - 1) (by omega) (by omega)
    by_cases c : hs 0 k ≤ 7
    · exact c
    · have := hk k (by omega) (by omega) (by omega)
      omega
theorem sy_plays58 {l4 : Int} {k122 : Rst → Option G2} (cs : Cs c hs) (hf : Hf hs E) (hE8 : E ≤ 80) (hl : l4 = 0 ∨ l4 = 1) (hov : ∀ j, 0 ≤ j → j < E → hs 0 j = 16 → j = E - 1) (h00 : hs 0 0 = 0) (hk : ∀ j, 0 < j → j < E → 7 < hs 0 j → 7 ≤ hs 0 (j - 1)) : ∀ (n : Nat) (L i : Int) (q r r' : Rst) (v : Int) (m : Nat), 0 ≤ i → i ≤ E → L ≤ E → (∀ j, L ≤ j → j < i → hs 0 j ≠ 7) → (∀ j, i ≤ j → j < L → hs 0 j ≠ 7) → Tq pg hs c B E L q r → La hs E L q → Btw L (ur r 76 0 0) → Hs B E r → HsR hs B E r → PgR r → Pt r → PgM pg r → r 83 0 ≤ 9 → r 80 0 = 0 → (L < E → hs 0 L ≤ 7) → Jb hs L r → E - L + 3 < m → G_plays_58 n (B + E) (B + L) (B + i) r = some (v, r') →
    AgS r r' ∧ ((v = -1 ∧ Btw 80 r' ∧ Pt r' ∧ ∃ q', H_4_play_10 pg hs k122 m l4 L q = k122 q' ∧ q' 38 0 = 1) ∨ ∃ L' q' m', v = B + L' ∧ L' ≤ E ∧ Tq pg hs c B E L' q' r' ∧ q' 37 0 = 0 ∧ 0 ≤ q' 40 0 ∧ Btw L' (ur r' 76 0 0) ∧ (∀ j, L' ≤ j → j < E → hs 0 j ≠ 7) ∧ E - L' + 3 < (m' : Nat) ∧ Pt r' ∧ Jb hs L' r' ∧ (L' < E → hs 0 L' ≤ 7) ∧ H_4_play_10 pg hs k122 m l4 L q = H_4_play_10 pg hs k122 m' l4 L' q') := by
  have f9 := fuel9_ge
  intro n
  induction n with
  | zero =>
    intro L i q r r' v m _ _ _ _ _ _ _ _ _ _ _ _ _ _ _ _ _ _ e
    rw [G_plays_58] at e
    cases e
  | succ n ih =>
    intro L i q r r' v m h0 h1 hL g1 g2 tq hla hb hs' hh g pt pm hr h80 hL7 jb hm e
    rw [G_plays_58] at e
    obtain ⟨d, b, d1, d2, d3, d4, d5, d6, d7, d8, d9, d10, d11⟩ := hla
    have b1 := hs'.1
    have hE0 := hh.1
    have tL := tq.2.2.1
    have t38 := tq.1
    have t33 := tq.2.1
    rcases ite_some e with ⟨c0, e⟩ | ⟨c0, e⟩
    · cases e
      have ed : ¬ d < E := fun h => g1 d d1 (by omega) (d4 h)
      rw [if_f ed] at d9
      exact ⟨fun j _ => rfl, Or.inr ⟨L, q, m, rfl, hL, tq, d9, by omega, hb, fun j a k => d3 j a (by omega), hm, pt, jb, hL7, rfl⟩⟩
    · obtain ⟨_, e⟩ := chk_some e
      have hx := hh.2 i h0 (by omega)
      rcases ite_some e with ⟨c1, e⟩ | ⟨c1, e⟩
      · have iL : L ≤ i := by
          by_cases h : L ≤ i
          · exact h
          · exact absurd (hx.1.trans c1) (g2 i (Int.le_refl _) (by omega))
        have ed : d = i := by
          rcases (show d < i ∨ d = i ∨ i < d by omega) with h | h | h
          · exact absurd (d4 (by omega)) (g1 d d1 h)
          · exact h
          · exact absurd (hx.1.trans c1) (d3 i iL h)
        subst ed
        rw [if_t (show d < E by omega)] at d9
        obtain ⟨_, e⟩ := chk_some e
        have e := stg_some e
        obtain ⟨b', f1, f2, f3, f4, f5⟩ := f_end (r := ur r 78 0 (B + d + 1)) (H := B + E) (i := B + d) hs'.2.1 (by omega) (by omega)
        obtain ⟨v1, r1, e1, e⟩ := cag_some e
        rw [f5] at e1
        cases e1
        have e := stg_some e
        have u19 : ur r 78 0 (B + d + 1) 19 = r 19 := ur_ne (by omega)
        rw [u19] at f3 f4
        have eb : b' = B + b := by
          rcases (show b' < B + b ∨ b' = B + b ∨ B + b < b' by omega) with h | h | h
          · have k1 := d7 (b' - B) (by omega) (by omega)
            have k2 := f4 (by omega)
            rw [(hh.2 (b' - B) (by omega) (by omega)).1, show B + (b' - B) = b' by omega] at k1
            omega
          · exact h
          · have k1 := f3 (B + b) (by omega) h
            have k2 := d8 (by omega)
            rw [(hh.2 b (by omega) (by omega)).1] at k2
            omega
        subst eb
        obtain ⟨v2, r2, e2, e⟩ := cag_some e
        unfold G_takesAll G_takesAll_0 at e2
        have e2 := stg_some e2
        have kz : ∀ j : Nat, j ≠ 78 → j ≠ 79 → j ≠ 76 → ur (ur (ur r 78 0 (B + d + 1)) 79 0 (B + b)) 76 0 0 j = r j := fun j a1 a2 a3 => by rw [ur_ne a3, ur_ne a2, ur_ne a1]
        have z78 : ur (ur (ur r 78 0 (B + d + 1)) 79 0 (B + b)) 76 0 0 78 0 = B + d + 1 := by rw [ur_n (by omega), ur_n (by omega), ur_e rfl rfl]
        have z79 : ur (ur (ur r 78 0 (B + d + 1)) 79 0 (B + b)) 76 0 0 79 0 = B + b := by rw [ur_n (by omega), ur_e rfl rfl]
        have z76 : ur (ur (ur r 78 0 (B + d + 1)) 79 0 (B + b)) 76 0 0 76 0 = 0 := ur_e rfl rfl
        generalize ur (ur (ur r 78 0 (B + d + 1)) 79 0 (B + b)) 76 0 0 = z at *
        have az : AgR r z := fun j hj => kz j (by omega) (by omega) (by omega)
        have bz : Btw L z := hb.z76 az z76
        have z80 : z 80 0 = 0 := by rw [kz 80 (by omega) (by omega) (by omega)]; exact h80
        have hz : Hs B E z := by
          unfold Hs
          rw [kz 19 (by omega) (by omega) (by omega), kz 20 (by omega) (by omega) (by omega), kz 21 (by omega) (by omega) (by omega)]
          exact hs'
        have hhz : HsR hs B E z := by
          unfold HsR
          rw [kz 19 (by omega) (by omega) (by omega), kz 20 (by omega) (by omega) (by omega), kz 21 (by omega) (by omega) (by omega)]
          exact hh
        have gz : PgR z := by
          unfold PgR
          rw [kz 77 (by omega) (by omega) (by omega), kz 5 (by omega) (by omega) (by omega), kz 2 (by omega) (by omega) (by omega), kz 3 (by omega) (by omega) (by omega), kz 4 (by omega) (by omega) (by omega)]
          exact g
        have pmz : PgM pg z := by
          unfold PgM
          rw [kz 77 (by omega) (by omega) (by omega), kz 5 (by omega) (by omega) (by omega), kz 2 (by omega) (by omega) (by omega), kz 3 (by omega) (by omega) (by omega), kz 4 (by omega) (by omega) (by omega)]
          exact pm
        have b2 := hs'.2.1
        have ptz : Pt z := by unfold Pt; omega
        have hrz : z 83 0 ≤ 9 := by rw [kz 83 (by omega) (by omega) (by omega)]; exact hr
        have h42 : r 42 0 ≠ 2 := fun h => by
          obtain ⟨j, j0, j1, j2⟩ := tq.2.2.2.1 h
          have := hov j j0 (by omega) j2
          omega
        have hds : Ds hs B E q z := ⟨hhz, Or.inl ⟨z80, d9, t33, by omega, by omega, by omega, hE8, by omega, by omega, Or.inl ⟨t38, by omega, by omega, fun k a k2 => by omega⟩⟩⟩
        have key : ∃ q' m', SameQ z r2 ∧ 1 ≤ m' ∧ m' + (d - L) ≥ (m : Int) ∧ ((q' 38 0 = 0 ∧ Pe pg hs c B E d (ur q' 18 0 d) r2 ∧ Btw d r2 ∧ H_4_play_10 pg hs k122 m l4 L q = H_4_play_10 pg hs k122 m'.toNat l4 d q') ∨ (q' 38 0 = 1 ∧ Mis r2 ∧ H_4_play_10 pg hs k122 m l4 L q = k122 q')) := by
          rcases tq.go h42 az hds with ⟨l0, hc, hp⟩ | ⟨l1, hp⟩
          · subst l0
            have d0 : d ≠ 0 := fun h => by rw [h] at d4; have := d4 (by omega); omega
            exact sy_first cs hf (by omega) hE8 hl fuel9 m v2 (by omega) (by omega) bz hz hhz gz ptz pmz hrz (Or.inl z80) h00 hc hp t38 d3 (by omega) e2
          · exact sy_seg cs hf (by omega) hE8 hl fuel9 m L q z r2 v2 l1 d1 (by omega) bz hz hhz gz ptz pmz hrz (Or.inl z80) hp t38 d3 (by omega) e2
        have j2 := J_takesAll7 (show d ≤ E by omega) hf (hx := False) (fun h => h.elim) fuel9 L z tL d1 (fun _ => z76) hhz bz hz gz ptz (jb.j az z76) v2 r2 e2
        obtain ⟨v3, r3, w1, w2, w3, w4⟩ := ok_takesAll7 (show d ≤ E by omega) fuel9 L z (by omega) (by omega) (by omega) bz hz gz ptz
        rw [w1] at e2
        cases e2
        have y78 : r2 78 0 = B + d + 1 := by rw [w2 78 (by omega)]; exact z78
        have y79 : r2 79 0 = B + b := by rw [w2 79 (by omega)]; exact z79
        have y80 : r2 80 0 = 0 := by rw [w2 80 (by omega)]; exact z80
        have y19 : r2 19 = z 19 := w2 19 (by omega)
        have b76 : 0 ≤ r2 76 0 ∧ r2 76 0 ≤ 5200 := by
          obtain ⟨cc, a1, a2, a3, a4⟩ := w4
          have := a4.1.1
          omega
        obtain ⟨u, t1, t2, t3⟩ := f_told (r := r2) (by omega) (by omega) (by omega) (by omega) (by omega) (by omega)
        obtain ⟨v4, r4, e4, e⟩ := cag_some e
        rw [t1] at e4
        cases e4
        have as : AgS r r2 := fun j hj => by rw [w2 j (by omega)]; exact kz j (by omega) (by omega) (by omega)
        obtain ⟨q', m', k1, k2, k3, ⟨s38, pe, bt, he⟩ | ⟨s38, mis, he⟩⟩ := key
        · have ds := pe.ds (by rw [ur_n (by omega)]; exact s38)
          obtain ⟨-, ⟨x1, x2, x3, x4, x5, x6, x7, x8, x9, x10⟩ | ⟨x1, -⟩⟩ := ds
          · rw [ur_n (by omega)] at x2 x3 x5 x6 x8
            rw [ur_n (by omega), ur_n (by omega), ur_n (by omega)] at x10
            rcases x10 with ⟨_, x11, x12, x13⟩ | ⟨x, _⟩
            · obtain ⟨k, hk9⟩ : ∃ k, m'.toNat = k + 1 := ⟨m'.toNat - 1, by omega⟩
              rw [hk9, H_4_play_10, if_f (by omega), if_f (by omega), if_t s38, chk_t (by omega), if_t (by omega)] at he
              unfold H_1_closePart H_1_closePart_0 H_1_closePart_16 at he
              rcases ite_some e with ⟨u0, e⟩ | ⟨u0, e⟩
              · cases e
                have ne : ¬ q' 40 0 = q' 41 0 := fun h => by
                  have := t3.mpr ⟨by omega, x13⟩
                  omega
                have e41 : ur q' 38 0 1 41 0 = q' 41 0 := ur_n (by omega)
                obtain ⟨p1, p2, p3, p4, p5, p6, p7, p8, p9, p10, p11⟩ := la_ok (pg := pg) (q := ur q' 38 0 1) (a := ur q' 38 0 1 41 0) hE0 hE8 (by omega) (by omega)
                rw [if_f ne, stg_e, p11, cag_e, cag_e, chk_t (by omega)] at he
                have a38 : ur (ur (ur (ur q' 38 0 1) 37 0 (if p1 < E then 1 else 0)) 40 0 (p1 + 1)) 41 0 p2 38 0 = 1 := by rw [ur_n (by omega), ur_n (by omega), ur_n (by omega), ur_e rfl rfl]
                generalize ur (ur (ur (ur q' 38 0 1) 37 0 (if p1 < E then 1 else 0)) 40 0 (p1 + 1)) 41 0 p2 = q2 at *
                refine ⟨as, Or.inl ⟨rfl, w4, ptz.sameQ w2, q2, he.trans ?_, a38⟩⟩
                obtain ⟨k, rfl⟩ : ∃ k2, k = k2 + 1 := ⟨k - 1, by omega⟩
                rw [H_4_play_10]
                by_cases dd : hs 3 0 ≤ d + 1
                · rw [if_t dd]
                · rw [if_f dd, if_f (by omega), if_f (by omega)]
              · obtain ⟨_, e⟩ := chk_some e
                have al := t3.mp (by omega)
                have eq : q' 40 0 = q' 41 0 := by omega
                obtain ⟨p1, p2, p3, p4, p5, p6, p7, p8, p9, p10, p11⟩ := la_ok (pg := pg) (q := q') (a := q' 41 0) hE0 hE8 (by omega) (by omega)
                have e41 : q' 41 0 = b := by omega
                rw [if_t eq, p11, cag_e, cag_e, chk_t (by omega)] at he
                rw [e41] at p3 p5
                have a33 : ur (ur (ur q' 37 0 (if p1 < E then 1 else 0)) 40 0 (p1 + 1)) 41 0 p2 33 0 = 0 := by rw [ur_n (by omega), ur_n (by omega), ur_n (by omega)]; exact x3
                have a38 : ur (ur (ur q' 37 0 (if p1 < E then 1 else 0)) 40 0 (p1 + 1)) 41 0 p2 38 0 = 0 := by rw [ur_n (by omega), ur_n (by omega), ur_n (by omega)]; exact s38
                have a37 : ur (ur (ur q' 37 0 (if p1 < E then 1 else 0)) 40 0 (p1 + 1)) 41 0 p2 37 0 = if p1 < E then 1 else 0 := by rw [ur_n (by omega), ur_n (by omega), ur_e rfl rfl]
                have a40 : ur (ur (ur q' 37 0 (if p1 < E then 1 else 0)) 40 0 (p1 + 1)) 41 0 p2 40 0 = p1 + 1 := by rw [ur_n (by omega), ur_e rfl rfl]
                have a41 : ur (ur (ur q' 37 0 (if p1 < E then 1 else 0)) 40 0 (p1 + 1)) 41 0 p2 41 0 = p2 := ur_e rfl rfl
                have aq : AgQ q' (ur (ur (ur q' 37 0 (if p1 < E then 1 else 0)) 40 0 (p1 + 1)) 41 0 p2) := fun j hj => by rw [ur_ne (by omega), ur_ne (by omega), ur_ne (by omega)]
                generalize ur (ur (ur q' 37 0 (if p1 < E then 1 else 0)) 40 0 (p1 + 1)) 41 0 p2 = q2 at *
                have no4 : ∀ j, d ≤ j → j < b → hs 0 j ≠ 4 := fun j a a2 => by
                  by_cases ej : j = d
                  · rw [ej, hx.1, c1]; decide
                  · have := d7 j (by omega) a2
                    omega
                have tq2 : Tq pg hs c B E b q2 r2 := by
                  refine ⟨a38, a33, by omega, fun h2 => ?_, q', r2, aq, fun _ _ => rfl, Or.inr ⟨by omega, pe_skips cs (b - d).toNat d b (by omega) (by omega) no4 pe, s38⟩⟩
                  have ov : OV r2 := by
                    rcases pe with ⟨_, ⟨_, h, _⟩ | ⟨_, _, _, h | h⟩⟩ | h
                    · have := h.2.1; omega
                    · have := h.2.1; omega
                    · exact h.2.2.2.2
                    · rw [ur_n (by omega)] at h; omega
                  refine ⟨b - 1, by omega, by omega, ?_⟩
                  have mt := (al.2 (r2 76 0 - 1) (by have := ov.1; omega) (by omega)).1
                  rw [ov.2.1, y19] at mt
                  rw [(hhz.2 (b - 1) (by omega) (by omega)).1, mt]
                  congr 1
                  omega
                have hk2 : H_4_play_10 pg hs k122 m l4 L q = H_4_play_10 pg hs k122 (k - (b - (d + 1)).toNat) l4 b q2 := by
                  rw [he, ← play_skip (b := b) hE0 hE8 a38 (b - (d + 1)).toNat (k - (b - (d + 1)).toNat) (d + 1) (by omega) (by omega) (by omega) d7]
                  congr 1
                  omega
                have jb2 : Jb hs b r2 := by
                  obtain ⟨⟨_, _, x51, x47⟩, ⟨x52, x53, x54⟩, _, x55, _⟩ := j2
                  obtain ⟨y51, y52, y53, _, _, _⟩ := jb
                  have m7 : ∀ k, L ≤ k → k ≤ d → hs 0 k ≤ 7 := fun k a a2 => k7 hk tL hL7 d3 (by omega) (k - L).toNat k (by omega) a2
                  have md : ∀ k, 0 ≤ k → k < b - d - 1 → r2 72 k = hs 0 (d + 1 + k) := fun k a a2 => by
                    have mt := (al.2 k a (by omega)).1
                    rw [mt, y19, (hhz.2 (d + 1 + k) (by omega) (by omega)).1]
                    congr 1
                    omega
                  have e76 : (r2 76 0).toNat = (b - d - 1).toNat := by omega
                  rw [e76] at x52 x53 x54
                  refine ⟨?_, ?_, ?_, ?_, x55, x51⟩
                  · rw [x52, y51]
                    exact (cnt_part tL d1 (by omega) (fun k a a2 => by have := m7 k a a2; exact decide_eq_false (by omega)) md).symm
                  · rw [x53, y52]
                    exact (cnt_part tL d1 (by omega) (fun k a a2 => by have := m7 k a a2; exact decide_eq_false (by omega)) md).symm
                  · rw [x54, y53]
                    exact (cnt_part tL d1 (by omega) (fun k a a2 => by have := m7 k a a2; exact decide_eq_false (by omega)) md).symm
                  · rw [x47, show b.toNat = d.toNat + (b - d).toNat by omega]
                    refine (can_n fun k a a2 => ?_).symm
                    by_cases ek : k = d
                    · rw [ek, hx.1, c1]; decide
                    · have := d7 k (by omega) (by omega)
                      omega
                rw [y79, Int.add_assoc B d 1] at e
                obtain ⟨z1, z2⟩ := ih b (d + 1) q2 r2 r' v (k - (b - (d + 1)).toNat) (by omega) (by omega) (by omega) (fun j a a2 => by omega) (fun j a a2 => by have := d7 j a a2; omega) tq2 ⟨p1, p2, p3, p4, p5, p6, p7, p8, p9, p10, a37, a40, a41⟩ (bt.le (by omega)).w76 (hz.sameQ w2) (hhz.sameQ w2) (gz.sameQ w2) (ptz.sameQ w2) (pmz.fr w2) (by rw [w2 83 (by omega)]; exact hrz) y80 d8 jb2 (by omega) e
                exact ⟨as.tr z1, by rw [hk2]; exact z2⟩
            · omega
          · omega
        · have u0 : u = 0 := by
            rcases t2 with h | h
            · exact h
            · have al := t3.mp h
              obtain ⟨-, k, m0, m1, m2⟩ := mis
              rcases m2 with m2 | m2
              · omega
              · exact absurd (al.2 k m0 m1) m2
          rw [if_t u0] at e
          cases e
          exact ⟨as, Or.inl ⟨rfl, w4, ptz.sameQ w2, q', he, s38⟩⟩
      · obtain ⟨_, e⟩ := chk_some e
        rw [Int.add_assoc] at e
        exact ih L (i + 1) q r r' v m (by omega) (by omega) hL (fun j a k => by
          by_cases ej : j = i
          · rw [ej, hx.1]; exact c1
          · exact g1 j a (by omega)) (fun j a k => g2 j (by omega) k) tq ⟨d, b, d1, d2, d3, d4, d5, d6, d7, d8, d9, d10, d11⟩ hb hs' hh g pt pm hr h80 hL7 jb hm e
end PL
