/-! the class's player beside the reference's play: a signal is heard -/
section SI
variable {pg hs : Rst} {c : Int → Int} {B E n p : Int} {q r : Rst}
theorem hs_none {k35 : Int → Int → Rst → Option G2} {x y : Int} (hK : q 11 0 ≤ 3) : ∀ (m : Nat) (j : Int), 0 ≤ j → j ≤ 3 → 3 - j < m → (∀ i, j ≤ i → i < q 11 0 → ¬ (q 54 i = x ∧ q 56 i = 0)) → H_4_hearSignal_2 pg hs k35 m x y j q = some (0, q) := by
  intro m
  induction m with
  | zero => intro j h0 h1 h2; omega
  | succ m ih =>
    intro j h0 h1 h2 h3
    rw [H_4_hearSignal_2]
    by_cases c0 : q 11 0 ≤ j
    · rw [if_t c0]
    · have nx := ih (j + 1) (by omega) (by omega) (by omega) fun i a b => h3 i (by omega) b
      rw [if_f c0, chk_t (by omega), chk_t (by omega)]
      by_cases c1 : q 54 j = x
      · rw [if_t c1, if_f (fun c2 => h3 j (by omega) (by omega) ⟨c1, c2⟩)]; exact nx
      · rw [if_f c1]; exact nx
theorem hs_one {k35 : Int → Int → Rst → Option G2} {x y k : Int} (hK : q 11 0 ≤ 3) (hk1 : k < q 11 0) (hx : q 54 k = x ∧ q 56 k = 0) (hno : ∀ i, 0 ≤ i → i < k → ¬ (q 54 i = x ∧ q 56 i = 0)) : ∀ (m : Nat) (j : Int), 0 ≤ j → j ≤ k → 3 - j < m → H_4_hearSignal_2 pg hs k35 m x y j q = k35 y k q := by
  intro m
  induction m with
  | zero => intro j h0 h1 h2; omega
  | succ m ih =>
    intro j h0 h1 h2
    rw [H_4_hearSignal_2, if_f (by omega), chk_t (by omega)]
    by_cases e : j = k
    · subst e
      rw [if_t hx.1, if_t hx.2]
    · have nx := ih (j + 1) (by omega) (by omega) (by omega)
      rw [chk_t (by omega)]
      by_cases c1 : q 54 j = x
      · rw [if_t c1, if_f (fun c2 => hno j h0 (by omega) ⟨c1, c2⟩)]; exact nx
      · rw [if_f c1]; exact nx
/-- a signal more, not taken yet -/
def psh (x y : Int) (r : Rst) : Rst := ur (ur (ur (ur r 65 (r 68 0) x) 66 (r 68 0) y) 67 (r 68 0) 0) 68 0 (r 68 0 + 1)
theorem psh_n {x y : Int} {j : Nat} (h : j < 65 ∨ 68 < j) : psh x y r j = r j := by
  unfold psh
  rw [ur_ne (by omega), ur_ne (by omega), ur_ne (by omega), ur_ne (by omega)]
theorem Cm.push {x y : Int} (cs : Cs c hs) (hn : 0 ≤ n) (hn8 : n < 80) (h : Cm pg hs c B E n p q r) (h4 : hs 0 n = 4) (hx : hs 1 n = x) (hy : hs 2 n = y) : Cm pg hs c B E (n + 1) p (ur q 18 0 (n + 1)) (psh x y r) := by
  obtain ⟨a1, a2, a3, a4, ⟨s1, s2, s3⟩, a6, a7, a8⟩ := h
  have e := cs.2 n hn
  rw [if_t h4] at e
  have a8' : Ds hs B E (ur q 18 0 (n + 1)) (psh x y r) := a8.same (fun j hj => ur_ne (by omega)) fun j hj => psh_n (by omega)
  unfold psh at a8' ⊢
  unfold Cm
  simp (disch := omega) only [ur_ne, ur_n, ur_e]
  refine ⟨trivial, a2, a3, a4, ⟨by omega, fun i i0 i1 i4 => ?_, fun i i0 i1 => s3 i (by omega) i1⟩, a6, a7, a8'⟩
  by_cases ei : i = n
  · subst ei
    rw [← s1, ur_e rfl rfl, ur_e rfl rfl, ur_e rfl rfl]
    exact ⟨hx.symm, hy.symm, s3 i (Int.le_refl _) hn8⟩
  · have := cs.lt i0 (j := n) (by omega) i4
    simp (disch := omega) only [ur_n]
    exact s2 i i0 (by omega) i4
theorem takesSignal_eq {x y v : Int} {r1 : Rst} (e : G_takesSignal x y r = some (v, r1)) : (if r 42 0 = 0 then cag (G_waitingSignal x (psh x y r)) (fun v21 r20 => G_takesSignal_56 y v21 r20) else G_takesSignal_56 y (-1) (psh x y r)) = some (v, r1) := by
  unfold G_takesSignal G_takesSignal_0 at e
  have e := stg_some (chk_some e).2
  have e := stg_some (chk_some e).2
  have e := stg_some (chk_some e).2
  have e := stg_some (chk_some e).2
  simp (disch := omega) only [ur_n, ur_e] at e
  exact e
theorem ov_signal0 {x y v : Int} {r1 : Rst} (cs : Cs c hs) (hn : 0 ≤ n) (hn8 : n < 80) (hc : Cm pg hs c B E n p q r) (h11 : q 11 0 = 0) (hm : r 42 0 ≠ 0) (hk : hs 0 n = 4) (hx : hs 1 n = x) (hy : hs 2 n = y) (e : G_takesSignal x y r = some (v, r1)) : H_4_hearSignal pg hs x y (ur q 18 0 (n + 1)) = some (0, ur q 18 0 (n + 1)) ∧ Cm pg hs c B E (n + 1) p (ur q 18 0 (n + 1)) r1 ∧ r1 = psh x y r := by
  have e := takesSignal_eq e
  rw [if_f hm] at e
  unfold G_takesSignal_56 at e
  rw [if_t rfl] at e
  cases e
  unfold H_4_hearSignal H_4_hearSignal_0
  have q11 : ur q 18 0 (n + 1) 11 0 = 0 := by rw [ur_n (by omega)]; exact h11
  rw [hs_none (by omega) fuel9 0 (by omega) (by omega) (fuel_big (by omega)) (fun i a b => by omega)]
  exact ⟨rfl, hc.push cs hn hn8 hk hx hy, rfl⟩
theorem ov_signal {x y v : Int} {r1 : Rst} (cs : Cs c hs) (hf : Hf hs E) (hn : 0 ≤ n) (hnE : n < E) (hn8 : n < 80) (hc : Cm pg hs c B E n 0 q r) (hp : P1 hs n q r) (hk : hs 0 n = 4) (hx : hs 1 n = x) (hy : hs 2 n = y) (e : G_takesSignal x y r = some (v, r1)) : ∃ q1, H_4_hearSignal pg hs x y (ur q 18 0 (n + 1)) = some (0, q1) ∧ Cm pg hs c B E (n + 1) 0 q1 r1 ∧ P1 hs (n + 1) q1 r1 := by
  have e := takesSignal_eq e
  have hcn := hc.push cs hn hn8 hk hx hy
  have hpn := hp.heard
  have p2 := hp.2.1
  have p3 := hp.2.2.1
  have p55 := hp.2.2.2.1
  have p11 := hp.2.2.2.2.1
  have sl := hp.2.2.2.2.2.2.2.2.2.2.1
  have x0 := hf.2.1 n hn hnE (by omega) (by omega)
  have s1 := hc.2.2.2.2.1.1
  rw [if_t p2] at e
  obtain ⟨u, eu, hu⟩ := f_waitingS0 (l1 := x) (r := psh x y r) (by rw [psh_n (by omega)]; omega) (by rw [psh_n (by omega)]; exact p55)
  rw [psh_n (j := 55) (by omega), psh_n (j := 56) (by omega), psh_n (j := 57) (by omega), psh_n (j := 60) (by omega)] at hu
  rw [eu, cag_e] at e
  unfold G_takesSignal_56 at e
  unfold H_4_hearSignal H_4_hearSignal_0
  have q11 : ur q 18 0 (n + 1) 11 0 = r 55 0 := by rw [ur_n (by omega)]; exact p11
  have q54 : ∀ i, ur q 18 0 (n + 1) 54 i = q 54 i := fun i => ur_n (by omega)
  have q56 : ∀ i, ur q 18 0 (n + 1) 56 i = q 56 i := fun i => ur_n (by omega)
  /- the class's words for what the reference looks for -/
  have wd : ∀ i, 0 ≤ i → i < r 55 0 → ((q 54 i = x ∧ q 56 i = 0) ↔ (r 56 i = 2 ∧ r 57 i = x ∧ r 60 i = 0)) := fun i a b => by
    have s := sl i a b
    have t1 := s.2.2.2.2.2.2.2.1
    have t2 := s.2.2.2.2.2.2.2.2.1
    have t3 := s.bits.2.1
    by_cases k2 : r 56 i = 2
    · have := t1 k2; omega
    · have := t2 k2; omega
  rcases hu with ⟨rfl, hno⟩ | ⟨⟨k0, k1⟩, ky, hno⟩
  · rw [if_t rfl] at e
    cases e
    rw [hs_none (by omega) fuel9 0 (by omega) (by omega) (fuel_big (by omega)) (fun i a b ei => by
      rw [q54, q56] at ei
      exact hno i a (by omega) ((wd i a (by omega)).mp ei))]
    refine ⟨_, rfl, hcn, ?_⟩
    unfold P1 SL at hpn ⊢
    simp (disch := omega) only [psh_n]
    exact hpn
  · rw [if_f (by omega)] at e
    obtain ⟨_, e⟩ := chk_some e
    obtain ⟨_, e⟩ := chk_some e
    obtain ⟨_, e⟩ := chk_some (stg_some e)
    rw [hs_one (k := u) (by omega) (by omega) (by rw [q54, q56]; exact (wd u k0 k1).mpr ky) (fun i a b ei => by
      rw [q54, q56] at ei
      exact hno i a b ((wd i a (by omega)).mp ei)) fuel9 0 (by omega) k0 (fuel_big (by omega))]
    unfold H_4_hearSignal_35
    have su := sl u k0 k1
    have s52 : q 52 u = r 59 u := su.2.2.2.2.2.2.1.1
    have sb := su.2.2.2.2.2.2.2.2.2.2.2.2.2.2.2.1 ky.2.2
    have b18 : bec u y 0 (ur q 18 0 (n + 1)) 18 0 = n + 1 := by rw [bec_n (by omega)]; exact ur_e rfl rfl
    have b52 : ∀ w, ur (bec u y 0 (ur q 18 0 (n + 1))) 20 w 1 52 u = r 59 u := fun w => by rw [ur_n (by omega), bec_n (by omega), ur_n (by omega)]; exact s52
    have m68 : psh x y r 68 0 - 1 = c n := by
      have : psh x y r 68 0 = r 68 0 + 1 := ur_e rfl rfl
      omega
    have nt : ∀ z : Rst, H_4_noteTaken pg hs (n + 1 - 1) z = some (0, ur z 20 n 1) := fun z => by
      unfold H_4_noteTaken H_4_noteTaken_0
      rw [show n + 1 - 1 = n by omega, if_f (show ¬ n < 0 by omega), if_f (show ¬ 80 ≤ n by omega), chk_t (by omega), stg_e]
    rw [bec_ok (Or.inl rfl), cag_e, b18, chk_t (by omega), nt, cag_e, b52]
    rw [m68] at e
    have w59 : ur (psh x y r) 67 (c n) 1 59 u = r 59 u := by rw [ur_n (by omega), psh_n (by omega)]
    rw [w59] at e
    have hT : Cm pg hs c B E (n + 1) 0 (ur (bec u y 0 (ur q 18 0 (n + 1))) 20 n 1) (ur (psh x y r) 67 (c n) 1) := cm_taken cs (cm_bec hcn) hn (by omega) hk
    have fin : ∀ q1 r0 r1 v, Cm pg hs c B E (n + 1) 0 q1 r0 → (∀ j : Nat, j < 18 ∨ (49 < j ∧ j ≤ 57) → q1 j = bec u y 0 (ur q 18 0 (n + 1)) j) → (∀ j : Nat, (39 < j ∧ j < 65) → r0 j = r j) → G_takesSignal_97 y u r0 = some (v, r1) → Cm pg hs c B E (n + 1) 0 q1 r1 ∧ P1 hs (n + 1) q1 r1 := by
      intro q1 r0 r1 v h1 fq fr e
      unfold G_takesSignal_97 at e
      obtain ⟨v1, r2, e1, e2⟩ := cag_some e
      cases e2
      have er := gets_inv e1
      subst er
      refine ⟨cm_gets h1, hp.upd k0 k1 (fun j hj => ?_) (fun j i a b d => ?_) (fun j hj => ?_) (fun j i a b d => ?_) ?_ (fun h => absurd (h.symm.trans ky.1) (by decide)) fun h => absurd (h.symm.trans ky.1) (by decide)⟩
      · rw [fq j (by omega), bec_n (by omega), ur_ne (by omega)]
      · rw [fq j (by omega)]
        unfold bec
        rw [ur_n (by omega), ur_n (by omega), ur_n (by omega), ur_n (by omega)]
      · rw [ur_ne (by omega), ur_ne (by omega), ur_ne (by omega)]
        exact fr j (by omega)
      · rw [ur_n (by omega), ur_n (by omega), ur_n (by omega), fr j (by omega)]
      · rw [fq 55 (by omega), fq 56 (by omega), fq 57 (by omega)]
        unfold bec
        simp (disch := omega) only [ur_n, ur_e]
        rw [fr 61 (by omega)]
        exact ⟨trivial, trivial, sb.2.symm, Or.inl sb.2, Or.inr trivial, Or.inl ⟨trivial, sb.2, by rw [ky.1]; decide, trivial⟩⟩
    rcases ite_some e with ⟨c2, e⟩ | ⟨c2, e⟩
    · rw [if_t c2]
      exact ⟨_, rfl, fin _ _ _ _ hT (fun j hj => ur_ne (by omega)) (fun j hj => by rw [ur_ne (by omega), psh_n (by omega)]) e⟩
    · obtain ⟨_, e⟩ := chk_some e
      obtain ⟨v1, r2, e1, e2⟩ := cag_some e
      obtain ⟨hd, rfl, rfl⟩ := dec_inv e1
      obtain ⟨t1, t2⟩ := cm_put (k := 11) (x := r 59 u) (y := 0) hT hd.2 (by omega)
      rw [if_f c2, t1, cag_e]
      exact ⟨_, rfl, fin _ _ _ _ t2 (fun j hj => by rw [hput_n (by omega), ur_ne (by omega)]) (fun j hj => by rw [gdec_n (by omega), ur_ne (by omega), psh_n (by omega)]) e2⟩
end SI
