/-! the class's player beside the reference's play: an activity, a timer, a child is heard of -/
section OV
variable {pg hs : Rst} {c : Int → Int} {B E n : Int} {q r : Rst}
theorem P1.no51 {k i : Int} (h : P1 hs n q r) (k0 : 0 ≤ k) (k1 : k < r 55 0) (i0 : 0 ≤ i) (i1 : i < r 55 0) (hik : i ≠ k) (a : r 56 k = 0) (b : r 56 i = 0) : r 58 i ≠ r 58 k := by
  have di := h.2.2.2.2.2.2.2.2.2.2.2
  rcases Int.lt_or_gt_of_ne hik with l | l
  · have := (di i k i0 l k1).1 b a; omega
  · have := (di k i k0 l i1).1 a b; omega
theorem P1.no53 {k i : Int} (h : P1 hs n q r) (k0 : 0 ≤ k) (k1 : k < r 55 0) (i0 : 0 ≤ i) (i1 : i < r 55 0) (hik : i ≠ k) (a : r 56 k = 3) (b : r 56 i = 3) : r 58 i ≠ r 58 k := by
  have di := h.2.2.2.2.2.2.2.2.2.2.2
  rcases Int.lt_or_gt_of_ne hik with l | l
  · have := (di i k i0 l k1).2.1 b a; omega
  · have := (di k i k0 l i1).2.1 a b; omega
theorem P1.no59 {k i : Int} (h : P1 hs n q r) (k0 : 0 ≤ k) (k1 : k < r 55 0) (i0 : 0 ≤ i) (i1 : i < r 55 0) (hik : i ≠ k) (a : 0 ≤ r 59 k) (b : 0 ≤ r 59 i) : r 59 i ≠ r 59 k := by
  have di := h.2.2.2.2.2.2.2.2.2.2.2
  rcases Int.lt_or_gt_of_ne hik with l | l
  · have := (di i k i0 l k1).2.2 b a; omega
  · have := (di k i k0 l i1).2.2 a b; omega
theorem ov_act {x y v l : Int} {r1 : Rst} (cs : Cs c hs) (hf : Hf hs E) (hn : 0 ≤ n) (hnE : n < E) (hc : Cm pg hs c B E n 0 q r) (hp : P1 hs n q r) (hk : hs 0 n = 1 ∧ l = 0 ∨ hs 0 n = 2 ∧ l = 1) (hx : hs 1 n = x) (e : G_takesOver (hs 0 n) x y r = some (v, r1)) : ∃ q1, H_4_hearActivity pg hs x y l (ur q 18 0 (n + 1)) = some (0, q1) ∧ Cm pg hs c B E (n + 1) 0 q1 r1 ∧ P1 hs (n + 1) q1 r1 := by
  have hcn := hc.heard cs hn (by omega)
  have hpn := hp.heard
  have p8 := hp.1
  have p55 := hp.2.2.2.1
  have p11 := hp.2.2.2.2.1
  have hk12 : hs 0 n = 1 ∨ hs 0 n = 2 := by omega
  unfold G_takesOver G_takesOver_0 G_takesOver_24 at e
  rw [if_f (by omega), if_f (by omega)] at e
  obtain ⟨u, eu, hu⟩ := f_waiting0 (l1 := 0) (l2 := x) (r := r) p55
  rw [eu, cag_e] at e
  unfold G_takesOver_28 at e
  unfold H_4_hearActivity H_4_hearActivity_0
  have q8 : ur q 18 0 (n + 1) 8 0 = 1 := by rw [ur_n (by omega)]; exact p8
  have q11 : ur q 18 0 (n + 1) 11 0 = r 55 0 := by rw [ur_n (by omega)]; exact p11
  have q51 : ∀ i, ur q 18 0 (n + 1) 51 i = q 51 i := fun i => ur_n (by omega)
  rw [if_f (by omega)]
  rcases hu with ⟨rfl, hno⟩ | ⟨⟨k0, k1⟩, k2, k3, k4⟩
  · rw [if_t rfl] at e
    cases e
    rw [ha_none (by omega) fuel9 0 (by omega) (by omega) (fuel_big (by omega)) (fun i a b ei => by
      rw [q51] at ei
      exact hno i a (by omega) (hp.fresh hf hn hnE hk12 hx a (by omega) ei))]
    exact ⟨_, rfl, hcn, hpn⟩
  · rw [if_f (by omega)] at e
    have s51 : q 51 u = x := by
      have := ((hp.2.2.2.2.2.2.2.2.2.2.1 u k0 k1).2.2.1 k2).1
      omega
    rw [ha_one (k := u) (by omega) (by omega) (by omega) (by rw [q51]; exact s51) (fun i a b d ei => by
      rw [q51] at ei
      have f := hp.fresh hf hn hnE hk12 hx a (by omega) ei
      exact hp.no51 k0 k1 a (by omega) d k2 f.1 (by omega)) fuel9 0 (by omega) k0 (fuel_big (by omega))]
    have he : r 56 u = 0 → ∃ e, 0 ≤ e ∧ e < n + 1 ∧ (hs 0 e = 1 ∨ hs 0 e = 2) ∧ hs 1 e = r 58 u := fun _ => ⟨n, hn, by omega, hk12, by omega⟩
    have he3 : r 56 u = 3 → ∃ e, 0 ≤ e ∧ e < n + 1 ∧ hs 0 e = 5 ∧ hs 1 e = r 58 u := fun h => absurd (h.symm.trans k2) (by decide)
    rcases hk with ⟨hk, rfl⟩ | ⟨hk, rfl⟩
    · rw [if_f (by omega), if_f (by omega)] at e
      obtain ⟨v1, r2, e1, e2⟩ := cag_some e
      cases e2
      have er := gets_inv e1
      subst er
      exact ⟨_, rfl, cm_gets (cm_bec hcn), hp.got k0 k1 (by rw [k2]; decide) k4 he he3⟩
    · rw [if_t hk] at e
      obtain ⟨_, e⟩ := chk_some e
      obtain ⟨_, e⟩ := chk_some (stg_some e)
      have e := stg_some e
      cases e
      refine ⟨_, rfl, ((cm_bec hcn).rset (by omega)).rset (by omega), hp.upd k0 k1 (fun j hj => ?_) (fun j i a b d => ?_) (fun j hj => ?_) (fun j i a b d => ?_) ?_ he he3⟩
      · rw [bec_n (by omega), ur_ne (by omega)]
      · unfold bec
        rw [ur_n (by omega), ur_n (by omega), ur_n (by omega), ur_n (by omega)]
      · rw [ur_ne (by omega), ur_ne (by omega)]
      · rw [ur_n (by omega), ur_n (by omega)]
      · have sb := (hp.2.2.2.2.2.2.2.2.2.2.1 u k0 k1).2.2.2.2.2.2.2.2.2.2.2.2.2.2.2.1 k4
        unfold bec
        simp (disch := omega) only [ur_n, ur_e]
        exact ⟨trivial, trivial, trivial, Or.inr trivial, Or.inl sb.1, Or.inr ⟨sb.1, Or.inl trivial⟩⟩
theorem ov_child {x y v : Int} {r1 : Rst} (cs : Cs c hs) (hf : Hf hs E) (hn : 0 ≤ n) (hnE : n < E) (hc : Cm pg hs c B E n 0 q r) (hp : P1 hs n q r) (hk : hs 0 n = 5) (hx : hs 1 n = x) (e : G_takesOver (hs 0 n) x y r = some (v, r1)) : ∃ q1, H_4_hearChild pg hs x y (ur q 18 0 (n + 1)) = some (0, q1) ∧ Cm pg hs c B E (n + 1) 0 q1 r1 ∧ P1 hs (n + 1) q1 r1 := by
  have hcn := hc.heard cs hn (by omega)
  have hpn := hp.heard
  have p55 := hp.2.2.2.1
  have p11 := hp.2.2.2.2.1
  unfold G_takesOver G_takesOver_0 G_takesOver_24 at e
  rw [if_f (by omega), if_t (by omega)] at e
  obtain ⟨u, eu, hu⟩ := f_waiting0 (l1 := 3) (l2 := x) (r := r) p55
  rw [eu, cag_e] at e
  unfold G_takesOver_28 at e
  unfold H_4_hearChild H_4_hearChild_0
  have q11 : ur q 18 0 (n + 1) 11 0 = r 55 0 := by rw [ur_n (by omega)]; exact p11
  have q53 : ∀ i, ur q 18 0 (n + 1) 53 i = q 53 i := fun i => ur_n (by omega)
  rcases hu with ⟨rfl, hno⟩ | ⟨⟨k0, k1⟩, k2, k3, k4⟩
  · rw [if_t rfl] at e
    cases e
    rw [hc_none (by omega) fuel9 0 (by omega) (by omega) (fuel_big (by omega)) (fun i a b ei => by
      rw [q53] at ei
      exact hno i a (by omega) (hp.freshC hf hn hnE hk hx a (by omega) ei))]
    exact ⟨_, rfl, hcn, hpn⟩
  · rw [if_f (by omega), if_f (by omega), if_f (by omega)] at e
    have s53 : q 53 u = x := by
      have := ((hp.2.2.2.2.2.2.2.2.2.2.1 u k0 k1).2.2.2.2.1 k2).1
      omega
    rw [hc_one (k := u) (by omega) (by omega) (by rw [q53]; exact s53) (fun i a b d ei => by
      rw [q53] at ei
      have f := hp.freshC hf hn hnE hk hx a (by omega) ei
      exact hp.no53 k0 k1 a (by omega) d k2 f.1 (by omega)) fuel9 0 (by omega) k0 (fuel_big (by omega))]
    obtain ⟨v1, r2, e1, e2⟩ := cag_some e
    cases e2
    have er := gets_inv e1
    subst er
    exact ⟨_, rfl, cm_gets (cm_bec hcn), hp.got k0 k1 (by rw [k2]; decide) k4 (fun h => absurd (h.symm.trans k2) (by decide)) fun _ => ⟨n, hn, by omega, hk, by omega⟩⟩
theorem ov_timer {x y v : Int} {r1 : Rst} (cs : Cs c hs) (hf : Hf hs E) (hn : 0 ≤ n) (hnE : n < E) (hc : Cm pg hs c B E n 0 q r) (hp : P1 hs n q r) (hk : hs 0 n = 3) (hx : hs 1 n = x) (e : G_takesOver (hs 0 n) x y r = some (v, r1)) : ∃ q1, H_4_hearTimer pg hs x (ur q 18 0 (n + 1)) = some (0, q1) ∧ Cm pg hs c B E (n + 1) 0 q1 r1 ∧ P1 hs (n + 1) q1 r1 := by
  have hcn := hc.heard cs hn (by omega)
  have hpn := hp.heard
  have p55 := hp.2.2.2.1
  have p11 := hp.2.2.2.2.1
  have sl := hp.2.2.2.2.2.2.2.2.2.2.1
  have x0 := hf.2.1 n hn hnE (by omega) (by omega)
  unfold G_takesOver G_takesOver_0 at e
  rw [if_t (by omega)] at e
  obtain ⟨u, eu, hu⟩ := f_waitingT0 (l1 := x) (r := r) p55
  rw [eu, cag_e] at e
  unfold G_takesOver_28 at e
  unfold H_4_hearTimer H_4_hearTimer_0
  have q11 : ur q 18 0 (n + 1) 11 0 = r 55 0 := by rw [ur_n (by omega)]; exact p11
  have q52 : ∀ i, ur q 18 0 (n + 1) 52 i = q 52 i := fun i => ur_n (by omega)
  have q56 : ∀ i, ur q 18 0 (n + 1) 56 i = q 56 i := fun i => ur_n (by omega)
  have s52 : ∀ i, 0 ≤ i → i < r 55 0 → q 52 i = r 59 i ∧ q 56 i = r 60 i := fun i a b => ⟨(sl i a b).2.2.2.2.2.2.1.1, (sl i a b).bits.2.1⟩
  rcases hu with ⟨rfl, hno⟩ | ⟨⟨k0, k1⟩, k2, k4⟩
  · rw [if_t rfl] at e
    cases e
    rw [ht_none (by omega) fuel9 0 (by omega) (by omega) (fuel_big (by omega)) (fun i a b ei => by
      rw [q52, q56] at ei
      have s := s52 i a (by omega)
      exact hno i a (by omega) ⟨by omega, by omega⟩)]
    exact ⟨_, rfl, hcn, hpn⟩
  · rw [if_f (by omega), if_f (by omega), if_t (by omega)] at e
    obtain ⟨_, e⟩ := chk_some e
    have su := s52 u k0 k1
    rw [ht_one (k := u) (by omega) (by omega) ⟨by rw [q52]; omega, by rw [q56]; omega⟩ (fun i a b d ei => by
      rw [q52, q56] at ei
      have s := s52 i a (by omega)
      exact hp.no59 k0 k1 a (by omega) d (by omega) (by omega) (by omega)) fuel9 0 (by omega) k0 (fuel_big (by omega))]
    rcases ite_some e with ⟨c2, e⟩ | ⟨c2, e⟩
    · obtain ⟨v1, r2, e1, e2⟩ := cag_some e
      cases e2
      have er := gets_inv e1
      subst er
      exact ⟨_, rfl, cm_gets (cm_bec hcn), hp.got k0 k1 (by rw [c2]; decide) k4 (fun h => absurd (h.symm.trans c2) (by decide)) fun h => absurd (h.symm.trans c2) (by decide)⟩
    · obtain ⟨_, e⟩ := chk_some e
      have e := stg_some e
      cases e
      have kd : r 56 u = 1 := by
        have s := sl u k0 k1
        have st := s.2.2.2.2.2.2.1
        omega
      refine ⟨_, rfl, (cm_bec hcn).rset (by omega), hp.upd k0 k1 (fun j hj => ?_) (fun j i a b d => ?_) (fun j hj => ?_) (fun j i a b d => ?_) ?_ (fun h => absurd (h.symm.trans kd) (by decide)) fun h => absurd (h.symm.trans kd) (by decide)⟩
      · rw [bec_n (by omega), ur_ne (by omega)]
      · unfold bec
        rw [ur_n (by omega), ur_n (by omega), ur_n (by omega), ur_n (by omega)]
      · rw [ur_ne (by omega)]
      · rw [ur_n (by omega)]
      · have sb := (hp.2.2.2.2.2.2.2.2.2.2.1 u k0 k1).2.2.2.2.2.2.2.2.2.2.2.2.2.2.2.1 k4
        unfold bec
        simp (disch := omega) only [ur_n, ur_e]
        exact ⟨trivial, trivial, sb.2.symm, Or.inl sb.2, Or.inl sb.1, Or.inr ⟨sb.1, Or.inr kd⟩⟩
end OV
