/-! the class's player beside the reference's play: a step that is waited for begins (2) -/
/-- a place cleared, by the class -/
def cl8 (k kd : Int) (q : Rst) : Rst := ur (ur (ur (ur (ur (ur (ur (ur q 50 k kd) 51 k (-1)) 52 k (-1)) 53 k (-1)) 54 k (-1)) 55 k 0) 56 k 0) 57 k 0
theorem cl8_n {k kd : Int} {q : Rst} {j : Nat} (h : j < 50 ∨ 57 < j) : cl8 k kd q j = q j := by
  unfold cl8
  simp (disch := omega) only [ur_ne]
theorem cl8_o {k kd i : Int} {q : Rst} {j : Nat} (h : i ≠ k) : cl8 k kd q j i = q j i := by
  unfold cl8
  simp (disch := omega) only [ur_n]
def PgM (pg r : Rst) : Prop := pg 3 0 = r 5 (r 77 0) ∧ ∀ s, 0 ≤ s → s < r 5 (r 77 0) → pg 0 s = r 2 (12 * r 77 0 + s) ∧ pg 1 s = r 3 (12 * r 77 0 + s) ∧ pg 2 s = r 4 (12 * r 77 0 + s)
theorem sets_inv {k x v : Int} {r r' : Rst} (h : G_setsTimer k x r = some (v, r')) : iR (r 52 0 + 1) ∧ r 76 0 < 5200 ∧ r' = gdec 10 x 0 (ur (ur r 59 k (r 52 0)) 52 0 (r 52 0 + 1)) := by
  unfold G_setsTimer G_setsTimer_0 at h
  obtain ⟨_, h⟩ := chk_some h
  obtain ⟨g, h⟩ := chk_some (stg_some h)
  obtain ⟨v1, r1, h1, h2⟩ := cag_some (stg_some h)
  obtain ⟨hc, rfl, rfl⟩ := dec_inv h1
  cases h2
  simp (disch := omega) only [ur_n] at g hc
  refine ⟨g, hc.2, ?_⟩
  rw [ur_n (by omega)]
theorem gets_inv {k x v : Int} {r r' : Rst} (h : G_gets k x r = some (v, r')) : r' = ur (ur (ur r 60 k 1) 62 k x) 63 k 1 := by
  unfold G_gets G_gets_0 at h
  obtain ⟨_, h⟩ := chk_some h
  obtain ⟨_, h⟩ := chk_some (stg_some h)
  obtain ⟨_, h⟩ := chk_some (stg_some h)
  have h := stg_some h
  cases h
  rfl
section ST
variable {pg hs : Rst} {c : Int → Int} {B E n p : Int} {q r : Rst}
theorem cm_cl8 {k kd : Int} (h : Cm pg hs c B E n p q r) : Cm pg hs c B E n p (cl8 k kd q) r :=
  (((((((h.qset (j := 50) (by omega)).qset (j := 51) (by omega)).qset (j := 52) (by omega)).qset (j := 53) (by omega)).qset (j := 54) (by omega)).qset (j := 55) (by omega)).qset (j := 56) (by omega)).qset (j := 57) (by omega)
theorem cm_wb {w kd a : Int} (h : Cm pg hs c B E n p q r) : Cm pg hs c B E n p q (wb w kd a r) :=
  (((((((h.rset (j := 55) (by omega)).rset (j := 56) (by omega)).rset (j := 59) (by omega)).rset (j := 58) (by omega)).rset (j := 57) (by omega)).rset (j := 60) (by omega)).rset (j := 61) (by omega)).rset (j := 63) (by omega)
theorem cm_taken (cs : Cs c hs) (h : Cm pg hs c B E n p q r) {i : Int} (h0 : 0 ≤ i) (h1 : i < n) (h4 : hs 0 i = 4) : Cm pg hs c B E n p (ur q 20 i 1) (ur r 67 (c i) 1) := by
  obtain ⟨a1, a2, a3, a4, ⟨s1, s2, s3⟩, a6, a7, a8⟩ := h
  unfold Cm
  simp (disch := omega) only [ur_ne, ur_n]
  refine ⟨a1, a2, a3, a4, ⟨s1, fun j hj hj2 hj4 => ?_, fun j hj hj2 => ?_⟩, a6, a7, a8.same (fun j hj => ur_ne (by omega)) fun j hj => ur_ne (by omega)⟩
  · have g := s2 j hj hj2 hj4
    refine ⟨g.1, g.2.1, ?_⟩
    by_cases e : j = i
    · rw [e, ur_e rfl rfl, ur_e rfl rfl]
    · have hne : c j ≠ c i := by
        rcases Int.lt_or_gt_of_ne e with l | l
        · have := cs.lt hj l hj4; omega
        · have := cs.lt h0 l h4; omega
      rw [ur_n (by omega), ur_n (by omega)]
      exact g.2.2
  · rw [ur_n (by omega)]
    exact s3 j hj hj2
theorem sy_waitsFor {s k v : Int} {r' : Rst} (cs : Cs c hs) (hn0 : 0 ≤ n) (hn2 : n ≤ 80) (h : Cm pg hs c B E n p q r) (g : PgR r) (pm : PgM pg r) (hs0 : 0 ≤ s) (hs1 : s < r 5 (r 77 0)) (hk : r 2 (12 * r 77 0 + s) ≤ 3) (sl : SL hs n k q r) (di : DI k (r 56) (r 58) (r 59)) (hw : r 55 0 = k) (hk0 : 0 ≤ k) (hk3 : k < 3) (e : G_waitsFor s r = some (v, r')) :
    ∃ q', H_4_beginStep pg hs k s q = some (0, q') ∧ Cm pg hs c B E n p q' r' ∧ SL hs n (k + 1) q' r' ∧ DI (k + 1) (r' 56) (r' 58) (r' 59) ∧ r' 55 0 = k + 1 ∧ (∀ j : Nat, j < 20 → q' j = q j) ∧ (∀ j : Nat, j < 51 ∨ j = 54 ∨ j = 64 ∨ 76 < j → r' j = r j) := by
  have hg := g.k hs0 hs1
  have hk00 := (g.2.2.2.2 s hs0 hs1).1
  have g12 := g.2.2.2.1
  rw [waitsFor_eq2 (by omega) (by omega) hg.1 hg.2.1 hg.2.2.1 hg.2.2.2 hk00 hk, hw] at e
  obtain ⟨m0, m1, m2⟩ := pm.2 s hs0 hs1
  generalize 12 * r 77 0 + s = x at *
  have h1 : Cm pg hs c B E n p (cl8 k (r 2 x) q) (wb k (r 2 x) (r 3 x) r) := cm_wb (cm_cl8 h)
  have ct := h.2.2.2.2.2.2.1
  obtain ⟨⟨t1, t2, t3⟩, t4, t5, t6⟩ := ct
  unfold H_4_beginStep H_4_beginStep_0
  have clr : ∀ kd, H_8_clear pg hs k kd q = some (0, cl8 k kd q) := fun kd => rfl
  rw [chk_t (by omega), chk_t (by omega), chk_t (by omega), clr, cag_e, m0, m1, m2]
  have c50 : cl8 k (r 2 x) q 50 k = r 2 x := by unfold cl8; simp (disch := omega) only [ur_n, ur_e]
  rw [c50]
  rcases ite_some e with ⟨c0, e⟩ | ⟨c0, e⟩
  · obtain ⟨gi, e⟩ := chk_some e
    obtain ⟨v1, r1, e1, e2⟩ := cag_some e
    obtain ⟨hc, rfl, rfl⟩ := dec_inv e1
    cases e2
    have c34 : cl8 k (r 2 x) q 34 0 = r 51 0 := by rw [cl8_n (by omega)]; exact t1
    rw [if_t c0, stg_e, c34]
    have h2 := (h1.qset (j := 51) (i := k) (v := r 51 0) (by omega)).rset (j := 58) (i := k) (v := r 51 0) (by omega)
    have w51 : ur (wb k (r 2 x) (r 3 x) r) 58 k (r 51 0) 51 0 = r 51 0 := by rw [ur_n (by omega), wb_n (by omega)]
    have w76 : ur (wb k (r 2 x) (r 3 x) r) 58 k (r 51 0) 76 0 = r 76 0 := by rw [ur_n (by omega), wb_n (by omega)]
    have w76' : r 76 0 < 5200 := by
      have := hc.2
      rw [ur_n (by omega), ur_n (by omega), wb_n (by omega)] at this
      exact this
    obtain ⟨k1, k2⟩ := cm_put51 (k := 8) (x := r 3 x) (y := r 4 x) h2 (by rw [w76]; exact w76') (by omega) (by rw [w51]; exact gi)
    rw [w51] at k2
    rw [k1, cag_e]
    have kr : ∀ (j : Nat) i, 56 ≤ j → j ≤ 63 → i ≠ k → (gdec 8 (r 3 x) (r 4 x) (ur (ur (wb k (r 2 x) (r 3 x) r) 58 k (r 51 0)) 51 0 (r 51 0 + 1))) j i = r j i := fun j i a b d => by rw [gdec_n (by omega), ur_n (by omega), ur_n (by omega), wb_o (by omega) d]
    refine ⟨_, rfl, k2, ?_, ?_, ?_, fun j hj => ?_, fun j hj => ?_⟩
    · refine sl.push (Int.le_refl _) ?_ ?_ ?_ (fun j i a b d => ?_) kr ?_
      · simp (disch := omega) only [gdec_n, ur_e]; omega
      · simp (disch := omega) only [gdec_n, ur_n, wb_n]; omega
      · simp (disch := omega) only [gdec_n, ur_n, wb_n]; omega
      · rw [hput_n (by omega), ur_n (by omega), cl8_o d]
      · unfold cl8 wb
        simp (disch := omega) only [hput_n, gdec_n, ur_n, ur_e]
        unfold Sl1
        refine ⟨rfl, by omega, fun _ => by omega, fun _ => by omega, fun _ => by omega, fun _ => by omega, by omega, fun _ => by omega, fun _ => by omega, rfl, rfl, Or.inl rfl, Or.inl rfl, Or.inl rfl, fun h => by omega, fun _ => ⟨rfl, rfl⟩, fun _ h => by omega, fun _ h => by omega⟩
    · refine di.push sl kr (fun _ => ?_) (fun h3 => ?_) fun h4 => ?_
      · simp (disch := omega) only [gdec_n, ur_n, ur_e]; omega
      · exfalso
        unfold wb at h3
        simp (disch := omega) only [gdec_n, ur_n, ur_e] at h3
        omega
      · exfalso
        unfold wb at h4
        simp (disch := omega) only [gdec_n, ur_n, ur_e] at h4
        omega
    · rw [gdec_n (by omega), ur_n (by omega), ur_n (by omega)]; exact wb_55
    · rw [hput_n (by omega), ur_ne (by omega), cl8_n (by omega)]
    · rw [gdec_n (by omega), ur_ne (by omega), ur_ne (by omega), wb_n (by omega)]
  rw [if_f c0]
  /- a timer is set at the place k -/
  have timer : ∀ (q1 r1 : Rst) (a v : Int) (r' : Rst), Cm pg hs c B E n p q1 r1 → (∀ (j : Nat) i, 50 ≤ j → j ≤ 57 → i ≠ k → q1 j i = q j i) → (∀ (j : Nat) i, 56 ≤ j → j ≤ 63 → i ≠ k → r1 j i = r j i) → r1 55 0 = k + 1 → (∀ j : Nat, j < 20 → q1 j = q j) → (∀ j : Nat, j < 51 ∨ j = 54 ∨ j = 64 ∨ 76 < j → r1 j = r j) → r1 51 0 = r 51 0 → r1 52 0 = r 52 0 → r1 53 0 = r 53 0 →
      Sl1 hs n (r 51 0) (r 52 0 + 1) (r 53 0) (q1 50 k) (q1 51 k) (r 52 0) (q1 53 k) (q1 54 k) (q1 55 k) (q1 56 k) (q1 57 k) (r1 56 k) (r1 57 k) (r1 58 k) (r 52 0) (r1 60 k) (r1 61 k) (r1 62 k) (r1 63 k) → r1 56 k ≠ 0 → r1 56 k ≠ 3 → G_setsTimer k a r1 = some (v, r') →
      ∃ q', (stg (ur q1 52 k (q1 35 0)) fun q18 => cag (H_1_put pg hs 10 a 0 q18) fun _ q21 => some ((0 : Int), q21)) = some ((0 : Int), q') ∧ Cm pg hs c B E n p q' r' ∧ SL hs n (k + 1) q' r' ∧ DI (k + 1) (r' 56) (r' 58) (r' 59) ∧ r' 55 0 = k + 1 ∧ (∀ j : Nat, j < 20 → q' j = q j) ∧ (∀ j : Nat, j < 51 ∨ j = 54 ∨ j = 64 ∨ 76 < j → r' j = r j) := by
    intro q1 r1 a v r' hc1 kq kr e55 fq fr f51 f52 f53 s1 n0 n3 e
    obtain ⟨gi, g76, rfl⟩ := sets_inv e
    have c35 : q1 35 0 = r 52 0 := by have := hc1.2.2.2.2.2.2.1.1.2.1; omega
    rw [stg_e, c35, f52]
    have h2 := (hc1.qset (j := 52) (i := k) (v := r 52 0) (by omega)).rset (j := 59) (i := k) (v := r 52 0) (by omega)
    have w52 : ur r1 59 k (r 52 0) 52 0 = r 52 0 := by rw [ur_n (by omega)]; exact f52
    obtain ⟨k1, k2⟩ := cm_put52 (x := a) (y := 0) h2 (by rw [ur_n (by omega)]; exact g76) (by rw [w52]; omega)
    rw [w52] at k2
    rw [k1, cag_e]
    have kr2 : ∀ (j : Nat) i, 56 ≤ j → j ≤ 63 → i ≠ k → (gdec 10 a 0 (ur (ur r1 59 k (r 52 0)) 52 0 (r 52 0 + 1))) j i = r j i := fun j i a b d => by rw [gdec_n (by omega), ur_n (by omega), ur_n (by omega), kr j i a b d]
    refine ⟨_, rfl, k2, ?_, ?_, ?_, fun j hj => ?_, fun j hj => ?_⟩
    · refine sl.push (Int.le_refl _) ?_ ?_ ?_ (fun j i a b d => ?_) kr2 ?_
      · simp (disch := omega) only [gdec_n, ur_n]; omega
      · simp (disch := omega) only [gdec_n, ur_e]; omega
      · simp (disch := omega) only [gdec_n, ur_n]; omega
      · rw [hput_n (by omega), ur_n (by omega), kq j i a b d]
      · simp (disch := omega) only [hput_n, gdec_n, ur_n, ur_e, f51, f53]
        exact s1
    · refine di.push sl kr2 (fun h0 => ?_) (fun h3 => ?_) fun h4 => ?_
      · simp (disch := omega) only [gdec_n, ur_n] at h0
        exact absurd h0 n0
      · simp (disch := omega) only [gdec_n, ur_n] at h3
        exact absurd h3 n3
      · simp (disch := omega) only [gdec_n, ur_n, ur_e]; omega
    · rw [gdec_n (by omega), ur_n (by omega), ur_n (by omega)]; exact e55
    · rw [hput_n (by omega), ur_ne (by omega), fq j hj]
    · rw [gdec_n (by omega), ur_ne (by omega), ur_ne (by omega), fr j hj]
  rcases ite_some e with ⟨c1, e⟩ | ⟨c1, e⟩
  · obtain ⟨v1, r1, e1, e2⟩ := cag_some e
    cases e2
    rw [if_t c1]
    refine timer _ _ _ _ _ h1 (fun j i a b d => cl8_o d) (fun j i a b d => wb_o (by omega) d) wb_55 (fun j hj => cl8_n (by omega)) (fun j hj => wb_n (by omega)) (by rw [wb_n (by omega)]) (by rw [wb_n (by omega)]) (by rw [wb_n (by omega)]) ?_ ?_ ?_ e1
    · unfold cl8 wb
      simp (disch := omega) only [ur_n, ur_e]
      unfold Sl1
      refine ⟨rfl, by omega, fun _ => by omega, fun _ => by omega, fun _ => by omega, fun _ => by omega, by omega, fun _ => by omega, fun _ => by omega, rfl, rfl, Or.inl rfl, Or.inl rfl, Or.inl rfl, fun h => by omega, fun _ => ⟨rfl, rfl⟩, fun _ h => by omega, fun _ h => by omega⟩
    · unfold wb; simp (disch := omega) only [ur_n, ur_e]; omega
    · unfold wb; simp (disch := omega) only [ur_n, ur_e]; omega
  rw [if_f c1]
  rcases ite_some e with ⟨c2, e⟩ | ⟨c2, e⟩
  · rw [if_t c2]
    unfold H_4_beginWait H_4_beginWait_0
    rw [stg_e]
    have h2 := h1.qset (j := 54) (i := k) (v := r 3 x) (by omega)
    obtain ⟨u, eu, hu⟩ := bw_both cs h2 hn0 hn2 (r 3 x)
    rw [eu, cag_e] at e
    rcases hu with ⟨u1, u2⟩ | ⟨i, i0, i1, i2, i3, i4, i5, i6, u2⟩
    · rw [u2]
      unfold H_4_beginWait_93
      have e := (ite_some e).resolve_right (fun hh => hh.1 u1)
      have e := e.2
      rw [wb_n (j := 4) (by omega)] at e
      have nS : ∀ dn, dn = 0 → Sl1 hs n (r 51 0) (r 52 0 + 1) (r 53 0) (r 2 x) (-1) (r 52 0) (-1) (r 3 x) 0 dn 0 (r 2 x) (r 3 x) (-1) (r 52 0) dn 0 (r 62 k) 0 := fun dn h0 => by
        unfold Sl1
        refine ⟨rfl, by omega, fun _ => by omega, fun _ => by omega, fun _ => by omega, fun _ => by omega, by omega, fun _ => by omega, fun _ => by omega, rfl, rfl, Or.inl h0, Or.inl rfl, Or.inl rfl, fun h => by omega, fun _ => ⟨rfl, rfl⟩, fun _ h => by omega, fun _ h => by omega⟩
      rcases ite_some e with ⟨c4, e⟩ | ⟨c4, e⟩
      · cases e
        rw [if_t c4, cag_e]
        refine ⟨_, rfl, h2, ?_, ?_, wb_55, fun j hj => ?_, fun j hj => wb_n (by omega)⟩
        · refine sl.push (Int.le_refl _) ?_ ?_ ?_ (fun j i a b d => by rw [ur_n (by omega)]; exact cl8_o d) (fun j i a b d => wb_o (by omega) d) ?_
          · simp (disch := omega) only [wb_n]; omega
          · simp (disch := omega) only [wb_n]; omega
          · simp (disch := omega) only [wb_n]; omega
          · unfold cl8 wb
            simp (disch := omega) only [ur_n, ur_e]
            unfold Sl1
            refine ⟨rfl, by omega, fun _ => by omega, fun _ => by omega, fun _ => by omega, fun _ => by omega, by omega, fun _ => by omega, fun _ => by omega, rfl, rfl, Or.inl rfl, Or.inl rfl, Or.inl rfl, fun h => by omega, fun _ => ⟨rfl, rfl⟩, fun _ h => by omega, fun _ h => by omega⟩
        · refine di.push sl (fun j i a b d => wb_o (by omega) d) (fun h0 => ?_) (fun h3 => ?_) fun h4 => ?_
          · unfold wb at h0; simp (disch := omega) only [ur_n, ur_e] at h0; omega
          · unfold wb at h3; simp (disch := omega) only [ur_n, ur_e] at h3; omega
          · unfold wb at h4; simp (disch := omega) only [ur_n, ur_e] at h4; omega
        · rw [ur_ne (by omega), cl8_n (by omega)]
      · obtain ⟨v1, r1, e1, e2⟩ := cag_some e
        cases e2
        obtain ⟨q', k1, k2⟩ := timer _ _ _ _ _ h2 (fun j i a b d => by rw [ur_n (by omega)]; exact cl8_o d) (fun j i a b d => wb_o (by omega) d) wb_55 (fun j hj => by rw [ur_ne (by omega), cl8_n (by omega)]) (fun j hj => wb_n (by omega)) (by rw [wb_n (by omega)]) (by rw [wb_n (by omega)]) (by rw [wb_n (by omega)]) (by
          unfold cl8 wb
          simp (disch := omega) only [ur_n, ur_e]
          exact nS 0 rfl) (by unfold wb; simp (disch := omega) only [ur_n, ur_e]; omega) (by unfold wb; simp (disch := omega) only [ur_n, ur_e]; omega) e1
        rw [if_f c4, k1, cag_e]
        exact ⟨q', rfl, k2⟩
    · rw [u2]
      have e := (ite_some e).resolve_left (fun hh => by omega)
      obtain ⟨_, e⟩ := chk_some e.2
      obtain ⟨_, e⟩ := chk_some (stg_some e)
      obtain ⟨v1, r1, e1, e2⟩ := cag_some e
      cases e2
      have er := gets_inv e1
      rw [ur_n (j := 67) (a := 66) (by omega), i6] at er
      unfold H_4_beginWait_67 H_4_noteTaken H_4_noteTaken_0 H_8_become H_8_become_0
      rw [if_f (show ¬ i < 0 by omega), if_f (show ¬ 80 ≤ i by omega), chk_t (by omega), stg_e, cag_e, chk_t (by omega), stg_e, stg_e, chk_t (by omega), stg_e, cag_e, cag_e]
      have h3 := cm_taken cs h2 i0 i1 i2
      rw [i3] at h3
      subst er
      refine ⟨_, rfl, (((((h3.qset (by omega)).qset (by omega)).qset (by omega)).rset (by omega)).rset (by omega)).rset (by omega), ?_, ?_, ?_, fun j hj => ?_, fun j hj => ?_⟩
      · refine sl.push (Int.le_refl _) ?_ ?_ ?_ (fun j i a b d => ?_) (fun j i a b d => ?_) ?_
        · simp (disch := omega) only [ur_n, wb_n]; omega
        · simp (disch := omega) only [ur_n, wb_n]; omega
        · simp (disch := omega) only [ur_n, wb_n]; omega
        · rw [ur_n (by omega), ur_n (by omega), ur_n (by omega), ur_n (by omega), ur_n (by omega)]; exact cl8_o d
        · rw [ur_n (by omega), ur_n (by omega), ur_n (by omega), ur_n (by omega)]; exact wb_o (by omega) d
        · unfold cl8 wb
          simp (disch := omega) only [ur_n, ur_e]
          unfold Sl1
          refine ⟨rfl, by omega, fun _ => by omega, fun _ => by omega, fun _ => by omega, fun _ => by omega, by omega, fun _ => by omega, fun _ => by omega, rfl, rfl, Or.inr rfl, Or.inl rfl, Or.inr rfl, fun h => Or.inl ⟨rfl, rfl, by omega, rfl⟩, fun h => by omega, fun _ h => by omega, fun _ h => by omega⟩
      · refine di.push sl (fun j i a b d => ?_) (fun h0 => ?_) (fun h3 => ?_) fun h4 => ?_
        · rw [ur_n (by omega), ur_n (by omega), ur_n (by omega), ur_n (by omega)]; exact wb_o (by omega) d
        · unfold wb at h0; simp (disch := omega) only [ur_n, ur_e] at h0; omega
        · unfold wb at h3; simp (disch := omega) only [ur_n, ur_e] at h3; omega
        · unfold wb at h4; simp (disch := omega) only [ur_n, ur_e] at h4; omega
      · rw [ur_n (by omega), ur_n (by omega), ur_n (by omega), ur_n (by omega)]; exact wb_55
      · rw [ur_ne (by omega), ur_ne (by omega), ur_ne (by omega), ur_ne (by omega), ur_ne (by omega), cl8_n (by omega)]
      · rw [ur_ne (by omega), ur_ne (by omega), ur_ne (by omega), ur_ne (by omega), wb_n (by omega)]
  · rw [if_f c2, if_t (by omega)]
    obtain ⟨gi, e⟩ := chk_some e
    obtain ⟨v1, r1, e1, e2⟩ := cag_some e
    obtain ⟨hc, rfl, rfl⟩ := dec_inv e1
    cases e2
    have c36 : cl8 k (r 2 x) q 36 0 = r 53 0 := by rw [cl8_n (by omega)]; exact t3
    rw [stg_e, c36]
    have h2 := (h1.qset (j := 53) (i := k) (v := r 53 0) (by omega)).rset (j := 58) (i := k) (v := r 53 0) (by omega)
    have w53 : ur (wb k (r 2 x) (r 3 x) r) 58 k (r 53 0) 53 0 = r 53 0 := by rw [ur_n (by omega), wb_n (by omega)]
    have w76 : ur (wb k (r 2 x) (r 3 x) r) 58 k (r 53 0) 76 0 = r 76 0 := by rw [ur_n (by omega), wb_n (by omega)]
    have w76' : r 76 0 < 5200 := by
      have := hc.2
      rw [ur_n (by omega), ur_n (by omega), wb_n (by omega)] at this
      exact this
    obtain ⟨k1, k2⟩ := cm_put53 (x := r 3 x) (y := r 4 x) h2 (by rw [w76]; exact w76') (by rw [w53]; exact gi)
    rw [w53] at k2
    rw [k1, cag_e]
    have kr : ∀ (j : Nat) i, 56 ≤ j → j ≤ 63 → i ≠ k → (gdec 12 (r 3 x) (r 4 x) (ur (ur (wb k (r 2 x) (r 3 x) r) 58 k (r 53 0)) 53 0 (r 53 0 + 1))) j i = r j i := fun j i a b d => by rw [gdec_n (by omega), ur_n (by omega), ur_n (by omega), wb_o (by omega) d]
    refine ⟨_, rfl, k2, ?_, ?_, ?_, fun j hj => ?_, fun j hj => ?_⟩
    · refine sl.push (Int.le_refl _) ?_ ?_ ?_ (fun j i a b d => ?_) kr ?_
      · simp (disch := omega) only [gdec_n, ur_n, wb_n]; omega
      · simp (disch := omega) only [gdec_n, ur_n, wb_n]; omega
      · simp (disch := omega) only [gdec_n, ur_e]; omega
      · rw [hput_n (by omega), ur_n (by omega), cl8_o d]
      · unfold cl8 wb
        simp (disch := omega) only [hput_n, gdec_n, ur_n, ur_e]
        unfold Sl1
        refine ⟨rfl, by omega, fun _ => by omega, fun _ => by omega, fun _ => by omega, fun _ => by omega, by omega, fun _ => by omega, fun _ => by omega, rfl, rfl, Or.inl rfl, Or.inl rfl, Or.inl rfl, fun h => by omega, fun _ => ⟨rfl, rfl⟩, fun _ h => by omega, fun _ h => by omega⟩
    · refine di.push sl kr (fun h0 => ?_) (fun h3 => ?_) fun h4 => ?_
      · exfalso
        unfold wb at h0
        simp (disch := omega) only [gdec_n, ur_n, ur_e] at h0
        omega
      · simp (disch := omega) only [gdec_n, ur_n, ur_e]; omega
      · exfalso
        unfold wb at h4
        simp (disch := omega) only [gdec_n, ur_n, ur_e] at h4
        omega
    · rw [gdec_n (by omega), ur_n (by omega), ur_n (by omega)]; exact wb_55
    · rw [hput_n (by omega), ur_ne (by omega), cl8_n (by omega)]
    · rw [gdec_n (by omega), ur_ne (by omega), ur_ne (by omega), wb_n (by omega)]
end ST
