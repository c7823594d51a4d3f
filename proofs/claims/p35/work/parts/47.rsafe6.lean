/-! the reference's play within its rows: cutting, going on, taking what happens -/
/-- all but what is decided is kept -/
def Dec (r r' : Rst) : Prop := ∀ j : Nat, j < 72 ∨ 76 < j → r' j = r j
theorem Dec.rf {r : Rst} : Dec r r := fun _ _ => rfl
theorem Dec.tr {r r1 r2 : Rst} (h : Dec r r1) (k : Dec r1 r2) : Dec r r2 := fun j hj => (k j hj).trans (h j hj)
/-- of the three that are waited for, those that may still be met -/
def Cl (f : Int → Int) (n k c0 c1 c2 : Int) : Prop := (0 ≤ c0 ∧ c0 ≤ 1) ∧ (0 ≤ c1 ∧ c1 ≤ 1) ∧ (0 ≤ c2 ∧ c2 ≤ 1) ∧ (c0 = 0 → f 0 < n ∨ f 0 = n ∧ 0 < k) ∧ (c1 = 0 → f 1 < n ∨ f 1 = n ∧ 1 < k) ∧ (c2 = 0 → f 2 < n ∨ f 2 = n ∧ 2 < k)
theorem Cl.nx {f : Int → Int} {n k c0 c1 c2 : Int} (h : Cl f n k c0 c1 c2) : Cl f n (k + 1) c0 c1 c2 := by
  unfold Cl at *; omega
theorem Cl.up {f : Int → Int} {n k c0 c1 c2 : Int} (h : Cl f n k c0 c1 c2) : Cl f (n + 1) 0 c0 c1 c2 := by
  unfold Cl at *; omega
theorem Cl.hit {f : Int → Int} {n k c0 c1 c2 : Int} (h : Cl f n k c0 c1 c2) (h0 : 0 ≤ k) (h1 : k < 3) (e : f k = n) : ∃ d0 d1 d2, Cl f n (k + 1) d0 d1 d2 ∧ d0 + d1 + d2 + 1 = c0 + c1 + c2 := by
  have hk : k = 0 ∨ k = 1 ∨ k = 2 := by omega
  rcases hk with rfl | rfl | rfl
  · exact ⟨0, c1, c2, by unfold Cl at *; omega, by unfold Cl at *; omega⟩
  · exact ⟨c0, 0, c2, by unfold Cl at *; omega, by unfold Cl at *; omega⟩
  · exact ⟨c0, c1, 0, by unfold Cl at *; omega, by unfold Cl at *; omega⟩
theorem ok_cuts12 {T U S E n1 : Int} {Q : Int → Rst → Prop} {r0 : Rst} {k2 : Int → Rst → Option G2} (hE : E ≤ 5200) (hn1 : 0 ≤ n1) (hn2 : n1 ≤ 1000000)
    (hk : ∀ r c0 c1 c2, Dec r0 r → Bz (E - (c0 + c1 + c2)) T U S r → Cl (r0 58) (n1 + 1) 0 c0 c1 c2 → Ok (k2 (n1 + 1) r) r Q) : ∀ (n : Nat) (l2 : Int) (r : Rst) (c0 c1 c2 : Int), 0 ≤ l2 → l2 ≤ 3 → 3 - l2 < n → Dec r0 r → Bz (E - (c0 + c1 + c2)) T U S r → Cl (r0 58) n1 l2 c0 c1 c2 → Ok (G_cuts_12 k2 n n1 l2 r) r Q := by
  intro n
  induction n with
  | zero => intro l2 r c0 c1 c2 h1 h2 h3; omega
  | succ n ih =>
    intro l2 r c0 c1 c2 h1 h2 h3 hd hb hc
    rw [G_cuts_12]
    have hw := hb.2.2.2.2.2.2.2.2.2.1
    have nx : l2 < 3 → Ok (G_cuts_12 k2 n n1 (l2 + 1) r) r Q := fun h => ih (l2 + 1) r c0 c1 c2 (by omega) (by omega) (by omega) hd hb hc.nx
    refine Ok.ite (fun c => Ok.chk (by omega) (hk r c0 c1 c2 hd hb hc.up)) fun c => Ok.chk (by omega) (Ok.ite (fun _ => Ok.chk (by omega) (Ok.ite (fun _ => Ok.chk (by omega) (Ok.ite (fun e => ?_) fun _ => Ok.chk (by omega) (nx (by omega)))) fun _ => Ok.chk (by omega) (nx (by omega)))) fun _ => Ok.chk (by omega) (nx (by omega)))
    rw [hd 58 (by omega)] at e
    obtain ⟨d0, d1, d2, h5, h6⟩ := hc.hit h1 (by omega) e
    refine Ok.cag (ok_decides hb (by unfold Cl at h5; omega)) fun v r' _ _ hp => Ok.chk (by omega) ?_
    exact ih (l2 + 1) r' d0 d1 d2 (by omega) (by omega) (by omega) (hd.tr hp.2.2) (hp.1.mono (by omega) (by omega) (by omega) (by omega)) h5
theorem ok_cuts80 {T U S E n1 : Int} {Q : Int → Rst → Prop} {r0 : Rst} {k2 : Int → Rst → Option G2} (hE : E ≤ 5200) (hn1 : 0 ≤ n1) (hn2 : n1 ≤ 1000000)
    (hk : ∀ r c0 c1 c2, Dec r0 r → Bz (E - (c0 + c1 + c2)) T U S r → Cl (r0 59) (n1 + 1) 0 c0 c1 c2 → Ok (k2 (n1 + 1) r) r Q) : ∀ (n : Nat) (l2 : Int) (r : Rst) (c0 c1 c2 : Int), 0 ≤ l2 → l2 ≤ 3 → 3 - l2 < n → Dec r0 r → Bz (E - (c0 + c1 + c2)) T U S r → Cl (r0 59) n1 l2 c0 c1 c2 → Ok (G_cuts_80 k2 n n1 l2 r) r Q := by
  intro n
  induction n with
  | zero => intro l2 r c0 c1 c2 h1 h2 h3; omega
  | succ n ih =>
    intro l2 r c0 c1 c2 h1 h2 h3 hd hb hc
    rw [G_cuts_80]
    have hw := hb.2.2.2.2.2.2.2.2.2.1
    have nx : l2 < 3 → Ok (G_cuts_80 k2 n n1 (l2 + 1) r) r Q := fun h => ih (l2 + 1) r c0 c1 c2 (by omega) (by omega) (by omega) hd hb hc.nx
    refine Ok.ite (fun c => Ok.chk (by omega) (hk r c0 c1 c2 hd hb hc.up)) fun c => Ok.chk (by omega) (Ok.ite (fun _ => Ok.chk (by omega) (Ok.ite (fun e => ?_) fun _ => Ok.chk (by omega) (nx (by omega)))) fun _ => Ok.chk (by omega) (nx (by omega)))
    rw [hd 59 (by omega)] at e
    obtain ⟨d0, d1, d2, h5, h6⟩ := hc.hit h1 (by omega) e
    refine Ok.cag (ok_decides hb (by unfold Cl at h5; omega)) fun v r' _ _ hp => Ok.chk (by omega) ?_
    exact ih (l2 + 1) r' d0 d1 d2 (by omega) (by omega) (by omega) (hd.tr hp.2.2) (hp.1.mono (by omega) (by omega) (by omega) (by omega)) h5
theorem ok_cuts2 {T U S E : Int} {Q : Int → Rst → Prop} {r0 : Rst} {k70 : Int → Rst → Option G2} (hE : E ≤ 5200) (hT : T ≤ 90000)
    (hk : ∀ r, Dec r0 r → Bz E T U S r → Ok (k70 0 r) r Q) : ∀ (n : Nat) (l1 : Int) (r : Rst) (c0 c1 c2 : Int), 0 ≤ l1 → l1 ≤ 99999 → 99999 - l1 < n → Dec r0 r → Bz (E - (c0 + c1 + c2)) T U S r → Cl (r0 58) l1 0 c0 c1 c2 → Ok (G_cuts_2 k70 n l1 r) r Q := by
  intro n
  induction n with
  | zero => intro l2 r c0 c1 c2 h1 h2 h3; omega
  | succ n ih =>
    intro l1 r c0 c1 c2 h1 h2 h3 hd hb hc
    rw [G_cuts_2]
    have hw := hb.2.1
    refine Ok.ite (fun c => hk r hd (hb.mono (by unfold Cl at hc; omega) (by omega) (by omega) (by omega))) fun c => ?_
    refine ok_cuts12 hE h1 (by omega) (fun r c0 c1 c2 h1 h2 h3 => ?_) fuel9 0 r c0 c1 c2 (by omega) (by omega) (fuel_big (by omega)) hd hb hc
    exact ih (l1 + 1) r c0 c1 c2 (by omega) (by omega) (by omega) h1 h2 h3
theorem ok_cuts70 {T U S E : Int} {Q : Int → Rst → Prop} {r0 : Rst} {k70 : Rst → Option G2} (hE : E ≤ 5200) (hT : T ≤ 90000)
    (hk : ∀ r, Dec r0 r → Bz E T U S r → Ok (k70 r) r Q) : ∀ (n : Nat) (l1 : Int) (r : Rst) (c0 c1 c2 : Int), 0 ≤ l1 → l1 ≤ 99999 → 99999 - l1 < n → Dec r0 r → Bz (E - (c0 + c1 + c2)) T U S r → Cl (r0 59) l1 0 c0 c1 c2 → Ok (G_cuts_70 k70 n l1 r) r Q := by
  intro n
  induction n with
  | zero => intro l2 r c0 c1 c2 h1 h2 h3; omega
  | succ n ih =>
    intro l1 r c0 c1 c2 h1 h2 h3 hd hb hc
    rw [G_cuts_70]
    have hw := hb.2.2.1
    refine Ok.ite (fun c => hk r hd (hb.mono (by unfold Cl at hc; omega) (by omega) (by omega) (by omega))) fun c => ?_
    refine ok_cuts80 hE h1 (by omega) (fun r c0 c1 c2 h1 h2 h3 => ?_) fuel9 0 r c0 c1 c2 (by omega) (by omega) (fuel_big (by omega)) hd hb hc
    exact ih (l1 + 1) r c0 c1 c2 (by omega) (by omega) (by omega) h1 h2 h3
theorem ok_cuts {D T U S : Int} {r : Rst} (h : Bz D T U S r) (hD : D + 7 ≤ 5200) (hU : U ≤ 5200) (hT : T ≤ 90000) : Ok (G_cuts r) r fun _ r' => Bd (D + 7) (T + 1) U S r' ∧ r' 42 0 ≠ 0 ∧ r' 55 0 = 0 := by
  unfold G_cuts G_cuts_0
  refine ok_cuts2 (r0 := r) (E := D + 3) (T := T) (U := U) (S := S) (by omega) hT (fun r1 d1 b1 => ?_) fuel9 0 r 1 1 1 (by omega) (by omega) (fuel_big (by omega)) Dec.rf (h.mono (by omega) (by omega) (by omega) (by omega)) (by unfold Cl; omega)
  refine ok_cuts70 (r0 := r) (E := D + 6) (T := T) (U := U) (S := S) (by omega) hT (fun r2 d2 b2 => ?_) fuel9 0 r1 1 1 1 (by omega) (by omega) (fuel_big (by omega)) d1 (b1.mono (by omega) (by omega) (by omega) (by omega)) (by unfold Cl; omega)
  unfold G_cuts_127
  refine Ok.cag (ok_fails b2 (by omega) (by omega) hU (by omega)) fun v r' _ _ hp => Ok.ret ⟨hp.1.mono (by omega) (by omega) (by omega) (by omega), hp.2.1, hp.2.2.1⟩
