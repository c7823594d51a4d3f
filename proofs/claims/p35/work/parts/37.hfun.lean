/-! the player's methods over its own places, printed by wip/whole/gen_h.py -/
noncomputable section
def H_1_lookAhead_74 (pg hs : Rst) : Nat → Rst → Option G2
  | 0, _ => none
  | n + 1, q => (
if hs 3 0 ≤ q 41 0 then (
some (0, q))
else
if 80 ≤ q 41 0 then (
some (0, q))
else
chk9 (0 ≤ q 41 0 ∧ q 41 0 < 80) <|
if hs 0 (q 41 0) ≤ 7 then (
some (0, q))
else
chk9 (iR (q 41 0 + 1)) <|
stg (ur q 41 0 (q 41 0 + 1)) fun q4 =>
H_1_lookAhead_74 pg hs n q4)
def H_1_lookAhead_56 (pg hs : Rst) (l2 s0 : Int) (q : Rst) : Option G2 :=
chk9 ((s0 = 0 ∨ s0 = 1)) <|
stg (ur q 37 0 s0) fun q2 =>
chk9 (iR (l2 + 1)) <|
stg (ur q2 40 0 (l2 + 1)) fun q6 =>
stg (ur q6 41 0 (q6 40 0)) fun q9 =>
H_1_lookAhead_74 pg hs fuel9 q9
def H_1_lookAhead_39 (pg hs : Rst) (l2 : Int) (q : Rst) : Option G2 :=
if hs 3 0 ≤ l2 then (
H_1_lookAhead_56 pg hs l2 0 q)
else
H_1_lookAhead_56 pg hs l2 1 q
def H_1_lookAhead_2 (pg hs : Rst) (k39 : Int → Rst → Option G2) : Nat → Int → Rst → Option G2
  | 0, _, _ => none
  | n + 1, l2, q => (
if hs 3 0 ≤ l2 then (
k39 l2 q)
else
if 80 ≤ l2 then (
k39 l2 q)
else
chk9 (0 ≤ l2 ∧ l2 < 80) <|
if hs 0 l2 = 7 then (
k39 l2 q)
else
chk9 (iR (l2 + 1)) <|
H_1_lookAhead_2 pg hs k39 n (l2 + 1) q)
def H_1_lookAhead_0 (pg hs : Rst) (l1 : Int) (q : Rst) : Option G2 :=
H_1_lookAhead_2 pg hs (H_1_lookAhead_39 pg hs) fuel9 l1 q
def H_1_lookAhead (pg hs : Rst) (a1 : Int) (q : Rst) : Option G2 := H_1_lookAhead_0 pg hs a1 q
def H_1_closePart_16 (pg hs : Rst) (q : Rst) : Option G2 :=
cag (H_1_lookAhead pg hs (q 41 0) q) fun _ q1 =>
some (0, q1)
def H_1_closePart_0 (pg hs : Rst) (q : Rst) : Option G2 :=
if q 40 0 = q 41 0 then (
H_1_closePart_16 pg hs q)
else
stg (ur q 38 0 1) fun q1 =>
H_1_closePart_16 pg hs q1
def H_1_closePart (pg hs : Rst) (q : Rst) : Option G2 := H_1_closePart_0 pg hs q
def H_1_isNextAgain_0 (pg hs : Rst) (l1 l2 : Int) (q : Rst) : Option G2 :=
if q 37 0 = 0 then (
some (0, q))
else
if q 41 0 ≤ q 40 0 then (
some (0, q))
else
if 80 ≤ q 40 0 then (
some (0, q))
else
chk9 (0 ≤ q 40 0 ∧ q 40 0 < 80) <|
if hs 0 (q 40 0) = l1 then (
chk9 (0 ≤ q 40 0 ∧ q 40 0 < 80) <|
if hs 1 (q 40 0) = l2 then (
some (1, q))
else
some (0, q))
else
some (0, q)
def H_1_isNextAgain (pg hs : Rst) (a1 a2 : Int) (q : Rst) : Option G2 := boolG (H_1_isNextAgain_0 pg hs a1 a2 q)
def H_1_put_112 (pg hs : Rst) (q : Rst) : Option G2 :=
chk9 (iR (q 33 0 + 1)) <|
stg (ur q 33 0 (q 33 0 + 1)) fun q2 =>
some (0, q2)
def H_1_put_62 (pg hs : Rst) (l1 l2 l3 s0 s1 : Int) (q : Rst) : Option G2 :=
chk9 (iR (s1 + s0)) <|
stg (ur q 36 0 (s1 + s0)) fun q2 =>
if q2 37 0 = 0 then (
if 80 ≤ q2 33 0 then (
H_1_put_112 pg hs q2)
else
chk9 (0 ≤ q2 33 0 ∧ q2 33 0 < 80) <|
stg (ur q2 42 (q2 33 0) l1) fun q32 =>
chk9 (0 ≤ q32 33 0 ∧ q32 33 0 < 80) <|
stg (ur q32 43 (q32 33 0) l2) fun q37 =>
chk9 (0 ≤ q37 33 0 ∧ q37 33 0 < 80) <|
stg (ur q37 44 (q37 33 0) l3) fun q42 =>
H_1_put_112 pg hs q42)
else
if q2 41 0 ≤ q2 40 0 then (
stg (ur q2 38 0 1) fun q5 =>
some (0, q5))
else
if 80 ≤ q2 40 0 then (
stg (ur q2 38 0 1) fun q8 =>
some (0, q8))
else
chk9 (0 ≤ q2 40 0 ∧ q2 40 0 < 80) <|
if hs 0 (q2 40 0) = l1 then (
chk9 (0 ≤ q2 40 0 ∧ q2 40 0 < 80) <|
if hs 1 (q2 40 0) = l2 then (
chk9 (0 ≤ q2 40 0 ∧ q2 40 0 < 80) <|
if hs 2 (q2 40 0) = l3 then (
chk9 (iR (q2 40 0 + 1)) <|
stg (ur q2 40 0 (q2 40 0 + 1)) fun q27 =>
some (0, q27))
else
stg (ur q2 38 0 1) fun q23 =>
some (0, q23))
else
stg (ur q2 38 0 1) fun q18 =>
some (0, q18))
else
stg (ur q2 38 0 1) fun q13 =>
some (0, q13)
def H_1_put_42 (pg hs : Rst) (l1 l2 l3 s0 s1 : Int) (q : Rst) : Option G2 :=
chk9 (iR (s1 + s0)) <|
stg (ur q 35 0 (s1 + s0)) fun q2 =>
if l1 = 12 then (
H_1_put_62 pg hs l1 l2 l3 1 (q2 36 0) q2)
else
H_1_put_62 pg hs l1 l2 l3 0 (q2 36 0) q2
def H_1_put_22 (pg hs : Rst) (l1 l2 l3 s0 s1 : Int) (q : Rst) : Option G2 :=
chk9 (iR (s1 + s0)) <|
stg (ur q 34 0 (s1 + s0)) fun q2 =>
if l1 = 10 then (
H_1_put_42 pg hs l1 l2 l3 1 (q2 35 0) q2)
else
H_1_put_42 pg hs l1 l2 l3 0 (q2 35 0) q2
def H_1_put_0 (pg hs : Rst) (l1 l2 l3 : Int) (q : Rst) : Option G2 :=
if l1 = 8 then (
H_1_put_22 pg hs l1 l2 l3 1 (q 34 0) q)
else
if l1 = 15 then (
H_1_put_22 pg hs l1 l2 l3 1 (q 34 0) q)
else
H_1_put_22 pg hs l1 l2 l3 0 (q 34 0) q
def H_1_put (pg hs : Rst) (a1 a2 a3 : Int) (q : Rst) : Option G2 := H_1_put_0 pg hs a1 a2 a3 q
def H_1_failTooLong_0 (pg hs : Rst) (q : Rst) : Option G2 :=
stg (ur q 33 0 0) fun q1 =>
cag (H_1_put pg hs 16 22 8 q1) fun _ q4 =>
some (0, q4)
def H_1_failTooLong (pg hs : Rst) (q : Rst) : Option G2 := H_1_failTooLong_0 pg hs q
def H_4_isOver_0 (pg hs : Rst) (q : Rst) : Option G2 :=
if q 8 0 = 4 then (
some (1, q))
else
some (0, q)
def H_4_isOver (pg hs : Rst) (q : Rst) : Option G2 := boolG (H_4_isOver_0 pg hs q)
def H_4_waitingPlace_0 (pg hs : Rst) (q : Rst) : Option G2 :=
if q 8 0 = 1 then (
some (q 9 0, q))
else
some ((-1), q)
def H_4_waitingPlace (pg hs : Rst) (q : Rst) : Option G2 := H_4_waitingPlace_0 pg hs q
def H_4_begin_42 (pg hs : Rst) (q : Rst) : Option G2 :=
stg (ur q 2 0 0) fun q1 =>
stg (ur q1 19 0 0) fun q4 =>
stg (ur q4 8 0 0) fun q7 =>
stg (ur q7 9 0 0) fun q10 =>
stg (ur q10 10 0 0) fun q13 =>
stg (ur q13 11 0 0) fun q16 =>
stg (ur q16 12 0 0) fun q19 =>
stg (ur q19 13 0 0) fun q22 =>
stg (ur q22 14 0 0) fun q25 =>
stg (ur q25 15 0 0) fun q28 =>
stg (ur q28 16 0 (-1)) fun q31 =>
stg (ur q31 17 0 0) fun q34 =>
stg (ur q34 18 0 0) fun q37 =>
some (0, q37)
def H_4_begin_21 (pg hs : Rst) (k42 : Rst → Option G2) : Nat → Int → Rst → Option G2
  | 0, _, _ => none
  | n + 1, l4, q => (
if 80 ≤ l4 then (
k42 q)
else
chk9 (0 ≤ l4 ∧ l4 < 80) <|
stg (ur q 20 l4 0) fun q3 =>
chk9 (iR (l4 + 1)) <|
H_4_begin_21 pg hs k42 n (l4 + 1) q3)
def H_8_become_0 (pg hs : Rst) (l0 l1 l2 : Int) (q : Rst) : Option G2 :=
stg (ur q 55 l0 l1) fun q1 =>
stg (ur q1 56 l0 1) fun q4 =>
chk9 ((l2 = 0 ∨ l2 = 1)) <|
stg (ur q4 57 l0 l2) fun q8 =>
some (0, q8)
def H_8_become (pg hs : Rst) (a0 a1 a2 : Int) (q : Rst) : Option G2 := H_8_become_0 pg hs a0 a1 a2 q
def H_4_hearActivity_24 (pg hs : Rst) : Nat → Int → Int → Int → Int → Rst → Option G2
  | 0, _, _, _, _, _ => none
  | n + 1, l1, l2, l3, l4, q => (
if q 11 0 ≤ l4 then (
some (0, q))
else
chk9 (0 ≤ l4 ∧ l4 < 3) <|
if q 51 l4 = l1 then (
chk9 (0 ≤ l4 ∧ l4 < 3) <|
cag (H_8_become pg hs l4 l2 l3 q) fun _ q6 =>
chk9 (iR (l4 + 1)) <|
H_4_hearActivity_24 pg hs n l1 l2 l3 (l4 + 1) q6)
else
chk9 (iR (l4 + 1)) <|
H_4_hearActivity_24 pg hs n l1 l2 l3 (l4 + 1) q)
def H_4_hearActivity_0 (pg hs : Rst) (l1 l2 l3 : Int) (q : Rst) : Option G2 :=
if q 8 0 = 3 then (
if l1 = q 16 0 then (
stg (ur q 8 0 2) fun q1 =>
H_4_hearActivity_24 pg hs fuel9 l1 l2 l3 0 q1)
else
H_4_hearActivity_24 pg hs fuel9 l1 l2 l3 0 q)
else
H_4_hearActivity_24 pg hs fuel9 l1 l2 l3 0 q
def H_4_hearActivity (pg hs : Rst) (a1 a2 a3 : Int) (q : Rst) : Option G2 := H_4_hearActivity_0 pg hs a1 a2 a3 q
def H_4_hearTimer_2 (pg hs : Rst) : Nat → Int → Int → Rst → Option G2
  | 0, _, _, _ => none
  | n + 1, l1, l2, q => (
if q 11 0 ≤ l2 then (
some (0, q))
else
chk9 (0 ≤ l2 ∧ l2 < 3) <|
if q 52 l2 = l1 then (
chk9 (0 ≤ l2 ∧ l2 < 3) <|
if q 56 l2 = 0 then (
chk9 (0 ≤ l2 ∧ l2 < 3) <|
cag (H_8_become pg hs l2 (-1) 0 q) fun _ q9 =>
chk9 (iR (l2 + 1)) <|
H_4_hearTimer_2 pg hs n l1 (l2 + 1) q9)
else
chk9 (iR (l2 + 1)) <|
H_4_hearTimer_2 pg hs n l1 (l2 + 1) q)
else
chk9 (iR (l2 + 1)) <|
H_4_hearTimer_2 pg hs n l1 (l2 + 1) q)
def H_4_hearTimer_0 (pg hs : Rst) (l1 : Int) (q : Rst) : Option G2 :=
H_4_hearTimer_2 pg hs fuel9 l1 0 q
def H_4_hearTimer (pg hs : Rst) (a1 : Int) (q : Rst) : Option G2 := H_4_hearTimer_0 pg hs a1 q
def H_4_noteTaken_0 (pg hs : Rst) (l1 : Int) (q : Rst) : Option G2 :=
if l1 < 0 then (
some (0, q))
else
if 80 ≤ l1 then (
some (0, q))
else
chk9 (0 ≤ l1 ∧ l1 < 80) <|
stg (ur q 20 l1 1) fun q3 =>
some (0, q3)
def H_4_noteTaken (pg hs : Rst) (a1 : Int) (q : Rst) : Option G2 := H_4_noteTaken_0 pg hs a1 q
def H_4_hearSignal_35 (pg hs : Rst) (l2 l4 : Int) (q : Rst) : Option G2 :=
cag (H_8_become pg hs l4 l2 0 q) fun _ q1 =>
chk9 (iR (q1 18 0 - 1)) <|
cag (H_4_noteTaken pg hs (q1 18 0 - 1) q1) fun _ q6 =>
if q6 52 l4 = (-1) then (
some (0, q6))
else
cag (H_1_put pg hs 11 (q6 52 l4) 0 q6) fun _ q10 =>
some (0, q10)
def H_4_hearSignal_2 (pg hs : Rst) (k35 : Int → Int → Rst → Option G2) : Nat → Int → Int → Int → Rst → Option G2
  | 0, _, _, _, _ => none
  | n + 1, l1, l2, l3, q => (
if q 11 0 ≤ l3 then (
some (0, q))
else
chk9 (0 ≤ l3 ∧ l3 < 3) <|
if q 54 l3 = l1 then (
if q 56 l3 = 0 then (
k35 l2 l3 q)
else
chk9 (iR (l3 + 1)) <|
H_4_hearSignal_2 pg hs k35 n l1 l2 (l3 + 1) q)
else
chk9 (iR (l3 + 1)) <|
H_4_hearSignal_2 pg hs k35 n l1 l2 (l3 + 1) q)
def H_4_hearSignal_0 (pg hs : Rst) (l1 l2 : Int) (q : Rst) : Option G2 :=
H_4_hearSignal_2 pg hs (H_4_hearSignal_35 pg hs) fuel9 l1 l2 0 q
def H_4_hearSignal (pg hs : Rst) (a1 a2 : Int) (q : Rst) : Option G2 := H_4_hearSignal_0 pg hs a1 a2 q
def H_4_hearChild_2 (pg hs : Rst) : Nat → Int → Int → Int → Rst → Option G2
  | 0, _, _, _, _ => none
  | n + 1, l1, l2, l3, q => (
if q 11 0 ≤ l3 then (
some (0, q))
else
chk9 (0 ≤ l3 ∧ l3 < 3) <|
if q 53 l3 = l1 then (
chk9 (0 ≤ l3 ∧ l3 < 3) <|
cag (H_8_become pg hs l3 l2 0 q) fun _ q6 =>
chk9 (iR (l3 + 1)) <|
H_4_hearChild_2 pg hs n l1 l2 (l3 + 1) q6)
else
chk9 (iR (l3 + 1)) <|
H_4_hearChild_2 pg hs n l1 l2 (l3 + 1) q)
def H_4_hearChild_0 (pg hs : Rst) (l1 l2 : Int) (q : Rst) : Option G2 :=
H_4_hearChild_2 pg hs fuel9 l1 l2 0 q
def H_4_hearChild (pg hs : Rst) (a1 a2 : Int) (q : Rst) : Option G2 := H_4_hearChild_0 pg hs a1 a2 q
def H_4_backOut_0 (pg hs : Rst) (l1 : Int) (q : Rst) : Option G2 :=
stg (ur q 17 0 l1) fun q1 =>
stg (ur q1 11 0 0) fun q4 =>
stg (ur q4 8 0 2) fun q7 =>
some (0, q7)
def H_4_backOut (pg hs : Rst) (a1 : Int) (q : Rst) : Option G2 := H_4_backOut_0 pg hs a1 q
def H_4_cut_120 (pg hs : Rst) (q : Rst) : Option G2 :=
cag (H_4_backOut pg hs 0 q) fun _ q1 =>
some (0, q1)
def H_4_cut_62 (pg hs : Rst) (k120 : Rst → Option G2) : Nat → Int → Rst → Option G2
  | 0, _, _ => none
  | n + 1, l1, q => (
if q 11 0 ≤ l1 then (
k120 q)
else
chk9 (0 ≤ l1 ∧ l1 < 3) <|
if q 52 l1 = (-1) then (
chk9 (iR (l1 + 1)) <|
H_4_cut_62 pg hs k120 n (l1 + 1) q)
else
chk9 (0 ≤ l1 ∧ l1 < 3) <|
if q 56 l1 = 0 then (
chk9 (0 ≤ l1 ∧ l1 < 3) <|
cag (H_1_put pg hs 11 (q 52 l1) 0 q) fun _ q9 =>
chk9 (iR (l1 + 1)) <|
H_4_cut_62 pg hs k120 n (l1 + 1) q9)
else
chk9 (iR (l1 + 1)) <|
H_4_cut_62 pg hs k120 n (l1 + 1) q)
def H_4_cut_2 (pg hs : Rst) (k62 : Int → Rst → Option G2) : Nat → Int → Rst → Option G2
  | 0, _, _ => none
  | n + 1, l1, q => (
if q 11 0 ≤ l1 then (
k62 0 q)
else
chk9 (0 ≤ l1 ∧ l1 < 3) <|
if q 51 l1 = (-1) then (
chk9 (iR (l1 + 1)) <|
H_4_cut_2 pg hs k62 n (l1 + 1) q)
else
chk9 (0 ≤ l1 ∧ l1 < 3) <|
if q 56 l1 = 0 then (
chk9 (0 ≤ l1 ∧ l1 < 3) <|
cag (H_1_put pg hs 9 (q 51 l1) 0 q) fun _ q9 =>
chk9 (iR (l1 + 1)) <|
H_4_cut_2 pg hs k62 n (l1 + 1) q9)
else
chk9 (iR (l1 + 1)) <|
H_4_cut_2 pg hs k62 n (l1 + 1) q)
def H_4_cut_0 (pg hs : Rst) (q : Rst) : Option G2 :=
H_4_cut_2 pg hs (H_4_cut_62 pg hs (H_4_cut_120 pg hs) fuel9) fuel9 0 q
def H_4_cut (pg hs : Rst) (q : Rst) : Option G2 := H_4_cut_0 pg hs q
def H_4_hearCancel_0 (pg hs : Rst) (q : Rst) : Option G2 :=
if q 8 0 = 1 then (
stg (ur q 14 0 1) fun q1 =>
if q1 13 0 = 0 then (
cag (H_4_cut pg hs q1) fun _ q4 =>
some (0, q4))
else
some (0, q1))
else
some (0, q)
def H_4_hearCancel (pg hs : Rst) (q : Rst) : Option G2 := H_4_hearCancel_0 pg hs q
def H_4_hear_65 (pg hs : Rst) (s0 s1 s2 : Int) (q : Rst) : Option G2 :=
cag (H_4_hearActivity pg hs s2 s1 s0 q) fun _ q1 =>
some (0, q1)
def H_4_hear_0 (pg hs : Rst) (l1 l2 l3 : Int) (q : Rst) : Option G2 :=
if l1 = 0 then (
stg (ur q 2 0 l2) fun q1 =>
some (0, q1))
else
if l1 = 1 then (
if l1 = 2 then (
H_4_hear_65 pg hs 1 l3 l2 q)
else
H_4_hear_65 pg hs 0 l3 l2 q)
else
if l1 = 2 then (
if l1 = 2 then (
H_4_hear_65 pg hs 1 l3 l2 q)
else
H_4_hear_65 pg hs 0 l3 l2 q)
else
if l1 = 3 then (
cag (H_4_hearTimer pg hs l2 q) fun _ q4 =>
some (0, q4))
else
if l1 = 4 then (
cag (H_4_hearSignal pg hs l2 l3 q) fun _ q8 =>
some (0, q8))
else
if l1 = 5 then (
cag (H_4_hearChild pg hs l2 l3 q) fun _ q12 =>
some (0, q12))
else
if l1 = 6 then (
cag (H_4_hearCancel pg hs q) fun _ q16 =>
some (0, q16))
else
some (0, q)
def H_4_hear (pg hs : Rst) (a1 a2 a3 : Int) (q : Rst) : Option G2 := H_4_hear_0 pg hs a1 a2 a3 q
def H_4_settle_77 (pg hs : Rst) (l1 l2 : Int) (q : Rst) : Option G2 :=
stg (ur q 2 0 l2) fun q1 =>
if l1 = 0 then (
stg (ur q1 11 0 0) fun q4 =>
stg (ur q4 9 0 (q4 10 0)) fun q7 =>
stg (ur q7 8 0 0) fun q10 =>
some (0, q10))
else
cag (H_4_backOut pg hs 1 q1) fun _ q13 =>
some (0, q13)
def H_4_settle_18 (pg hs : Rst) (k77 : Int → Int → Rst → Option G2) : Nat → Int → Int → Int → Rst → Option G2
  | 0, _, _, _, _ => none
  | n + 1, l1, l2, l3, q => (
if q 11 0 ≤ l3 then (
k77 l1 l2 q)
else
chk9 (0 ≤ l3 ∧ l3 < 3) <|
if q 56 l3 = 0 then (
some (0, q))
else
if q 57 l3 = 0 then (
if q 50 l3 = 1 then (
chk9 (iR (l3 + 1)) <|
H_4_settle_18 pg hs k77 n l1 l2 (l3 + 1) q)
else
chk9 (iR (l3 + 1)) <|
H_4_settle_18 pg hs k77 n l1 (q 55 l3) (l3 + 1) q)
else
chk9 (iR (l3 + 1)) <|
H_4_settle_18 pg hs k77 n 1 l2 (l3 + 1) q)
def H_4_settle_0 (pg hs : Rst) (q : Rst) : Option G2 :=
if q 8 0 = 1 then (
H_4_settle_18 pg hs (H_4_settle_77 pg hs) fuel9 0 (q 2 0) 0 q)
else
some (0, q)
def H_4_settle (pg hs : Rst) (q : Rst) : Option G2 := H_4_settle_0 pg hs q
def H_4_isMoving_0 (pg hs : Rst) (q : Rst) : Option G2 :=
if q 38 0 = 0 then (
if q 8 0 = 0 then (
some (1, q))
else
if q 8 0 = 2 then (
some (1, q))
else
some (0, q))
else
some (0, q)
def H_4_isMoving (pg hs : Rst) (q : Rst) : Option G2 := boolG (H_4_isMoving_0 pg hs q)
def H_4_finish_0 (pg hs : Rst) (l1 l2 : Int) (q : Rst) : Option G2 :=
cag (H_1_put pg hs 16 l1 l2 q) fun _ q1 =>
stg (ur q1 8 0 4) fun q5 =>
some (0, q5)
def H_4_finish (pg hs : Rst) (a1 a2 : Int) (q : Rst) : Option G2 := H_4_finish_0 pg hs a1 a2 q
def H_4_undoNext_0 (pg hs : Rst) (q : Rst) : Option G2 :=
if q 15 0 ≤ 0 then (
if q 17 0 = 0 then (
cag (H_4_finish pg hs 23 0 q) fun _ q5 =>
some (0, q5))
else
cag (H_4_finish pg hs 22 (q 17 0) q) fun _ q1 =>
some (0, q1))
else
chk9 (iR (q 15 0 - 1)) <|
stg (ur q 15 0 (q 15 0 - 1)) fun q10 =>
chk9 (0 ≤ q10 15 0) <|
stg (ur q10 16 0 (q10 34 0)) fun q14 =>
chk9 (0 ≤ (q10 15 0 % 80) ∧ (q10 15 0 % 80) < 80) <|
chk9 (0 ≤ (q10 15 0 % 80) ∧ (q10 15 0 % 80) < 80) <|
cag (H_1_put pg hs 15 (q14 22 (q10 15 0 % 80)) (q14 23 (q10 15 0 % 80)) q14) fun _ q21 =>
stg (ur q21 8 0 3) fun q25 =>
some (0, q25)
def H_4_undoNext (pg hs : Rst) (q : Rst) : Option G2 := H_4_undoNext_0 pg hs q
def H_4_passesMark_40 (pg hs : Rst) (l1 l2 : Int) (q : Rst) : Option G2 :=
stg (ur q 19 0 ((Int32.ofInt (q 19 0) ||| Int32.ofInt l2).toInt)) fun q1 =>
cag (H_1_put pg hs 13 l1 0 q1) fun _ q4 =>
some (1, q4)
def H_4_passesMark_0 (pg hs : Rst) (l1 : Int) (q : Rst) : Option G2 :=
if (Int32.ofInt (q 19 0) &&& Int32.ofInt ((Int32.ofInt 1 <<< (Int32.ofInt l1 &&& 31)).toInt)).toInt = 0 then (
if q 37 0 = 0 then (
H_4_passesMark_40 pg hs l1 ((Int32.ofInt 1 <<< (Int32.ofInt l1 &&& 31)).toInt) q)
else
cag (H_1_isNextAgain pg hs 13 l1 q) fun v2 q1 =>
if v2 = 0 then (
some (0, q1))
else
H_4_passesMark_40 pg hs l1 ((Int32.ofInt 1 <<< (Int32.ofInt l1 &&& 31)).toInt) q1)
else
some (1, q)
def H_4_passesMark (pg hs : Rst) (a1 : Int) (q : Rst) : Option G2 := boolG (H_4_passesMark_0 pg hs a1 q)
def H_4_goAgain_0 (pg hs : Rst) (q : Rst) : Option G2 :=
if 9 ≤ q 7 0 then (
cag (H_4_backOut pg hs 7 q) fun _ q1 =>
some (0, q1))
else
cag (H_4_finish pg hs 14 (q 2 0) q) fun _ q5 =>
some (0, q5)
def H_4_goAgain (pg hs : Rst) (q : Rst) : Option G2 := H_4_goAgain_0 pg hs q
def H_4_note_148 (pg hs : Rst) (s0 s1 s2 : Int) (q : Rst) : Option G2 :=
cag (H_1_put pg hs s2 s1 s0 q) fun _ q1 =>
some (0, q1)
def H_4_note_0 (pg hs : Rst) (l1 l2 l3 : Int) (q : Rst) : Option G2 :=
if l1 = 7 then (
stg (ur q 2 0 l2) fun q1 =>
some (0, q1))
else
if l1 = 8 then (
chk9 (iR (q 2 0 + l2)) <|
stg (ur q 2 0 (if (-999) < (if (q 2 0 + l2) < 999 then (q 2 0 + l2) else 999) then (if (q 2 0 + l2) < 999 then (q 2 0 + l2) else 999) else (-999))) fun q5 =>
some (0, q5))
else
if l1 = 9 then (
chk9 (0 ≤ q 15 0) <|
chk9 (0 ≤ (q 15 0 % 80) ∧ (q 15 0 % 80) < 80) <|
stg (ur q 22 (q 15 0 % 80) l2) fun q11 =>
chk9 (0 ≤ q11 15 0) <|
chk9 (0 ≤ (q11 15 0 % 80) ∧ (q11 15 0 % 80) < 80) <|
stg (ur q11 23 (q11 15 0 % 80) l3) fun q17 =>
chk9 (iR (q17 15 0 + 1)) <|
stg (ur q17 15 0 (q17 15 0 + 1)) fun q21 =>
some (0, q21))
else
if l1 = 10 then (
some (0, q))
else
if l1 = 11 then (
stg (ur q 12 0 (if q 12 0 < l2 then l2 else q 12 0)) fun q24 =>
some (0, q24))
else
if l1 = 12 then (
if l3 = 100 then (
H_4_note_148 pg hs (q 2 0) l2 14 q)
else
H_4_note_148 pg hs l3 l2 14 q)
else
some (0, q)
def H_4_note (pg hs : Rst) (a1 a2 a3 : Int) (q : Rst) : Option G2 := H_4_note_0 pg hs a1 a2 a3 q
def H_4_goThrough_0 (pg hs : Rst) (l1 l2 l3 : Int) (q : Rst) : Option G2 :=
chk9 (iR (q 9 0 + 1)) <|
if l1 = 5 then (
if l2 ≤ q 2 0 then (
stg (ur q 9 0 (q 9 0 + 1)) fun q2 =>
some (0, q2))
else
chk9 (iR ((q 9 0 + 1) + l3)) <|
stg (ur q 9 0 ((q 9 0 + 1) + l3)) fun q6 =>
some (0, q6))
else
if l1 = 6 then (
if l2 ≤ q 2 0 then (
stg (ur q 9 0 (q 9 0 + 1)) fun q9 =>
some (0, q9))
else
chk9 (iR (q 9 0 - l3)) <|
stg (ur q 9 0 (q 9 0 - l3)) fun q13 =>
some (0, q13))
else
if l1 = 7 then (
cag (H_4_note pg hs l1 l2 l3 q) fun _ q16 =>
stg (ur q16 9 0 (q 9 0 + 1)) fun q20 =>
some (0, q20))
else
if l1 = 8 then (
cag (H_4_note pg hs l1 l2 l3 q) fun _ q23 =>
stg (ur q23 9 0 (q 9 0 + 1)) fun q27 =>
some (0, q27))
else
if l1 = 9 then (
cag (H_4_note pg hs l1 l2 l3 q) fun _ q30 =>
stg (ur q30 9 0 (q 9 0 + 1)) fun q34 =>
some (0, q34))
else
if l1 = 10 then (
cag (H_4_passesMark pg hs l2 q) fun v38 q37 =>
if v38 = 0 then (
chk9 (iR ((q 9 0 + 1) + l3)) <|
stg (ur q37 9 0 ((q 9 0 + 1) + l3)) fun q42 =>
some (0, q42))
else
stg (ur q37 9 0 (q 9 0 + 1)) fun q45 =>
some (0, q45))
else
if l1 = 11 then (
cag (H_4_note pg hs l1 l2 l3 q) fun _ q48 =>
stg (ur q48 9 0 (q 9 0 + 1)) fun q52 =>
some (0, q52))
else
if l1 = 12 then (
cag (H_4_note pg hs l1 l2 l3 q) fun _ q55 =>
stg (ur q55 9 0 (q 9 0 + 1)) fun q59 =>
some (0, q59))
else
if l1 = 13 then (
cag (H_4_backOut pg hs l2 q) fun _ q62 =>
some (0, q62))
else
if l1 = 14 then (
cag (H_4_goAgain pg hs q) fun _ q66 =>
some (0, q66))
else
if l1 = 15 then (
cag (H_4_finish pg hs 21 (q 2 0) q) fun _ q70 =>
some (0, q70))
else
cag (H_4_note pg hs l1 l2 l3 q) fun _ q74 =>
stg (ur q74 9 0 (q 9 0 + 1)) fun q78 =>
some (0, q78)
def H_4_goThrough (pg hs : Rst) (a1 a2 a3 : Int) (q : Rst) : Option G2 := H_4_goThrough_0 pg hs a1 a2 a3 q
def H_8_clear_0 (pg hs : Rst) (l0 l1 : Int) (q : Rst) : Option G2 :=
stg (ur q 50 l0 l1) fun q1 =>
stg (ur q1 51 l0 (-1)) fun q4 =>
stg (ur q4 52 l0 (-1)) fun q7 =>
stg (ur q7 53 l0 (-1)) fun q10 =>
stg (ur q10 54 l0 (-1)) fun q13 =>
stg (ur q13 55 l0 0) fun q16 =>
stg (ur q16 56 l0 0) fun q19 =>
stg (ur q19 57 l0 0) fun q22 =>
some (0, q22)
def H_8_clear (pg hs : Rst) (a0 a1 : Int) (q : Rst) : Option G2 := H_8_clear_0 pg hs a0 a1 q
def H_4_beginWait_67 (pg hs : Rst) (l1 l5 : Int) (q : Rst) : Option G2 :=
cag (H_4_noteTaken pg hs l5 q) fun _ q1 =>
chk9 (0 ≤ l5 ∧ l5 < 80) <|
cag (H_8_become pg hs l1 (hs 2 l5) 0 q1) fun _ q7 =>
some (0, q7)
def H_4_beginWait_93 (pg hs : Rst) (l1 l3 : Int) (q : Rst) : Option G2 :=
if l3 ≤ 0 then (
some (0, q))
else
stg (ur q 52 l1 (q 35 0)) fun q1 =>
cag (H_1_put pg hs 10 l3 0 q1) fun _ q4 =>
some (0, q4)
def H_4_beginWait_17 (pg hs : Rst) (k67 : Int → Int → Rst → Option G2) (k93 : Int → Int → Rst → Option G2) : Nat → Int → Int → Int → Int → Rst → Option G2
  | 0, _, _, _, _, _ => none
  | n + 1, l1, l2, l3, l5, q => (
if q 18 0 ≤ l5 then (
k93 l1 l3 q)
else
if 80 ≤ l5 then (
k93 l1 l3 q)
else
chk9 (0 ≤ l5 ∧ l5 < 80) <|
if hs 0 l5 = 4 then (
chk9 (0 ≤ l5 ∧ l5 < 80) <|
if hs 1 l5 = l2 then (
chk9 (0 ≤ l5 ∧ l5 < 80) <|
if q 20 l5 = 0 then (
k67 l1 l5 q)
else
chk9 (iR (l5 + 1)) <|
H_4_beginWait_17 pg hs k67 k93 n l1 l2 l3 (l5 + 1) q)
else
chk9 (iR (l5 + 1)) <|
H_4_beginWait_17 pg hs k67 k93 n l1 l2 l3 (l5 + 1) q)
else
chk9 (iR (l5 + 1)) <|
H_4_beginWait_17 pg hs k67 k93 n l1 l2 l3 (l5 + 1) q)
def H_4_beginWait_0 (pg hs : Rst) (l1 l2 l3 : Int) (q : Rst) : Option G2 :=
stg (ur q 54 l1 l2) fun q1 =>
H_4_beginWait_17 pg hs (H_4_beginWait_67 pg hs) (H_4_beginWait_93 pg hs) fuel9 l1 l2 l3 0 q1
def H_4_beginWait (pg hs : Rst) (a1 a2 a3 : Int) (q : Rst) : Option G2 := H_4_beginWait_0 pg hs a1 a2 a3 q
def H_4_beginStep_0 (pg hs : Rst) (l1 l2 : Int) (q : Rst) : Option G2 :=
chk9 (0 ≤ l2 ∧ l2 < 12) <|
chk9 (0 ≤ l2 ∧ l2 < 12) <|
chk9 (0 ≤ l2 ∧ l2 < 12) <|
cag (H_8_clear pg hs l1 (pg 0 l2) q) fun _ q7 =>
if q7 50 l1 = 0 then (
stg (ur q7 51 l1 (q7 34 0)) fun q11 =>
cag (H_1_put pg hs 8 (pg 1 l2) (pg 2 l2) q11) fun _ q14 =>
some (0, q14))
else
if q7 50 l1 = 1 then (
stg (ur q7 52 l1 (q7 35 0)) fun q18 =>
cag (H_1_put pg hs 10 (pg 1 l2) 0 q18) fun _ q21 =>
some (0, q21))
else
if q7 50 l1 = 2 then (
cag (H_4_beginWait pg hs l1 (pg 1 l2) (pg 2 l2) q7) fun _ q25 =>
some (0, q25))
else
if q7 50 l1 = 3 then (
stg (ur q7 53 l1 (q7 36 0)) fun q29 =>
cag (H_1_put pg hs 12 (pg 1 l2) (pg 2 l2) q29) fun _ q32 =>
some (0, q32))
else
cag (H_4_beginWait pg hs l1 (pg 1 l2) (pg 2 l2) q7) fun _ q36 =>
some (0, q36)
def H_4_beginStep (pg hs : Rst) (a1 a2 : Int) (q : Rst) : Option G2 := H_4_beginStep_0 pg hs a1 a2 q
def H_4_beginSteps_97 (pg hs : Rst) : Nat → Int → Int → Rst → Option G2
  | 0, _, _, _ => none
  | n + 1, l2, l3, q => (
if q 11 0 ≤ l3 then (
some (0, q))
else
chk9 (0 ≤ l3 ∧ l3 < 3) <|
chk9 (iR (l2 + l3)) <|
cag (H_4_beginStep pg hs l3 (l2 + l3) q) fun _ q4 =>
chk9 (iR (l3 + 1)) <|
H_4_beginSteps_97 pg hs n l2 (l3 + 1) q4)
def H_4_beginSteps_65 (pg hs : Rst) (l2 s0 : Int) (q : Rst) : Option G2 :=
chk9 (iR (pg 3 0 - l2)) <|
stg (ur q 11 0 (if (pg 3 0 - l2) < s0 then (pg 3 0 - l2) else s0)) fun q2 =>
chk9 (iR (l2 + q2 11 0)) <|
stg (ur q2 10 0 (l2 + q2 11 0)) fun q6 =>
stg (ur q6 8 0 1) fun q9 =>
H_4_beginSteps_97 pg hs fuel9 l2 0 q9
def H_4_beginSteps_39 (pg hs : Rst) (l1 s0 : Int) (q : Rst) : Option G2 :=
if l1 = 0 then (
H_4_beginSteps_65 pg hs s0 1 q)
else
chk9 (0 ≤ q 9 0 ∧ q 9 0 < 12) <|
H_4_beginSteps_65 pg hs s0 (if 3 < pg 1 (q 9 0) then 3 else pg 1 (q 9 0)) q
def H_4_beginSteps_21 (pg hs : Rst) (s0 : Int) (q : Rst) : Option G2 :=
if s0 = 0 then (
H_4_beginSteps_39 pg hs s0 (q 9 0) q)
else
chk9 (iR (q 9 0 + 1)) <|
H_4_beginSteps_39 pg hs s0 (q 9 0 + 1) q
def H_4_beginSteps_0 (pg hs : Rst) (q : Rst) : Option G2 :=
chk9 (0 ≤ q 9 0 ∧ q 9 0 < 12) <|
if pg 0 (q 9 0) = 4 then (
H_4_beginSteps_21 pg hs 1 q)
else
H_4_beginSteps_21 pg hs 0 q
def H_4_beginSteps (pg hs : Rst) (q : Rst) : Option G2 := H_4_beginSteps_0 pg hs q
def H_4_goOn_197 (pg hs : Rst) (k6 : Int → Rst → Option G2) (l1 : Int) (q : Rst) : Option G2 :=
cag (H_4_settle pg hs q) fun _ q1 =>
chk9 (iR (l1 + 1)) <|
k6 (l1 + 1) q1
def H_4_goOn_92 (pg hs : Rst) (k6 : Int → Rst → Option G2) (l1 : Int) (q : Rst) : Option G2 :=
cag (H_4_finish pg hs 21 (q 2 0) q) fun _ q1 =>
H_4_goOn_197 pg hs k6 l1 q1
def H_4_goOn_71 (pg hs : Rst) (k6 : Int → Rst → Option G2) (l1 : Int) (q : Rst) : Option G2 :=
if q 9 0 < 0 then (
H_4_goOn_92 pg hs k6 l1 q)
else
if q 9 0 < pg 3 0 then (
if l1 < 60 then (
chk9 (iR (q 12 0 - 1)) <|
stg (ur q 12 0 (if 0 < (q 12 0 - 1) then (q 12 0 - 1) else 0)) fun q2 =>
chk9 (0 ≤ q2 9 0 ∧ q2 9 0 < 12) <|
if pg 0 (q2 9 0) ≤ 4 then (
cag (H_4_beginSteps pg hs q2) fun _ q7 =>
H_4_goOn_197 pg hs k6 l1 q7)
else
chk9 (0 ≤ q2 9 0 ∧ q2 9 0 < 12) <|
chk9 (0 ≤ q2 9 0 ∧ q2 9 0 < 12) <|
chk9 (0 ≤ q2 9 0 ∧ q2 9 0 < 12) <|
cag (H_4_goThrough pg hs (pg 0 (q2 9 0)) (pg 1 (q2 9 0)) (pg 2 (q2 9 0)) q2) fun _ q17 =>
H_4_goOn_197 pg hs k6 l1 q17)
else
cag (H_4_backOut pg hs 9 q) fun _ q21 =>
H_4_goOn_197 pg hs k6 l1 q21)
else
H_4_goOn_92 pg hs k6 l1 q
def H_4_goOn_32 (pg hs : Rst) (k6 : Int → Rst → Option G2) (l1 s0 : Int) (q : Rst) : Option G2 :=
chk9 ((s0 = 0 ∨ s0 = 1)) <|
stg (ur q 13 0 s0) fun q2 =>
if q2 8 0 = 2 then (
cag (H_4_undoNext pg hs q2) fun _ q9 =>
H_4_goOn_197 pg hs k6 l1 q9)
else
if q2 14 0 = 0 then (
H_4_goOn_71 pg hs k6 l1 q2)
else
if q2 13 0 = 0 then (
cag (H_4_cut pg hs q2) fun _ q5 =>
H_4_goOn_197 pg hs k6 l1 q5)
else
H_4_goOn_71 pg hs k6 l1 q2
def H_4_goOn_6 (pg hs : Rst) : Nat → Int → Rst → Option G2
  | 0, _, _ => none
  | n + 1, l1, q => (
if 61 < l1 then (
some (0, q))
else
cag (H_4_isMoving pg hs q) fun v2 q1 =>
if v2 = 0 then (
some (0, q1))
else
if q1 12 0 ≤ 0 then (
H_4_goOn_32 pg hs (H_4_goOn_6 pg hs n) l1 0 q1)
else
H_4_goOn_32 pg hs (H_4_goOn_6 pg hs n) l1 1 q1)
def H_4_goOn_0 (pg hs : Rst) (q : Rst) : Option G2 :=
cag (H_4_settle pg hs q) fun _ q1 =>
H_4_goOn_6 pg hs fuel9 0 q1
def H_4_goOn (pg hs : Rst) (q : Rst) : Option G2 := H_4_goOn_0 pg hs q
def H_4_play_122 (pg hs : Rst) (q : Rst) : Option G2 :=
if q 38 0 = 0 then (
some (1, q))
else
some (0, q)
def H_4_play_84 (pg hs : Rst) (k10 : Int → Int → Rst → Option G2) (l4 l5 l6 : Int) (q : Rst) : Option G2 :=
chk9 (iR (l5 + 1)) <|
stg (ur q 18 0 (l5 + 1)) fun q2 =>
chk9 (0 ≤ l5 ∧ l5 < 80) <|
chk9 (0 ≤ l5 ∧ l5 < 80) <|
cag (H_4_hear pg hs l6 (hs 1 l5) (hs 2 l5) q2) fun _ q9 =>
cag (H_4_goOn pg hs q9) fun _ q13 =>
chk9 (iR (l5 + 1)) <|
k10 l4 (l5 + 1) q13
def H_4_play_10 (pg hs : Rst) (k122 : Rst → Option G2) : Nat → Int → Int → Rst → Option G2
  | 0, _, _, _ => none
  | n + 1, l4, l5, q => (
if hs 3 0 ≤ l5 then (
k122 q)
else
if 80 ≤ l5 then (
k122 q)
else
if q 38 0 = 0 then (
chk9 (0 ≤ l5 ∧ l5 < 80) <|
if hs 0 l5 = 7 then (
cag (H_1_closePart pg hs q) fun _ q5 =>
chk9 (iR (l5 + 1)) <|
H_4_play_10 pg hs k122 n l4 (l5 + 1) q5)
else
if 7 ≤ hs 0 l5 then (
chk9 (iR (l5 + 1)) <|
H_4_play_10 pg hs k122 n l4 (l5 + 1) q)
else
if q 37 0 = 0 then (
if l4 = 0 then (
chk9 (iR (l5 + 1)) <|
H_4_play_10 pg hs k122 n l4 (l5 + 1) q)
else
H_4_play_84 pg hs (H_4_play_10 pg hs k122 n) l4 l5 (hs 0 l5) q)
else
H_4_play_84 pg hs (H_4_play_10 pg hs k122 n) l4 l5 (hs 0 l5) q)
else
k122 q)
end
