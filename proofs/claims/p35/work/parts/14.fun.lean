/-! the methods as functions over the small memory, printed by wip/whole/gen.py out of the task's listing -/
noncomputable section
def X3_put_0 (l0 l1 l2 l3 : Int) (m : Mem) : Option R2 :=
chk9 (0 < l0) <|
if 80 ≤ m l0 3 then (
some (0, m))
else
chk9 (0 < m l0 0 ∧ 0 ≤ m l0 3 ∧ m l0 3 < 80) <|
st9 (upd9 m (m l0 0) (m l0 3) l1) fun m6 =>
chk9 (0 < m6 l0 1 ∧ 0 ≤ m6 l0 3 ∧ m6 l0 3 < 80) <|
st9 (upd9 m6 (m6 l0 1) (m6 l0 3) l2) fun m10 =>
chk9 (0 < m10 l0 2 ∧ 0 ≤ m10 l0 3 ∧ m10 l0 3 < 80) <|
st9 (upd9 m10 (m10 l0 2) (m10 l0 3) l3) fun m14 =>
chk9 (iR (m14 l0 3 + 1)) <|
st9 (upd9 m14 l0 3 (m14 l0 3 + 1)) fun m16 =>
some (0, m16)
def X3_put (a0 a1 a2 a3 : Int) (m : Mem) : Option R2 := X3_put_0 a0 a1 a2 a3 m
def X7_happen_0 (l0 l1 l2 l3 : Int) (m : Mem) : Option R2 :=
chk9 (0 < l0) <|
if m l0 7 = 20 then (
chk9 (0 < m l0 0) <|
if m (m l0 0) 3 < 78 then (
cal (X3_put (m l0 0) l1 l2 l3 m) fun _ m6 =>
some (1, m6))
else
some (0, m))
else
some (0, m)
def X7_happen (a0 a1 a2 a3 : Int) (m : Mem) : Option R2 := boolR (X7_happen_0 a0 a1 a2 a3 m)
def X7_askCancel_0 (l0 : Int) (m : Mem) : Option R2 :=
chk9 (0 < l0) <|
if m l0 10 = 0 then (
cal (X7_happen l0 6 0 0 m) fun v3 m4 =>
if v3 = 0 then (
some (0, m4))
else
st9 (upd9 m4 l0 10 1) fun m7 =>
some (1, m7))
else
some (0, m)
def X7_askCancel (a0 : Int) (m : Mem) : Option R2 := boolR (X7_askCancel_0 a0 m)
def X7_stop_0 (l0 l1 : Int) (m : Mem) : Option R2 :=
chk9 (0 < l0) <|
st9 (upd9 m l0 7 l1) fun m2 =>
st9 (upd9 m2 l0 9 (-1)) fun m3 =>
some (0, m3)
def X7_stop (a0 a1 : Int) (m : Mem) : Option R2 := X7_stop_0 a0 a1 m
def X11_leaveChild_16 (kr : Int → Int → Int → Mem → Option R2) (l0 l1 l2 : Int) (m : Mem) : Option R2 :=
chk9 (0 < l1) <|
if m l1 10 = 2 then (
if 10 ≤ l2 then (
some (0, m))
else
chk9 (0 < m l1 6) <|
cal (X7_stop (m l1 6) 24 m) fun _ m6 =>
chk9 (iR (l2 + 1)) <|
chk9 (0 < l0) <|
cal (kr l0 l1 (l2 + 1) m6) fun _ m11 =>
some (0, m11))
else
some (0, m)
def X11_leaveChild_0 (kr : Int → Int → Int → Mem → Option R2) (l0 l1 l2 : Int) (m : Mem) : Option R2 :=
chk9 (0 < l1) <|
if m l1 10 = 1 then (
chk9 (0 < m l1 6) <|
cal (X7_askCancel (m l1 6) m) fun v4 m5 =>
X11_leaveChild_16 kr l0 l1 l2 m5)
else
X11_leaveChild_16 kr l0 l1 l2 m
def X11_leaveChild (kr : Int → Int → Int → Mem → Option R2) (a0 a1 a2 : Int) (m : Mem) : Option R2 := X11_leaveChild_0 kr a0 a1 a2 m
def X0_init_0 (l0 l1 l2 l3 l4 : Int) (m : Mem) : Option R2 :=
chk9 (0 < l0) <|
st9 (upd9 m l0 6 0) fun m2 =>
chk9 (0 < l1) <|
st9 (upd9 m2 l0 0 (m2 l1 6)) fun m4 =>
chk9 (0 < m4 l0 0) <|
st9 (upd9 m4 l0 1 (m4 (m4 l0 0) 3)) fun m6 =>
st9 (upd9 m6 l0 2 l2) fun m7 =>
st9 (upd9 m7 l0 3 (m7 l1 2)) fun m8 =>
st9 (upd9 m8 l0 4 l3) fun m9 =>
chk9 (iR (1000 * m9 l1 0)) <|
chk9 (iR (100 * m9 l1 5)) <|
chk9 (iR ((1000 * m9 l1 0) + (100 * m9 l1 5))) <|
chk9 (iR (((1000 * m9 l1 0) + (100 * m9 l1 5)) + m9 l0 1)) <|
st9 (upd9 m9 l0 5 (((1000 * m9 l1 0) + (100 * m9 l1 5)) + m9 l0 1)) fun m14 =>
st9 (upd9 m14 l0 7 l4) fun m15 =>
some (0, m15)
def X0_init (a0 a1 a2 a3 a4 : Int) (m : Mem) : Option R2 := X0_init_0 a0 a1 a2 a3 a4 m
def X0_isReadyOn_0 (l0 l1 : Int) (m : Mem) : Option R2 :=
chk9 (0 < l0) <|
if m l0 6 = 0 then (
if m l0 2 = l1 then (
some (1, m))
else
some (0, m))
else
some (0, m)
def X0_isReadyOn (a0 a1 : Int) (m : Mem) : Option R2 := boolR (X0_isReadyOn_0 a0 a1 m)
def X0_lease_0 (l0 l1 : Int) (m : Mem) : Option R2 :=
chk9 (0 < l0) <|
st9 (upd9 m l0 6 1) fun m2 =>
st9 (upd9 m2 l0 8 l1) fun m3 =>
chk9 (iR (m3 l0 9 + 1)) <|
st9 (upd9 m3 l0 9 (m3 l0 9 + 1)) fun m5 =>
some (0, m5)
def X0_lease (a0 a1 : Int) (m : Mem) : Option R2 := X0_lease_0 a0 a1 m
def X0_wake_0 (l0 l1 : Int) (m : Mem) : Option R2 :=
chk9 (0 < l0) <|
if m l0 6 = 2 then (
if l1 < m l0 8 then (
some (0, m))
else
st9 (upd9 m l0 6 0) fun m4 =>
st9 (upd9 m4 l0 7 l1) fun m5 =>
some (0, m5))
else
some (0, m)
def X0_wake (a0 a1 : Int) (m : Mem) : Option R2 := X0_wake_0 a0 a1 m
def X3_init_0 (l0 : Int) (m : Mem) : Option R2 :=
chk9 (0 < l0) <|
vl9 (l0 + 1) fun i2 =>
chk9 (0 < i2 ∧ m (-1) i2 = 0) <|
st9 (alo9 m i2 100080 80) fun m5 =>
st9 (upd9 m5 l0 0 i2) fun m6 =>
vl9 (l0 + 2) fun i7 =>
chk9 (0 < i7 ∧ m6 (-1) i7 = 0) <|
st9 (alo9 m6 i7 100080 80) fun m10 =>
st9 (upd9 m10 l0 1 i7) fun m11 =>
vl9 (l0 + 3) fun i12 =>
chk9 (0 < i12 ∧ m11 (-1) i12 = 0) <|
st9 (alo9 m11 i12 100080 80) fun m15 =>
st9 (upd9 m15 l0 2 i12) fun m16 =>
some (0, m16)
def X3_init (a0 : Int) (m : Mem) : Option R2 := X3_init_0 a0 m
def X1_init_0 (l0 : Int) (m : Mem) : Option R2 :=
chk9 (0 < l0) <|
vl9 (l0 + 1) fun i2 =>
chk9 (0 < i2 ∧ m (-1) i2 = 0) <|
st9 (alo9 m i2 100080 80) fun m5 =>
st9 (upd9 m5 l0 0 i2) fun m6 =>
vl9 (l0 + 2) fun i7 =>
chk9 (0 < i7 ∧ m6 (-1) i7 = 0) <|
st9 (alo9 m6 i7 100080 80) fun m10 =>
st9 (upd9 m10 l0 1 i7) fun m11 =>
vl9 (l0 + 3) fun i12 =>
chk9 (0 < i12 ∧ m11 (-1) i12 = 0) <|
st9 (alo9 m11 i12 100080 80) fun m15 =>
st9 (upd9 m15 l0 2 i12) fun m16 =>
vl9 (l0 + 4) fun i17 =>
chk9 (0 < i17 ∧ m16 (-1) i17 = 0) <|
st9 (alo9 m16 i17 13 4) fun m20 =>
cal (X3_init i17 m20) fun _ m22 =>
st9 (upd9 m22 l0 9 i17) fun m24 =>
some (0, m24)
def X1_init (a0 : Int) (m : Mem) : Option R2 := X1_init_0 a0 m
def X1_lookAhead_74 : Nat → Int → Mem → Option R2
  | 0, _, _ => none
  | n + 1, l0, m => (
chk9 (0 < l0) <|
chk9 (0 < m l0 9) <|
if m (m l0 9) 3 ≤ m l0 11 then (
some (0, m))
else
if 80 ≤ m l0 11 then (
some (0, m))
else
chk9 (0 < m (m l0 9) 0 ∧ 0 ≤ m l0 11 ∧ m l0 11 < 80) <|
if m (m (m l0 9) 0) (m l0 11) ≤ 7 then (
some (0, m))
else
chk9 (iR (m l0 11 + 1)) <|
st9 (upd9 m l0 11 (m l0 11 + 1)) fun m10 =>
X1_lookAhead_74 n l0 m10)
def X1_lookAhead_56 (l0 l2 s0 s1 : Int) (m : Mem) : Option R2 :=
chk9 (0 < s1 ∧ (s0 = 0 ∨ s0 = 1)) <|
st9 (upd9 m s1 7 s0) fun m3 =>
chk9 (iR (l2 + 1)) <|
chk9 (0 < l0) <|
st9 (upd9 m3 l0 10 (l2 + 1)) fun m6 =>
st9 (upd9 m6 l0 11 (m6 l0 10)) fun m7 =>
X1_lookAhead_74 fuel9 l0 m7
def X1_lookAhead_39 (l0 l2 : Int) (m : Mem) : Option R2 :=
chk9 (0 < l0) <|
chk9 (0 < m l0 9) <|
if m (m l0 9) 3 ≤ l2 then (
X1_lookAhead_56 l0 l2 0 l0 m)
else
X1_lookAhead_56 l0 l2 1 l0 m
def X1_lookAhead_2 (k39 : Int → Int → Mem → Option R2) : Nat → Int → Int → Mem → Option R2
  | 0, _, _, _ => none
  | n + 1, l0, l2, m => (
chk9 (0 < l0) <|
chk9 (0 < m l0 9) <|
if m (m l0 9) 3 ≤ l2 then (
k39 l0 l2 m)
else
if 80 ≤ l2 then (
k39 l0 l2 m)
else
chk9 (0 < m (m l0 9) 0 ∧ 0 ≤ l2 ∧ l2 < 80) <|
if m (m (m l0 9) 0) l2 = 7 then (
k39 l0 l2 m)
else
chk9 (iR (l2 + 1)) <|
X1_lookAhead_2 k39 n l0 (l2 + 1) m)
def X1_lookAhead_0 (l0 l1 : Int) (m : Mem) : Option R2 :=
X1_lookAhead_2 (X1_lookAhead_39) fuel9 l0 l1 m
def X1_lookAhead (a0 a1 : Int) (m : Mem) : Option R2 := X1_lookAhead_0 a0 a1 m
def X1_begin_0 (l0 l1 : Int) (m : Mem) : Option R2 :=
chk9 (0 < l0) <|
st9 (upd9 m l0 9 l1) fun m2 =>
st9 (upd9 m2 l0 3 0) fun m3 =>
st9 (upd9 m3 l0 4 0) fun m4 =>
st9 (upd9 m4 l0 5 0) fun m5 =>
st9 (upd9 m5 l0 6 0) fun m6 =>
st9 (upd9 m6 l0 8 0) fun m7 =>
cal (X1_lookAhead l0 0 m7) fun _ m9 =>
some (0, m9)
def X1_begin (a0 a1 : Int) (m : Mem) : Option R2 := X1_begin_0 a0 a1 m
def X1_closePart_16 (l0 : Int) (m : Mem) : Option R2 :=
chk9 (0 < l0) <|
cal (X1_lookAhead l0 (m l0 11) m) fun _ m3 =>
some (0, m3)
def X1_closePart_0 (l0 : Int) (m : Mem) : Option R2 :=
chk9 (0 < l0) <|
if m l0 10 = m l0 11 then (
X1_closePart_16 l0 m)
else
st9 (upd9 m l0 8 1) fun m3 =>
X1_closePart_16 l0 m3
def X1_closePart (a0 : Int) (m : Mem) : Option R2 := X1_closePart_0 a0 m
def X1_isNextAgain_0 (l0 l1 l2 : Int) (m : Mem) : Option R2 :=
chk9 (0 < l0) <|
if m l0 7 = 0 then (
some (0, m))
else
if m l0 11 ≤ m l0 10 then (
some (0, m))
else
if 80 ≤ m l0 10 then (
some (0, m))
else
chk9 (0 < m l0 9) <|
chk9 (0 < m (m l0 9) 0 ∧ 0 ≤ m l0 10 ∧ m l0 10 < 80) <|
if m (m (m l0 9) 0) (m l0 10) = l1 then (
chk9 (0 < m (m l0 9) 1 ∧ 0 ≤ m l0 10 ∧ m l0 10 < 80) <|
if m (m (m l0 9) 1) (m l0 10) = l2 then (
some (1, m))
else
some (0, m))
else
some (0, m)
def X1_isNextAgain (a0 a1 a2 : Int) (m : Mem) : Option R2 := boolR (X1_isNextAgain_0 a0 a1 a2 m)
def X1_put_112 (l0 : Int) (m : Mem) : Option R2 :=
chk9 (0 < l0) <|
chk9 (iR (m l0 3 + 1)) <|
st9 (upd9 m l0 3 (m l0 3 + 1)) fun m3 =>
some (0, m3)
def X1_put_62 (l0 l1 l2 l3 s0 s1 s2 : Int) (m : Mem) : Option R2 :=
chk9 (iR (s1 + s0)) <|
chk9 (0 < s2) <|
st9 (upd9 m s2 6 (s1 + s0)) fun m3 =>
chk9 (0 < l0) <|
if m3 l0 7 = 0 then (
if 80 ≤ m3 l0 3 then (
X1_put_112 l0 m3)
else
chk9 (0 < m3 l0 0 ∧ 0 ≤ m3 l0 3 ∧ m3 l0 3 < 80) <|
st9 (upd9 m3 (m3 l0 0) (m3 l0 3) l1) fun m32 =>
chk9 (0 < m32 l0 1 ∧ 0 ≤ m32 l0 3 ∧ m32 l0 3 < 80) <|
st9 (upd9 m32 (m32 l0 1) (m32 l0 3) l2) fun m36 =>
chk9 (0 < m36 l0 2 ∧ 0 ≤ m36 l0 3 ∧ m36 l0 3 < 80) <|
st9 (upd9 m36 (m36 l0 2) (m36 l0 3) l3) fun m40 =>
X1_put_112 l0 m40)
else
if m3 l0 11 ≤ m3 l0 10 then (
st9 (upd9 m3 l0 8 1) fun m7 =>
some (0, m7))
else
if 80 ≤ m3 l0 10 then (
st9 (upd9 m3 l0 8 1) fun m9 =>
some (0, m9))
else
chk9 (0 < m3 l0 9) <|
chk9 (0 < m3 (m3 l0 9) 0 ∧ 0 ≤ m3 l0 10 ∧ m3 l0 10 < 80) <|
if m3 (m3 (m3 l0 9) 0) (m3 l0 10) = l1 then (
chk9 (0 < m3 (m3 l0 9) 1 ∧ 0 ≤ m3 l0 10 ∧ m3 l0 10 < 80) <|
if m3 (m3 (m3 l0 9) 1) (m3 l0 10) = l2 then (
chk9 (0 < m3 (m3 l0 9) 2 ∧ 0 ≤ m3 l0 10 ∧ m3 l0 10 < 80) <|
if m3 (m3 (m3 l0 9) 2) (m3 l0 10) = l3 then (
chk9 (iR (m3 l0 10 + 1)) <|
st9 (upd9 m3 l0 10 (m3 l0 10 + 1)) fun m27 =>
some (0, m27))
else
st9 (upd9 m3 l0 8 1) fun m25 =>
some (0, m25))
else
st9 (upd9 m3 l0 8 1) fun m20 =>
some (0, m20))
else
st9 (upd9 m3 l0 8 1) fun m15 =>
some (0, m15)
def X1_put_42 (l0 l1 l2 l3 s0 s1 s2 : Int) (m : Mem) : Option R2 :=
chk9 (iR (s1 + s0)) <|
chk9 (0 < s2) <|
st9 (upd9 m s2 5 (s1 + s0)) fun m3 =>
chk9 (0 < l0) <|
if l1 = 12 then (
X1_put_62 l0 l1 l2 l3 1 (m3 l0 6) l0 m3)
else
X1_put_62 l0 l1 l2 l3 0 (m3 l0 6) l0 m3
def X1_put_22 (l0 l1 l2 l3 s0 s1 s2 : Int) (m : Mem) : Option R2 :=
chk9 (iR (s1 + s0)) <|
chk9 (0 < s2) <|
st9 (upd9 m s2 4 (s1 + s0)) fun m3 =>
chk9 (0 < l0) <|
if l1 = 10 then (
X1_put_42 l0 l1 l2 l3 1 (m3 l0 5) l0 m3)
else
X1_put_42 l0 l1 l2 l3 0 (m3 l0 5) l0 m3
def X1_put_0 (l0 l1 l2 l3 : Int) (m : Mem) : Option R2 :=
chk9 (0 < l0) <|
if l1 = 8 then (
X1_put_22 l0 l1 l2 l3 1 (m l0 4) l0 m)
else
if l1 = 15 then (
X1_put_22 l0 l1 l2 l3 1 (m l0 4) l0 m)
else
X1_put_22 l0 l1 l2 l3 0 (m l0 4) l0 m
def X1_put (a0 a1 a2 a3 : Int) (m : Mem) : Option R2 := X1_put_0 a0 a1 a2 a3 m
def X1_failTooLong_0 (l0 : Int) (m : Mem) : Option R2 :=
chk9 (0 < l0) <|
st9 (upd9 m l0 3 0) fun m2 =>
cal (X1_put l0 16 22 8 m2) fun _ m4 =>
some (0, m4)
def X1_failTooLong (a0 : Int) (m : Mem) : Option R2 := X1_failTooLong_0 a0 m
def X5_init_0 (l0 : Int) (m : Mem) : Option R2 :=
chk9 (0 < l0) <|
vl9 (l0 + 1) fun i2 =>
chk9 (0 < i2 ∧ m (-1) i2 = 0) <|
st9 (alo9 m i2 100012 12) fun m5 =>
st9 (upd9 m5 l0 0 i2) fun m6 =>
vl9 (l0 + 2) fun i7 =>
chk9 (0 < i7 ∧ m6 (-1) i7 = 0) <|
st9 (alo9 m6 i7 100012 12) fun m10 =>
st9 (upd9 m10 l0 1 i7) fun m11 =>
vl9 (l0 + 3) fun i12 =>
chk9 (0 < i12 ∧ m11 (-1) i12 = 0) <|
st9 (alo9 m11 i12 100012 12) fun m15 =>
st9 (upd9 m15 l0 2 i12) fun m16 =>
some (0, m16)
def X5_init (a0 : Int) (m : Mem) : Option R2 := X5_init_0 a0 m
def X2_init_0 (l0 : Int) (m : Mem) : Option R2 :=
chk9 (0 < l0) <|
vl9 (l0 + 1) fun i2 =>
chk9 (0 < i2 ∧ m (-1) i2 = 0) <|
st9 (alo9 m i2 405004 4) fun m5 =>
st9 (upd9 m5 l0 0 i2) fun m6 =>
vl9 (l0 + 10) fun i7 =>
chk9 (0 < i7 ∧ m6 (-1) i7 = 0) <|
st9 (alo9 m6 i7 15 4) fun m10 =>
cal (X5_init i7 m10) fun _ m12 =>
st9 (upd9 m12 l0 2 i7) fun m14 =>
some (0, m14)
def X2_init (a0 : Int) (m : Mem) : Option R2 := X2_init_0 a0 m
def X2_releaseTold_0 (l0 : Int) (m : Mem) : Option R2 :=
chk9 (0 < l0) <|
if 4 ≤ m l0 1 then (
some (0, m))
else
chk9 (0 < m l0 0 ∧ 0 ≤ m l0 1 ∧ m l0 1 < 4 ∧ 0 < m l0 2) <|
st9 (upd9 m (m l0 0) (m l0 1) (m l0 2)) fun m7 =>
chk9 (iR (m7 l0 1 + 1)) <|
st9 (upd9 m7 l0 1 (m7 l0 1 + 1)) fun m9 =>
vl9 (l0 + 10 * (m9 l0 1 + 1)) fun i10 =>
chk9 (0 < i10 ∧ m9 (-1) i10 = 0) <|
st9 (alo9 m9 i10 15 4) fun m13 =>
cal (X5_init i10 m13) fun _ m15 =>
st9 (upd9 m15 l0 2 i10) fun m17 =>
some (0, m17)
def X2_releaseTold (a0 : Int) (m : Mem) : Option R2 := X2_releaseTold_0 a0 m
def X8_init_0 (l0 : Int) (m : Mem) : Option R2 :=
chk9 (0 < l0) <|
some (0, m)
def X8_init (a0 : Int) (m : Mem) : Option R2 := X8_init_0 a0 m
def X4_init_60 : Nat → Int → Int → Mem → Option R2
  | 0, _, _, _ => none
  | n + 1, l0, l1, m => (
if 3 ≤ l1 then (
some (0, m))
else
chk9 (0 < l0) <|
vl9 (l0 + 30 + l1) fun i3 =>
chk9 (0 < i3 ∧ m (-1) i3 = 0) <|
st9 (alo9 m i3 18 8) fun m6 =>
cal (X8_init i3 m6) fun _ m8 =>
chk9 (0 < m l0 3 ∧ 0 ≤ l1 ∧ l1 < 3) <|
st9 (upd9 m8 (m l0 3) l1 i3) fun m13 =>
chk9 (iR (l1 + 1)) <|
X4_init_60 n l0 (l1 + 1) m13)
def X4_init_0 (l0 : Int) (m : Mem) : Option R2 :=
chk9 (0 < l0) <|
vl9 (l0 + 1) fun i2 =>
chk9 (0 < i2 ∧ m (-1) i2 = 0) <|
st9 (alo9 m i2 11 12) fun m5 =>
cal (X1_init i2 m5) fun _ m7 =>
st9 (upd9 m7 l0 0 i2) fun m9 =>
vl9 (l0 + 10) fun i10 =>
chk9 (0 < i10 ∧ m9 (-1) i10 = 0) <|
st9 (alo9 m9 i10 200080 80) fun m13 =>
st9 (upd9 m13 l0 1 i10) fun m14 =>
vl9 (l0 + 11) fun i15 =>
chk9 (0 < i15 ∧ m14 (-1) i15 = 0) <|
st9 (alo9 m14 i15 408003 3) fun m18 =>
st9 (upd9 m18 l0 3 i15) fun m19 =>
vl9 (l0 + 12) fun i20 =>
chk9 (0 < i20 ∧ m19 (-1) i20 = 0) <|
st9 (alo9 m19 i20 100080 80) fun m23 =>
st9 (upd9 m23 l0 4 i20) fun m24 =>
vl9 (l0 + 13) fun i25 =>
chk9 (0 < i25 ∧ m24 (-1) i25 = 0) <|
st9 (alo9 m24 i25 100080 80) fun m28 =>
st9 (upd9 m28 l0 5 i25) fun m29 =>
vl9 (l0 + 20) fun i30 =>
chk9 (0 < i30 ∧ m29 (-1) i30 = 0) <|
st9 (alo9 m29 i30 15 4) fun m33 =>
cal (X5_init i30 m33) fun _ m35 =>
st9 (upd9 m35 l0 7 i30) fun m37 =>
X4_init_60 fuel9 l0 0 m37
def X4_init (a0 : Int) (m : Mem) : Option R2 := X4_init_0 a0 m
def X4_isOver_0 (l0 : Int) (m : Mem) : Option R2 :=
chk9 (0 < l0) <|
if m l0 9 = 4 then (
some (1, m))
else
some (0, m)
def X4_isOver (a0 : Int) (m : Mem) : Option R2 := boolR (X4_isOver_0 a0 m)
def X4_waitingPlace_0 (l0 : Int) (m : Mem) : Option R2 :=
chk9 (0 < l0) <|
if m l0 9 = 1 then (
some (m l0 10, m))
else
some ((-1), m)
def X4_waitingPlace (a0 : Int) (m : Mem) : Option R2 := X4_waitingPlace_0 a0 m
def X4_begin_42 (l0 : Int) (m : Mem) : Option R2 :=
chk9 (0 < l0) <|
st9 (upd9 m l0 2 0) fun m2 =>
st9 (upd9 m2 l0 6 0) fun m3 =>
st9 (upd9 m3 l0 9 0) fun m4 =>
st9 (upd9 m4 l0 10 0) fun m5 =>
st9 (upd9 m5 l0 11 0) fun m6 =>
st9 (upd9 m6 l0 12 0) fun m7 =>
st9 (upd9 m7 l0 13 0) fun m8 =>
st9 (upd9 m8 l0 14 0) fun m9 =>
st9 (upd9 m9 l0 15 0) fun m10 =>
st9 (upd9 m10 l0 16 0) fun m11 =>
st9 (upd9 m11 l0 17 (-1)) fun m12 =>
st9 (upd9 m12 l0 18 0) fun m13 =>
st9 (upd9 m13 l0 19 0) fun m14 =>
some (0, m14)
def X4_begin_21 (k42 : Int → Mem → Option R2) : Nat → Int → Int → Mem → Option R2
  | 0, _, _, _ => none
  | n + 1, l0, l4, m => (
if 80 ≤ l4 then (
k42 l0 m)
else
chk9 (0 < l0) <|
chk9 (0 < m l0 1 ∧ 0 ≤ l4 ∧ l4 < 80) <|
st9 (upd9 m (m l0 1) l4 0) fun m6 =>
chk9 (iR (l4 + 1)) <|
X4_begin_21 k42 n l0 (l4 + 1) m6)
def X4_begin_0 (l0 l1 l2 l3 : Int) (m : Mem) : Option R2 :=
chk9 (0 < l0) <|
st9 (upd9 m l0 7 l1) fun m2 =>
st9 (upd9 m2 l0 8 l3) fun m3 =>
chk9 (0 < m3 l0 0) <|
cal (X1_begin (m3 l0 0) l2 m3) fun _ m6 =>
X4_begin_21 (X4_begin_42) fuel9 l0 0 m6
def X4_begin (a0 a1 a2 a3 : Int) (m : Mem) : Option R2 := X4_begin_0 a0 a1 a2 a3 m
def X8_become_0 (l0 l1 l2 : Int) (m : Mem) : Option R2 :=
chk9 (0 < l0) <|
st9 (upd9 m l0 5 l1) fun m2 =>
st9 (upd9 m2 l0 6 1) fun m3 =>
chk9 ((l2 = 0 ∨ l2 = 1)) <|
st9 (upd9 m3 l0 7 l2) fun m5 =>
some (0, m5)
def X8_become (a0 a1 a2 : Int) (m : Mem) : Option R2 := X8_become_0 a0 a1 a2 m
def X4_hearActivity_24 : Nat → Int → Int → Int → Int → Int → Mem → Option R2
  | 0, _, _, _, _, _, _ => none
  | n + 1, l0, l1, l2, l3, l4, m => (
chk9 (0 < l0) <|
if m l0 12 ≤ l4 then (
some (0, m))
else
chk9 (0 < m l0 3 ∧ 0 ≤ l4 ∧ l4 < 3) <|
chk9 (0 < m (m l0 3) l4) <|
if m (m (m l0 3) l4) 1 = l1 then (
chk9 (0 ≤ l4 ∧ l4 < 3) <|
cal (X8_become (m (m l0 3) l4) l2 l3 m) fun _ m12 =>
chk9 (iR (l4 + 1)) <|
X4_hearActivity_24 n l0 l1 l2 l3 (l4 + 1) m12)
else
chk9 (iR (l4 + 1)) <|
X4_hearActivity_24 n l0 l1 l2 l3 (l4 + 1) m)
def X4_hearActivity_0 (l0 l1 l2 l3 : Int) (m : Mem) : Option R2 :=
chk9 (0 < l0) <|
if m l0 9 = 3 then (
if l1 = m l0 17 then (
st9 (upd9 m l0 9 2) fun m4 =>
X4_hearActivity_24 fuel9 l0 l1 l2 l3 0 m4)
else
X4_hearActivity_24 fuel9 l0 l1 l2 l3 0 m)
else
X4_hearActivity_24 fuel9 l0 l1 l2 l3 0 m
def X4_hearActivity (a0 a1 a2 a3 : Int) (m : Mem) : Option R2 := X4_hearActivity_0 a0 a1 a2 a3 m
def X4_hearTimer_2 : Nat → Int → Int → Int → Mem → Option R2
  | 0, _, _, _, _ => none
  | n + 1, l0, l1, l2, m => (
chk9 (0 < l0) <|
if m l0 12 ≤ l2 then (
some (0, m))
else
chk9 (0 < m l0 3 ∧ 0 ≤ l2 ∧ l2 < 3) <|
chk9 (0 < m (m l0 3) l2) <|
if m (m (m l0 3) l2) 2 = l1 then (
chk9 (0 ≤ l2 ∧ l2 < 3) <|
if m (m (m l0 3) l2) 6 = 0 then (
chk9 (0 ≤ l2 ∧ l2 < 3) <|
cal (X8_become (m (m l0 3) l2) (-1) 0 m) fun _ m16 =>
chk9 (iR (l2 + 1)) <|
X4_hearTimer_2 n l0 l1 (l2 + 1) m16)
else
chk9 (iR (l2 + 1)) <|
X4_hearTimer_2 n l0 l1 (l2 + 1) m)
else
chk9 (iR (l2 + 1)) <|
X4_hearTimer_2 n l0 l1 (l2 + 1) m)
def X4_hearTimer_0 (l0 l1 : Int) (m : Mem) : Option R2 :=
X4_hearTimer_2 fuel9 l0 l1 0 m
def X4_hearTimer (a0 a1 : Int) (m : Mem) : Option R2 := X4_hearTimer_0 a0 a1 m
def X4_noteTaken_0 (l0 l1 : Int) (m : Mem) : Option R2 :=
if l1 < 0 then (
some (0, m))
else
if 80 ≤ l1 then (
some (0, m))
else
chk9 (0 < l0) <|
chk9 (0 < m l0 1 ∧ 0 ≤ l1 ∧ l1 < 80) <|
st9 (upd9 m (m l0 1) l1 1) fun m7 =>
some (0, m7)
def X4_noteTaken (a0 a1 : Int) (m : Mem) : Option R2 := X4_noteTaken_0 a0 a1 m
def X4_hearSignal_35 (l0 l2 l4 : Int) (m : Mem) : Option R2 :=
chk9 (0 < l4) <|
cal (X8_become l4 l2 0 m) fun _ m3 =>
chk9 (0 < l0) <|
chk9 (iR (m3 l0 19 - 1)) <|
cal (X4_noteTaken l0 (m3 l0 19 - 1) m3) fun _ m8 =>
if m8 l4 2 = (-1) then (
some (0, m8))
else
chk9 (0 < m8 l0 0) <|
cal (X1_put (m8 l0 0) 11 (m8 l4 2) 0 m8) fun _ m13 =>
some (0, m13)
def X4_hearSignal_2 (k35 : Int → Int → Int → Mem → Option R2) : Nat → Int → Int → Int → Int → Mem → Option R2
  | 0, _, _, _, _, _ => none
  | n + 1, l0, l1, l2, l3, m => (
chk9 (0 < l0) <|
if m l0 12 ≤ l3 then (
some (0, m))
else
chk9 (0 < m l0 3 ∧ 0 ≤ l3 ∧ l3 < 3) <|
chk9 (0 < m (m l0 3) l3) <|
if m (m (m l0 3) l3) 4 = l1 then (
if m (m (m l0 3) l3) 6 = 0 then (
k35 l0 l2 (m (m l0 3) l3) m)
else
chk9 (iR (l3 + 1)) <|
X4_hearSignal_2 k35 n l0 l1 l2 (l3 + 1) m)
else
chk9 (iR (l3 + 1)) <|
X4_hearSignal_2 k35 n l0 l1 l2 (l3 + 1) m)
def X4_hearSignal_0 (l0 l1 l2 : Int) (m : Mem) : Option R2 :=
X4_hearSignal_2 (X4_hearSignal_35) fuel9 l0 l1 l2 0 m
def X4_hearSignal (a0 a1 a2 : Int) (m : Mem) : Option R2 := X4_hearSignal_0 a0 a1 a2 m
def X4_hearChild_2 : Nat → Int → Int → Int → Int → Mem → Option R2
  | 0, _, _, _, _, _ => none
  | n + 1, l0, l1, l2, l3, m => (
chk9 (0 < l0) <|
if m l0 12 ≤ l3 then (
some (0, m))
else
chk9 (0 < m l0 3 ∧ 0 ≤ l3 ∧ l3 < 3) <|
chk9 (0 < m (m l0 3) l3) <|
if m (m (m l0 3) l3) 3 = l1 then (
chk9 (0 ≤ l3 ∧ l3 < 3) <|
cal (X8_become (m (m l0 3) l3) l2 0 m) fun _ m12 =>
chk9 (iR (l3 + 1)) <|
X4_hearChild_2 n l0 l1 l2 (l3 + 1) m12)
else
chk9 (iR (l3 + 1)) <|
X4_hearChild_2 n l0 l1 l2 (l3 + 1) m)
def X4_hearChild_0 (l0 l1 l2 : Int) (m : Mem) : Option R2 :=
X4_hearChild_2 fuel9 l0 l1 l2 0 m
def X4_hearChild (a0 a1 a2 : Int) (m : Mem) : Option R2 := X4_hearChild_0 a0 a1 a2 m
def X4_backOut_0 (l0 l1 : Int) (m : Mem) : Option R2 :=
chk9 (0 < l0) <|
st9 (upd9 m l0 18 l1) fun m2 =>
st9 (upd9 m2 l0 12 0) fun m3 =>
st9 (upd9 m3 l0 9 2) fun m4 =>
some (0, m4)
def X4_backOut (a0 a1 : Int) (m : Mem) : Option R2 := X4_backOut_0 a0 a1 m
def X4_cut_120 (l0 : Int) (m : Mem) : Option R2 :=
chk9 (0 < l0) <|
cal (X4_backOut l0 0 m) fun _ m3 =>
some (0, m3)
def X4_cut_62 (k120 : Int → Mem → Option R2) : Nat → Int → Int → Mem → Option R2
  | 0, _, _, _ => none
  | n + 1, l0, l1, m => (
chk9 (0 < l0) <|
if m l0 12 ≤ l1 then (
k120 l0 m)
else
chk9 (0 < m l0 3 ∧ 0 ≤ l1 ∧ l1 < 3) <|
chk9 (0 < m (m l0 3) l1) <|
if m (m (m l0 3) l1) 2 = (-1) then (
chk9 (iR (l1 + 1)) <|
X4_cut_62 k120 n l0 (l1 + 1) m)
else
chk9 (0 ≤ l1 ∧ l1 < 3) <|
if m (m (m l0 3) l1) 6 = 0 then (
chk9 (0 ≤ l1 ∧ l1 < 3) <|
chk9 (0 < m l0 0) <|
cal (X1_put (m l0 0) 11 (m (m (m l0 3) l1) 2) 0 m) fun _ m17 =>
chk9 (iR (l1 + 1)) <|
X4_cut_62 k120 n l0 (l1 + 1) m17)
else
chk9 (iR (l1 + 1)) <|
X4_cut_62 k120 n l0 (l1 + 1) m)
def X4_cut_2 (k62 : Int → Int → Mem → Option R2) : Nat → Int → Int → Mem → Option R2
  | 0, _, _, _ => none
  | n + 1, l0, l1, m => (
chk9 (0 < l0) <|
if m l0 12 ≤ l1 then (
k62 l0 0 m)
else
chk9 (0 < m l0 3 ∧ 0 ≤ l1 ∧ l1 < 3) <|
chk9 (0 < m (m l0 3) l1) <|
if m (m (m l0 3) l1) 1 = (-1) then (
chk9 (iR (l1 + 1)) <|
X4_cut_2 k62 n l0 (l1 + 1) m)
else
chk9 (0 ≤ l1 ∧ l1 < 3) <|
if m (m (m l0 3) l1) 6 = 0 then (
chk9 (0 ≤ l1 ∧ l1 < 3) <|
chk9 (0 < m l0 0) <|
cal (X1_put (m l0 0) 9 (m (m (m l0 3) l1) 1) 0 m) fun _ m17 =>
chk9 (iR (l1 + 1)) <|
X4_cut_2 k62 n l0 (l1 + 1) m17)
else
chk9 (iR (l1 + 1)) <|
X4_cut_2 k62 n l0 (l1 + 1) m)
def X4_cut_0 (l0 : Int) (m : Mem) : Option R2 :=
X4_cut_2 (X4_cut_62 (X4_cut_120) fuel9) fuel9 l0 0 m
def X4_cut (a0 : Int) (m : Mem) : Option R2 := X4_cut_0 a0 m
def X4_hearCancel_0 (l0 : Int) (m : Mem) : Option R2 :=
chk9 (0 < l0) <|
if m l0 9 = 1 then (
st9 (upd9 m l0 15 1) fun m3 =>
if m3 l0 14 = 0 then (
cal (X4_cut l0 m3) fun _ m6 =>
some (0, m6))
else
some (0, m3))
else
some (0, m)
def X4_hearCancel (a0 : Int) (m : Mem) : Option R2 := X4_hearCancel_0 a0 m
def X4_hear_65 (s0 s1 s2 s3 : Int) (m : Mem) : Option R2 :=
chk9 (0 < s3) <|
cal (X4_hearActivity s3 s2 s1 s0 m) fun _ m3 =>
some (0, m3)
def X4_hear_0 (l0 l1 l2 l3 : Int) (m : Mem) : Option R2 :=
if l1 = 0 then (
chk9 (0 < l0) <|
st9 (upd9 m l0 2 l2) fun m3 =>
some (0, m3))
else
if l1 = 1 then (
if l1 = 2 then (
X4_hear_65 1 l3 l2 l0 m)
else
X4_hear_65 0 l3 l2 l0 m)
else
if l1 = 2 then (
if l1 = 2 then (
X4_hear_65 1 l3 l2 l0 m)
else
X4_hear_65 0 l3 l2 l0 m)
else
if l1 = 3 then (
chk9 (0 < l0) <|
cal (X4_hearTimer l0 l2 m) fun _ m11 =>
some (0, m11))
else
if l1 = 4 then (
chk9 (0 < l0) <|
cal (X4_hearSignal l0 l2 l3 m) fun _ m16 =>
some (0, m16))
else
if l1 = 5 then (
chk9 (0 < l0) <|
cal (X4_hearChild l0 l2 l3 m) fun _ m21 =>
some (0, m21))
else
if l1 = 6 then (
chk9 (0 < l0) <|
cal (X4_hearCancel l0 m) fun _ m26 =>
some (0, m26))
else
some (0, m)
def X4_hear (a0 a1 a2 a3 : Int) (m : Mem) : Option R2 := X4_hear_0 a0 a1 a2 a3 m
def X4_settle_77 (l0 l1 l2 : Int) (m : Mem) : Option R2 :=
chk9 (0 < l0) <|
st9 (upd9 m l0 2 l2) fun m2 =>
if l1 = 0 then (
st9 (upd9 m2 l0 12 0) fun m4 =>
st9 (upd9 m4 l0 10 (m4 l0 11)) fun m5 =>
st9 (upd9 m5 l0 9 0) fun m6 =>
some (0, m6))
else
cal (X4_backOut l0 1 m2) fun _ m8 =>
some (0, m8)
def X4_settle_18 (k77 : Int → Int → Int → Mem → Option R2) : Nat → Int → Int → Int → Int → Mem → Option R2
  | 0, _, _, _, _, _ => none
  | n + 1, l0, l1, l2, l3, m => (
chk9 (0 < l0) <|
if m l0 12 ≤ l3 then (
k77 l0 l1 l2 m)
else
chk9 (0 < m l0 3 ∧ 0 ≤ l3 ∧ l3 < 3) <|
chk9 (0 < m (m l0 3) l3) <|
if m (m (m l0 3) l3) 6 = 0 then (
some (0, m))
else
if m (m (m l0 3) l3) 7 = 0 then (
if m (m (m l0 3) l3) 0 = 1 then (
chk9 (iR (l3 + 1)) <|
X4_settle_18 k77 n l0 l1 l2 (l3 + 1) m)
else
chk9 (iR (l3 + 1)) <|
X4_settle_18 k77 n l0 l1 (m (m (m l0 3) l3) 5) (l3 + 1) m)
else
chk9 (iR (l3 + 1)) <|
X4_settle_18 k77 n l0 1 l2 (l3 + 1) m)
def X4_settle_0 (l0 : Int) (m : Mem) : Option R2 :=
chk9 (0 < l0) <|
if m l0 9 = 1 then (
X4_settle_18 (X4_settle_77) fuel9 l0 0 (m l0 2) 0 m)
else
some (0, m)
def X4_settle (a0 : Int) (m : Mem) : Option R2 := X4_settle_0 a0 m
def X4_isMoving_0 (l0 : Int) (m : Mem) : Option R2 :=
chk9 (0 < l0) <|
chk9 (0 < m l0 0) <|
if m (m l0 0) 8 = 0 then (
if m l0 9 = 0 then (
some (1, m))
else
if m l0 9 = 2 then (
some (1, m))
else
some (0, m))
else
some (0, m)
def X4_isMoving (a0 : Int) (m : Mem) : Option R2 := boolR (X4_isMoving_0 a0 m)
def X4_finish_0 (l0 l1 l2 : Int) (m : Mem) : Option R2 :=
chk9 (0 < l0) <|
chk9 (0 < m l0 0) <|
cal (X1_put (m l0 0) 16 l1 l2 m) fun _ m4 =>
st9 (upd9 m4 l0 9 4) fun m6 =>
some (0, m6)
def X4_finish (a0 a1 a2 : Int) (m : Mem) : Option R2 := X4_finish_0 a0 a1 a2 m
def X4_undoNext_0 (l0 : Int) (m : Mem) : Option R2 :=
chk9 (0 < l0) <|
if m l0 16 ≤ 0 then (
if m l0 18 = 0 then (
cal (X4_finish l0 23 0 m) fun _ m8 =>
some (0, m8))
else
cal (X4_finish l0 22 (m l0 18) m) fun _ m5 =>
some (0, m5))
else
chk9 (iR (m l0 16 - 1)) <|
st9 (upd9 m l0 16 (m l0 16 - 1)) fun m11 =>
chk9 (0 ≤ m11 l0 16) <|
chk9 (0 < m11 l0 0) <|
st9 (upd9 m11 l0 17 (m11 (m11 l0 0) 4)) fun m14 =>
chk9 (0 < m14 l0 4 ∧ 0 ≤ (m11 l0 16 % 80) ∧ (m11 l0 16 % 80) < 80) <|
chk9 (0 < m14 l0 5 ∧ 0 ≤ (m11 l0 16 % 80) ∧ (m11 l0 16 % 80) < 80) <|
chk9 (0 < m14 l0 0) <|
cal (X1_put (m14 l0 0) 15 (m14 (m14 l0 4) (m11 l0 16 % 80)) (m14 (m14 l0 5) (m11 l0 16 % 80)) m14) fun _ m23 =>
st9 (upd9 m23 l0 9 3) fun m25 =>
some (0, m25)
def X4_undoNext (a0 : Int) (m : Mem) : Option R2 := X4_undoNext_0 a0 m
def X4_passesMark_40 (l0 l1 l2 : Int) (m : Mem) : Option R2 :=
chk9 (0 < l0) <|
st9 (upd9 m l0 6 ((Int32.ofInt (m l0 6) ||| Int32.ofInt l2).toInt)) fun m2 =>
chk9 (0 < m2 l0 0) <|
cal (X1_put (m2 l0 0) 13 l1 0 m2) fun _ m5 =>
some (1, m5)
def X4_passesMark_0 (l0 l1 : Int) (m : Mem) : Option R2 :=
chk9 (0 < l0) <|
if (Int32.ofInt (m l0 6) &&& Int32.ofInt ((Int32.ofInt 1 <<< (Int32.ofInt l1 &&& 31)).toInt)).toInt = 0 then (
chk9 (0 < m l0 0) <|
if m (m l0 0) 7 = 0 then (
X4_passesMark_40 l0 l1 ((Int32.ofInt 1 <<< (Int32.ofInt l1 &&& 31)).toInt) m)
else
cal (X1_isNextAgain (m l0 0) 13 l1 m) fun v5 m6 =>
if v5 = 0 then (
some (0, m6))
else
X4_passesMark_40 l0 l1 ((Int32.ofInt 1 <<< (Int32.ofInt l1 &&& 31)).toInt) m6)
else
some (1, m)
def X4_passesMark (a0 a1 : Int) (m : Mem) : Option R2 := boolR (X4_passesMark_0 a0 a1 m)
def X4_goAgain_0 (l0 : Int) (m : Mem) : Option R2 :=
chk9 (0 < l0) <|
if 9 ≤ m l0 8 then (
cal (X4_backOut l0 7 m) fun _ m4 =>
some (0, m4))
else
cal (X4_finish l0 14 (m l0 2) m) fun _ m7 =>
some (0, m7)
def X4_goAgain (a0 : Int) (m : Mem) : Option R2 := X4_goAgain_0 a0 m
def X4_note_148 (s0 s1 s2 s3 : Int) (m : Mem) : Option R2 :=
chk9 (0 < s3) <|
cal (X1_put s3 s2 s1 s0 m) fun _ m3 =>
some (0, m3)
def X4_note_0 (l0 l1 l2 l3 : Int) (m : Mem) : Option R2 :=
if l1 = 7 then (
chk9 (0 < l0) <|
st9 (upd9 m l0 2 l2) fun m3 =>
some (0, m3))
else
if l1 = 8 then (
chk9 (0 < l0) <|
chk9 (iR (m l0 2 + l2)) <|
st9 (upd9 m l0 2 (if (-999) < (if (m l0 2 + l2) < 999 then (m l0 2 + l2) else 999) then (if (m l0 2 + l2) < 999 then (m l0 2 + l2) else 999) else (-999))) fun m7 =>
some (0, m7))
else
if l1 = 9 then (
chk9 (0 < l0) <|
chk9 (0 ≤ m l0 16) <|
chk9 (0 < m l0 4 ∧ 0 ≤ (m l0 16 % 80) ∧ (m l0 16 % 80) < 80) <|
st9 (upd9 m (m l0 4) (m l0 16 % 80) l2) fun m14 =>
chk9 (0 ≤ m14 l0 16) <|
chk9 (0 < m14 l0 5 ∧ 0 ≤ (m14 l0 16 % 80) ∧ (m14 l0 16 % 80) < 80) <|
st9 (upd9 m14 (m14 l0 5) (m14 l0 16 % 80) l3) fun m19 =>
chk9 (iR (m19 l0 16 + 1)) <|
st9 (upd9 m19 l0 16 (m19 l0 16 + 1)) fun m21 =>
some (0, m21))
else
if l1 = 10 then (
some (0, m))
else
if l1 = 11 then (
chk9 (0 < l0) <|
st9 (upd9 m l0 13 (if m l0 13 < l2 then l2 else m l0 13)) fun m25 =>
some (0, m25))
else
if l1 = 12 then (
chk9 (0 < l0) <|
if l3 = 100 then (
X4_note_148 (m l0 2) l2 14 (m l0 0) m)
else
X4_note_148 l3 l2 14 (m l0 0) m)
else
some (0, m)
def X4_note (a0 a1 a2 a3 : Int) (m : Mem) : Option R2 := X4_note_0 a0 a1 a2 a3 m
def X4_goThrough_0 (l0 l1 l2 l3 : Int) (m : Mem) : Option R2 :=
chk9 (0 < l0) <|
chk9 (iR (m l0 10 + 1)) <|
if l1 = 5 then (
if l2 ≤ m l0 2 then (
st9 (upd9 m l0 10 (m l0 10 + 1)) fun m5 =>
some (0, m5))
else
chk9 (iR ((m l0 10 + 1) + l3)) <|
st9 (upd9 m l0 10 ((m l0 10 + 1) + l3)) fun m7 =>
some (0, m7))
else
if l1 = 6 then (
if l2 ≤ m l0 2 then (
st9 (upd9 m l0 10 (m l0 10 + 1)) fun m10 =>
some (0, m10))
else
chk9 (iR (m l0 10 - l3)) <|
st9 (upd9 m l0 10 (m l0 10 - l3)) fun m12 =>
some (0, m12))
else
if l1 = 7 then (
cal (X4_note l0 l1 l2 l3 m) fun _ m15 =>
st9 (upd9 m15 l0 10 (m l0 10 + 1)) fun m17 =>
some (0, m17))
else
if l1 = 8 then (
cal (X4_note l0 l1 l2 l3 m) fun _ m20 =>
st9 (upd9 m20 l0 10 (m l0 10 + 1)) fun m22 =>
some (0, m22))
else
if l1 = 9 then (
cal (X4_note l0 l1 l2 l3 m) fun _ m25 =>
st9 (upd9 m25 l0 10 (m l0 10 + 1)) fun m27 =>
some (0, m27))
else
if l1 = 10 then (
cal (X4_passesMark l0 l2 m) fun v29 m30 =>
if v29 = 0 then (
chk9 (iR ((m l0 10 + 1) + l3)) <|
st9 (upd9 m30 l0 10 ((m l0 10 + 1) + l3)) fun m34 =>
some (0, m34))
else
st9 (upd9 m30 l0 10 (m l0 10 + 1)) fun m35 =>
some (0, m35))
else
if l1 = 11 then (
cal (X4_note l0 l1 l2 l3 m) fun _ m38 =>
st9 (upd9 m38 l0 10 (m l0 10 + 1)) fun m40 =>
some (0, m40))
else
if l1 = 12 then (
cal (X4_note l0 l1 l2 l3 m) fun _ m43 =>
st9 (upd9 m43 l0 10 (m l0 10 + 1)) fun m45 =>
some (0, m45))
else
if l1 = 13 then (
cal (X4_backOut l0 l2 m) fun _ m48 =>
some (0, m48))
else
if l1 = 14 then (
cal (X4_goAgain l0 m) fun _ m52 =>
some (0, m52))
else
if l1 = 15 then (
cal (X4_finish l0 21 (m l0 2) m) fun _ m56 =>
some (0, m56))
else
cal (X4_note l0 l1 l2 l3 m) fun _ m59 =>
st9 (upd9 m59 l0 10 (m l0 10 + 1)) fun m61 =>
some (0, m61)
def X4_goThrough (a0 a1 a2 a3 : Int) (m : Mem) : Option R2 := X4_goThrough_0 a0 a1 a2 a3 m
def X8_clear_0 (l0 l1 : Int) (m : Mem) : Option R2 :=
chk9 (0 < l0) <|
st9 (upd9 m l0 0 l1) fun m2 =>
st9 (upd9 m2 l0 1 (-1)) fun m3 =>
st9 (upd9 m3 l0 2 (-1)) fun m4 =>
st9 (upd9 m4 l0 3 (-1)) fun m5 =>
st9 (upd9 m5 l0 4 (-1)) fun m6 =>
st9 (upd9 m6 l0 5 0) fun m7 =>
st9 (upd9 m7 l0 6 0) fun m8 =>
st9 (upd9 m8 l0 7 0) fun m9 =>
some (0, m9)
def X8_clear (a0 a1 : Int) (m : Mem) : Option R2 := X8_clear_0 a0 a1 m
def X4_beginWait_67 (l0 l1 l4 l5 : Int) (m : Mem) : Option R2 :=
chk9 (0 < l0) <|
cal (X4_noteTaken l0 l5 m) fun _ m3 =>
chk9 (0 < l4) <|
chk9 (0 < m3 l4 2 ∧ 0 ≤ l5 ∧ l5 < 80) <|
chk9 (0 < l1) <|
cal (X8_become l1 (m3 (m3 l4 2) l5) 0 m3) fun _ m11 =>
some (0, m11)
def X4_beginWait_93 (l0 l1 l3 : Int) (m : Mem) : Option R2 :=
if l3 ≤ 0 then (
some (0, m))
else
chk9 (0 < l0) <|
chk9 (0 < m l0 0) <|
chk9 (0 < l1) <|
st9 (upd9 m l1 2 (m (m l0 0) 5)) fun m5 =>
chk9 (0 < m5 l0 0) <|
cal (X1_put (m5 l0 0) 10 l3 0 m5) fun _ m8 =>
some (0, m8)
def X4_beginWait_17 (k67 : Int → Int → Int → Int → Mem → Option R2) (k93 : Int → Int → Int → Mem → Option R2) : Nat → Int → Int → Int → Int → Int → Int → Mem → Option R2
  | 0, _, _, _, _, _, _, _ => none
  | n + 1, l0, l1, l2, l3, l4, l5, m => (
chk9 (0 < l0) <|
if m l0 19 ≤ l5 then (
k93 l0 l1 l3 m)
else
if 80 ≤ l5 then (
k93 l0 l1 l3 m)
else
chk9 (0 < l4) <|
chk9 (0 < m l4 0 ∧ 0 ≤ l5 ∧ l5 < 80) <|
if m (m l4 0) l5 = 4 then (
chk9 (0 < m l4 1 ∧ 0 ≤ l5 ∧ l5 < 80) <|
if m (m l4 1) l5 = l2 then (
chk9 (0 < m l0 1 ∧ 0 ≤ l5 ∧ l5 < 80) <|
if m (m l0 1) l5 = 0 then (
k67 l0 l1 l4 l5 m)
else
chk9 (iR (l5 + 1)) <|
X4_beginWait_17 k67 k93 n l0 l1 l2 l3 l4 (l5 + 1) m)
else
chk9 (iR (l5 + 1)) <|
X4_beginWait_17 k67 k93 n l0 l1 l2 l3 l4 (l5 + 1) m)
else
chk9 (iR (l5 + 1)) <|
X4_beginWait_17 k67 k93 n l0 l1 l2 l3 l4 (l5 + 1) m)
def X4_beginWait_0 (l0 l1 l2 l3 : Int) (m : Mem) : Option R2 :=
chk9 (0 < l0) <|
chk9 (0 < m l0 0) <|
chk9 (0 < l1) <|
st9 (upd9 m l1 4 l2) fun m4 =>
X4_beginWait_17 (X4_beginWait_67) (X4_beginWait_93) fuel9 l0 l1 l2 l3 (m (m l0 0) 9) 0 m4
def X4_beginWait (a0 a1 a2 a3 : Int) (m : Mem) : Option R2 := X4_beginWait_0 a0 a1 a2 a3 m
def X4_beginStep_0 (l0 l1 l2 : Int) (m : Mem) : Option R2 :=
chk9 (0 < l0) <|
chk9 (0 < m l0 7) <|
chk9 (0 < m (m l0 7) 1 ∧ 0 ≤ l2 ∧ l2 < 12) <|
chk9 (0 < m (m l0 7) 2 ∧ 0 ≤ l2 ∧ l2 < 12) <|
chk9 (0 < m (m l0 7) 0 ∧ 0 ≤ l2 ∧ l2 < 12) <|
chk9 (0 < l1) <|
cal (X8_clear l1 (m (m (m l0 7) 0) l2) m) fun _ m14 =>
if m14 l1 0 = 0 then (
chk9 (0 < m14 l0 0) <|
st9 (upd9 m14 l1 1 (m14 (m14 l0 0) 4)) fun m18 =>
chk9 (0 < m18 l0 0) <|
cal (X1_put (m18 l0 0) 8 (m (m (m l0 7) 1) l2) (m (m (m l0 7) 2) l2) m18) fun _ m21 =>
some (0, m21))
else
if m14 l1 0 = 1 then (
chk9 (0 < m14 l0 0) <|
st9 (upd9 m14 l1 2 (m14 (m14 l0 0) 5)) fun m25 =>
chk9 (0 < m25 l0 0) <|
cal (X1_put (m25 l0 0) 10 (m (m (m l0 7) 1) l2) 0 m25) fun _ m28 =>
some (0, m28))
else
if m14 l1 0 = 2 then (
cal (X4_beginWait l0 l1 (m (m (m l0 7) 1) l2) (m (m (m l0 7) 2) l2) m14) fun _ m32 =>
some (0, m32))
else
if m14 l1 0 = 3 then (
chk9 (0 < m14 l0 0) <|
st9 (upd9 m14 l1 3 (m14 (m14 l0 0) 6)) fun m36 =>
chk9 (0 < m36 l0 0) <|
cal (X1_put (m36 l0 0) 12 (m (m (m l0 7) 1) l2) (m (m (m l0 7) 2) l2) m36) fun _ m39 =>
some (0, m39))
else
cal (X4_beginWait l0 l1 (m (m (m l0 7) 1) l2) (m (m (m l0 7) 2) l2) m14) fun _ m42 =>
some (0, m42)
def X4_beginStep (a0 a1 a2 : Int) (m : Mem) : Option R2 := X4_beginStep_0 a0 a1 a2 m
def X4_beginSteps_97 : Nat → Int → Int → Int → Mem → Option R2
  | 0, _, _, _, _ => none
  | n + 1, l0, l2, l3, m => (
chk9 (0 < l0) <|
if m l0 12 ≤ l3 then (
some (0, m))
else
chk9 (0 < m l0 3 ∧ 0 ≤ l3 ∧ l3 < 3) <|
chk9 (iR (l2 + l3)) <|
cal (X4_beginStep l0 (m (m l0 3) l3) (l2 + l3) m) fun _ m8 =>
chk9 (iR (l3 + 1)) <|
X4_beginSteps_97 n l0 l2 (l3 + 1) m8)
def X4_beginSteps_65 (l0 l2 s0 s1 : Int) (m : Mem) : Option R2 :=
chk9 (0 < l0) <|
chk9 (0 < m l0 7) <|
chk9 (iR (m (m l0 7) 3 - l2)) <|
chk9 (0 < s1) <|
st9 (upd9 m s1 12 (if (m (m l0 7) 3 - l2) < s0 then (m (m l0 7) 3 - l2) else s0)) fun m5 =>
chk9 (iR (l2 + m5 l0 12)) <|
st9 (upd9 m5 l0 11 (l2 + m5 l0 12)) fun m7 =>
st9 (upd9 m7 l0 9 1) fun m8 =>
X4_beginSteps_97 fuel9 l0 l2 0 m8
def X4_beginSteps_39 (l0 l1 s0 : Int) (m : Mem) : Option R2 :=
if l1 = 0 then (
X4_beginSteps_65 l0 s0 1 l0 m)
else
chk9 (0 < l0) <|
chk9 (0 < m l0 7) <|
chk9 (0 < m (m l0 7) 1 ∧ 0 ≤ m l0 10 ∧ m l0 10 < 12) <|
X4_beginSteps_65 l0 s0 (if 3 < m (m (m l0 7) 1) (m l0 10) then 3 else m (m (m l0 7) 1) (m l0 10)) l0 m
def X4_beginSteps_21 (l0 s0 : Int) (m : Mem) : Option R2 :=
if s0 = 0 then (
chk9 (0 < l0) <|
X4_beginSteps_39 l0 s0 (m l0 10) m)
else
chk9 (0 < l0) <|
chk9 (iR (m l0 10 + 1)) <|
X4_beginSteps_39 l0 s0 (m l0 10 + 1) m
def X4_beginSteps_0 (l0 : Int) (m : Mem) : Option R2 :=
chk9 (0 < l0) <|
chk9 (0 < m l0 7) <|
chk9 (0 < m (m l0 7) 0 ∧ 0 ≤ m l0 10 ∧ m l0 10 < 12) <|
if m (m (m l0 7) 0) (m l0 10) = 4 then (
X4_beginSteps_21 l0 1 m)
else
X4_beginSteps_21 l0 0 m
def X4_beginSteps (a0 : Int) (m : Mem) : Option R2 := X4_beginSteps_0 a0 m
def X4_goOn_197 (k6 : Int → Int → Mem → Option R2) (l0 l1 : Int) (m : Mem) : Option R2 :=
chk9 (0 < l0) <|
cal (X4_settle l0 m) fun _ m3 =>
chk9 (iR (l1 + 1)) <|
k6 l0 (l1 + 1) m3
def X4_goOn_92 (k6 : Int → Int → Mem → Option R2) (l0 l1 : Int) (m : Mem) : Option R2 :=
chk9 (0 < l0) <|
cal (X4_finish l0 21 (m l0 2) m) fun _ m3 =>
X4_goOn_197 k6 l0 l1 m3
def X4_goOn_71 (k6 : Int → Int → Mem → Option R2) (l0 l1 : Int) (m : Mem) : Option R2 :=
chk9 (0 < l0) <|
if m l0 10 < 0 then (
X4_goOn_92 k6 l0 l1 m)
else
chk9 (0 < m l0 7) <|
if m l0 10 < m (m l0 7) 3 then (
if l1 < 60 then (
chk9 (iR (m l0 13 - 1)) <|
st9 (upd9 m l0 13 (if 0 < (m l0 13 - 1) then (m l0 13 - 1) else 0)) fun m7 =>
chk9 (0 < m7 l0 7) <|
chk9 (0 < m7 (m7 l0 7) 0 ∧ 0 ≤ m7 l0 10 ∧ m7 l0 10 < 12) <|
if m7 (m7 (m7 l0 7) 0) (m7 l0 10) ≤ 4 then (
cal (X4_beginSteps l0 m7) fun _ m14 =>
X4_goOn_197 k6 l0 l1 m14)
else
chk9 (0 ≤ m7 l0 10 ∧ m7 l0 10 < 12) <|
chk9 (0 < m7 (m7 l0 7) 1 ∧ 0 ≤ m7 l0 10 ∧ m7 l0 10 < 12) <|
chk9 (0 < m7 (m7 l0 7) 2 ∧ 0 ≤ m7 l0 10 ∧ m7 l0 10 < 12) <|
cal (X4_goThrough l0 (m7 (m7 (m7 l0 7) 0) (m7 l0 10)) (m7 (m7 (m7 l0 7) 1) (m7 l0 10)) (m7 (m7 (m7 l0 7) 2) (m7 l0 10)) m7) fun _ m25 =>
X4_goOn_197 k6 l0 l1 m25)
else
cal (X4_backOut l0 9 m) fun _ m28 =>
X4_goOn_197 k6 l0 l1 m28)
else
X4_goOn_92 k6 l0 l1 m
def X4_goOn_32 (k6 : Int → Int → Mem → Option R2) (l0 l1 s0 s1 : Int) (m : Mem) : Option R2 :=
chk9 (0 < s1 ∧ (s0 = 0 ∨ s0 = 1)) <|
st9 (upd9 m s1 14 s0) fun m3 =>
chk9 (0 < l0) <|
if m3 l0 9 = 2 then (
cal (X4_undoNext l0 m3) fun _ m12 =>
X4_goOn_197 k6 l0 l1 m12)
else
if m3 l0 15 = 0 then (
X4_goOn_71 k6 l0 l1 m3)
else
if m3 l0 14 = 0 then (
cal (X4_cut l0 m3) fun _ m9 =>
X4_goOn_197 k6 l0 l1 m9)
else
X4_goOn_71 k6 l0 l1 m3
def X4_goOn_6 : Nat → Int → Int → Mem → Option R2
  | 0, _, _, _ => none
  | n + 1, l0, l1, m => (
if 61 < l1 then (
some (0, m))
else
chk9 (0 < l0) <|
cal (X4_isMoving l0 m) fun v3 m4 =>
if v3 = 0 then (
some (0, m4))
else
if m4 l0 13 ≤ 0 then (
X4_goOn_32 (X4_goOn_6 n) l0 l1 0 l0 m4)
else
X4_goOn_32 (X4_goOn_6 n) l0 l1 1 l0 m4)
def X4_goOn_0 (l0 : Int) (m : Mem) : Option R2 :=
chk9 (0 < l0) <|
cal (X4_settle l0 m) fun _ m3 =>
X4_goOn_6 fuel9 l0 0 m3
def X4_goOn (a0 : Int) (m : Mem) : Option R2 := X4_goOn_0 a0 m
def X4_play_122 (l0 : Int) (m : Mem) : Option R2 :=
chk9 (0 < l0) <|
chk9 (0 < m l0 0) <|
if m (m l0 0) 8 = 0 then (
some (1, m))
else
some (0, m)
def X4_play_84 (k10 : Int → Int → Int → Int → Mem → Option R2) (l0 l2 l4 l5 l6 : Int) (m : Mem) : Option R2 :=
chk9 (iR (l5 + 1)) <|
chk9 (0 < l0) <|
st9 (upd9 m l0 19 (l5 + 1)) fun m3 =>
chk9 (0 < l2) <|
chk9 (0 < m3 l2 1 ∧ 0 ≤ l5 ∧ l5 < 80) <|
chk9 (0 < m3 l2 2 ∧ 0 ≤ l5 ∧ l5 < 80) <|
cal (X4_hear l0 l6 (m3 (m3 l2 1) l5) (m3 (m3 l2 2) l5) m3) fun _ m12 =>
cal (X4_goOn l0 m12) fun _ m15 =>
chk9 (iR (l5 + 1)) <|
k10 l0 l2 l4 (l5 + 1) m15
def X4_play_10 (k122 : Int → Mem → Option R2) : Nat → Int → Int → Int → Int → Mem → Option R2
  | 0, _, _, _, _, _ => none
  | n + 1, l0, l2, l4, l5, m => (
chk9 (0 < l2) <|
if m l2 3 ≤ l5 then (
k122 l0 m)
else
if 80 ≤ l5 then (
k122 l0 m)
else
chk9 (0 < l0) <|
chk9 (0 < m l0 0) <|
if m (m l0 0) 8 = 0 then (
chk9 (0 < m l2 0 ∧ 0 ≤ l5 ∧ l5 < 80) <|
if m (m l2 0) l5 = 7 then (
cal (X1_closePart (m l0 0) m) fun _ m17 =>
chk9 (iR (l5 + 1)) <|
X4_play_10 k122 n l0 l2 l4 (l5 + 1) m17)
else
if 7 ≤ m (m l2 0) l5 then (
chk9 (iR (l5 + 1)) <|
X4_play_10 k122 n l0 l2 l4 (l5 + 1) m)
else
if m (m l0 0) 7 = 0 then (
if l4 = 0 then (
chk9 (iR (l5 + 1)) <|
X4_play_10 k122 n l0 l2 l4 (l5 + 1) m)
else
X4_play_84 (X4_play_10 k122 n) l0 l2 l4 l5 (m (m l2 0) l5) m)
else
X4_play_84 (X4_play_10 k122 n) l0 l2 l4 l5 (m (m l2 0) l5) m)
else
k122 l0 m)
def X4_play_0 (l0 l1 l2 l3 l4 : Int) (m : Mem) : Option R2 :=
chk9 (0 < l0) <|
cal (X4_begin l0 l1 l2 l3 m) fun _ m3 =>
X4_play_10 (X4_play_122) fuel9 l0 l2 l4 0 m3
def X4_play (a0 a1 a2 a3 a4 : Int) (m : Mem) : Option R2 := boolR (X4_play_0 a0 a1 a2 a3 a4 m)
def X5_add_0 (l0 l1 l2 l3 : Int) (m : Mem) : Option R2 :=
chk9 (0 < l0) <|
if 12 ≤ m l0 3 then (
some (0, m))
else
chk9 (0 < m l0 0 ∧ 0 ≤ m l0 3 ∧ m l0 3 < 12) <|
st9 (upd9 m (m l0 0) (m l0 3) l1) fun m6 =>
chk9 (0 < m6 l0 1 ∧ 0 ≤ m6 l0 3 ∧ m6 l0 3 < 12) <|
st9 (upd9 m6 (m6 l0 1) (m6 l0 3) l2) fun m10 =>
chk9 (0 < m10 l0 2 ∧ 0 ≤ m10 l0 3 ∧ m10 l0 3 < 12) <|
st9 (upd9 m10 (m10 l0 2) (m10 l0 3) l3) fun m14 =>
chk9 (iR (m14 l0 3 + 1)) <|
st9 (upd9 m14 l0 3 (m14 l0 3 + 1)) fun m16 =>
some (0, m16)
def X5_add (a0 a1 a2 a3 : Int) (m : Mem) : Option R2 := X5_add_0 a0 a1 a2 a3 m
def X5_canBeginTogether_2 : Nat → Int → Int → Int → Int → Mem → Option R2
  | 0, _, _, _, _, _ => none
  | n + 1, l0, l1, l2, l3, m => (
chk9 (iR (l1 + l2)) <|
if (l1 + l2) ≤ l3 then (
some (1, m))
else
chk9 (0 < l0) <|
if m l0 3 ≤ l3 then (
some (0, m))
else
if 12 ≤ l3 then (
some (0, m))
else
chk9 (0 < m l0 0 ∧ 0 ≤ l3 ∧ l3 < 12) <|
if m (m l0 0) l3 ≤ 3 then (
chk9 (iR (l3 + 1)) <|
X5_canBeginTogether_2 n l0 l1 l2 (l3 + 1) m)
else
some (0, m))
def X5_canBeginTogether_0 (l0 l1 l2 : Int) (m : Mem) : Option R2 :=
X5_canBeginTogether_2 fuel9 l0 l1 l2 l1 m
def X5_canBeginTogether (a0 a1 a2 : Int) (m : Mem) : Option R2 := boolR (X5_canBeginTogether_0 a0 a1 a2 m)
def X5_leadsWithin_0 (l0 l1 l2 l3 : Int) (m : Mem) : Option R2 :=
chk9 (0 < l0) <|
chk9 (0 < m l0 0 ∧ 0 ≤ l1 ∧ l1 < 12) <|
if m (m l0 0) l1 = 4 then (
chk9 (iR (l1 + 1)) <|
cal (X5_canBeginTogether l0 (l1 + 1) l2 m) fun v7 m8 =>
some (v7, m8))
else
if m (m l0 0) l1 = 5 then (
chk9 (iR (l1 + 1)) <|
chk9 (iR ((l1 + 1) + l3)) <|
if m l0 3 < ((l1 + 1) + l3) then (
some (0, m))
else
some (1, m))
else
if m (m l0 0) l1 = 6 then (
chk9 (iR (l1 - l3)) <|
if (l1 - l3) < 0 then (
some (0, m))
else
some (1, m))
else
if m (m l0 0) l1 = 7 then (
some (1, m))
else
if m (m l0 0) l1 = 8 then (
some (1, m))
else
if m (m l0 0) l1 = 9 then (
some (1, m))
else
if m (m l0 0) l1 = 10 then (
chk9 (iR (l1 + 1)) <|
chk9 (iR ((l1 + 1) + l3)) <|
if m l0 3 < ((l1 + 1) + l3) then (
some (0, m))
else
some (1, m))
else
some (1, m)
def X5_leadsWithin (a0 a1 a2 a3 : Int) (m : Mem) : Option R2 := boolR (X5_leadsWithin_0 a0 a1 a2 a3 m)
def X5_isWhole_44 (l0 : Int) (m : Mem) : Option R2 :=
chk9 (0 < l0) <|
if m l0 3 ≤ 0 then (
some (0, m))
else
some (1, m)
def X5_isWhole_2 (k44 : Int → Mem → Option R2) : Nat → Int → Int → Mem → Option R2
  | 0, _, _, _ => none
  | n + 1, l0, l1, m => (
chk9 (0 < l0) <|
if m l0 3 ≤ l1 then (
k44 l0 m)
else
if 12 ≤ l1 then (
k44 l0 m)
else
chk9 (0 < m l0 1 ∧ 0 ≤ l1 ∧ l1 < 12) <|
chk9 (0 < m l0 2 ∧ 0 ≤ l1 ∧ l1 < 12) <|
cal (X5_leadsWithin l0 l1 (m (m l0 1) l1) (m (m l0 2) l1) m) fun v10 m11 =>
if v10 = 0 then (
some (0, m11))
else
chk9 (iR (l1 + 1)) <|
X5_isWhole_2 k44 n l0 (l1 + 1) m11)
def X5_isWhole_0 (l0 : Int) (m : Mem) : Option R2 :=
X5_isWhole_2 (X5_isWhole_44) fuel9 l0 0 m
def X5_isWhole (a0 : Int) (m : Mem) : Option R2 := boolR (X5_isWhole_0 a0 m)
def X6_init_0 (l0 : Int) (m : Mem) : Option R2 :=
chk9 (0 < l0) <|
vl9 (l0 + 1) fun i2 =>
chk9 (0 < i2 ∧ m (-1) i2 = 0) <|
st9 (alo9 m i2 100003 3) fun m5 =>
st9 (upd9 m5 l0 0 i2) fun m6 =>
st9 (upd9 m6 l0 1 9) fun m7 =>
some (0, m7)
def X6_init (a0 : Int) (m : Mem) : Option R2 := X6_init_0 a0 m
def X6_countTaken_0 (l0 l1 : Int) (m : Mem) : Option R2 :=
chk9 (0 < l0) <|
chk9 (iR (m l0 2 + 1)) <|
st9 (upd9 m l0 2 (m l0 2 + 1)) fun m3 =>
if l1 < 0 then (
some (0, m3))
else
if 3 ≤ l1 then (
some (0, m3))
else
chk9 (0 < m3 l0 0 ∧ 0 ≤ l1 ∧ l1 < 3) <|
chk9 (iR (m3 (m3 l0 0) l1 + 1)) <|
chk9 (0 ≤ l1 ∧ l1 < 3) <|
st9 (upd9 m3 (m3 l0 0) l1 (m3 (m3 l0 0) l1 + 1)) fun m12 =>
some (0, m12)
def X6_countTaken (a0 a1 : Int) (m : Mem) : Option R2 := X6_countTaken_0 a0 a1 m
def X6_countOf_0 (l0 l1 : Int) (m : Mem) : Option R2 :=
if l1 < 0 then (
some (0, m))
else
if 3 ≤ l1 then (
some (0, m))
else
chk9 (0 < l0) <|
chk9 (0 < m l0 0 ∧ 0 ≤ l1 ∧ l1 < 3) <|
some (m (m l0 0) l1, m)
def X6_countOf (a0 a1 : Int) (m : Mem) : Option R2 := X6_countOf_0 a0 a1 m
def X6_prefers_0 (l0 l1 l2 : Int) (m : Mem) : Option R2 :=
chk9 (0 < l1) <|
chk9 (0 < l0) <|
cal (X6_countOf l0 (m l1 3) m) fun v3 m4 =>
chk9 (0 < l2) <|
cal (X6_countOf l0 (m4 l2 3) m4) fun v7 m8 =>
if v3 = v7 then (
if m8 l1 3 = m8 l2 3 then (
if m8 l1 7 = m8 l2 7 then (
if m8 l2 4 ≤ m8 l1 4 then (
some (0, m8))
else
some (1, m8))
else
if m8 l2 7 ≤ m8 l1 7 then (
some (0, m8))
else
some (1, m8))
else
if m8 l2 3 ≤ m8 l1 3 then (
some (0, m8))
else
some (1, m8))
else
cal (X6_countOf l0 (m8 l1 3) m8) fun v16 m17 =>
cal (X6_countOf l0 (m17 l2 3) m17) fun v19 m20 =>
if v19 ≤ v16 then (
some (0, m20))
else
some (1, m20)
def X6_prefers (a0 a1 a2 : Int) (m : Mem) : Option R2 := boolR (X6_prefers_0 a0 a1 a2 m)
def X7_init_0 (l0 l1 : Int) (m : Mem) : Option R2 :=
chk9 (0 < l0) <|
vl9 (l0 + 1) fun i2 =>
chk9 (0 < i2 ∧ m (-1) i2 = 0) <|
st9 (alo9 m i2 13 4) fun m5 =>
cal (X3_init i2 m5) fun _ m7 =>
st9 (upd9 m7 l0 0 i2) fun m9 =>
vl9 (l0 + 5) fun i10 =>
chk9 (0 < i10 ∧ m9 (-1) i10 = 0) <|
st9 (alo9 m9 i10 400080 80) fun m13 =>
st9 (upd9 m13 l0 1 i10) fun m14 =>
vl9 (l0 + 6) fun i15 =>
chk9 (0 < i15 ∧ m14 (-1) i15 = 0) <|
st9 (alo9 m14 i15 100080 80) fun m18 =>
st9 (upd9 m18 l0 2 i15) fun m19 =>
st9 (upd9 m19 l0 7 20) fun m20 =>
st9 (upd9 m20 l0 9 (-1)) fun m21 =>
chk9 (0 < m21 l0 0) <|
cal (X3_put (m21 l0 0) 0 l1 0 m21) fun _ m24 =>
some (0, m24)
def X7_init (a0 a1 : Int) (m : Mem) : Option R2 := X7_init_0 a0 a1 m
def X7_tellUnmade_10 : Nat → Int → Int → Mem → Option R2
  | 0, _, _, _ => none
  | n + 1, l0, l1, m => (
chk9 (0 < l0) <|
if m l0 5 ≤ l1 then (
st9 (upd9 m l0 6 0) fun m3 =>
some (0, m3))
else
cal (X7_happen l0 5 l1 (-1) m) fun v4 m5 =>
chk9 (iR (l1 + 1)) <|
X7_tellUnmade_10 n l0 (l1 + 1) m5)
def X7_tellUnmade_0 (l0 : Int) (m : Mem) : Option R2 :=
chk9 (0 < l0) <|
chk9 (iR (m l0 5 - m l0 6)) <|
X7_tellUnmade_10 fuel9 l0 (m l0 5 - m l0 6) m
def X7_tellUnmade (a0 : Int) (m : Mem) : Option R2 := X7_tellUnmade_0 a0 m
def X7_hasNews_0 (l0 : Int) (m : Mem) : Option R2 :=
chk9 (0 < l0) <|
chk9 (0 < m l0 0) <|
chk9 (iR (m (m l0 0) 3 - 1)) <|
if (m (m l0 0) 3 - 1) < 0 then (
some (0, m))
else
if 80 ≤ (m (m l0 0) 3 - 1) then (
some (0, m))
else
chk9 (0 < m (m l0 0) 0 ∧ 0 ≤ (m (m l0 0) 3 - 1) ∧ (m (m l0 0) 3 - 1) < 80) <|
if 7 ≤ m (m (m l0 0) 0) (m (m l0 0) 3 - 1) then (
some (0, m))
else
some (1, m)
def X7_hasNews (a0 : Int) (m : Mem) : Option R2 := boolR (X7_hasNews_0 a0 m)
def X7_addActivity_0 (l0 l1 : Int) (m : Mem) : Option R2 :=
chk9 (0 < l0) <|
if 80 ≤ m l0 3 then (
some (0, m))
else
chk9 (0 < m l0 1 ∧ 0 ≤ m l0 3 ∧ m l0 3 < 80 ∧ 0 < l1) <|
st9 (upd9 m (m l0 1) (m l0 3) l1) fun m7 =>
chk9 (iR (m7 l0 3 + 1)) <|
st9 (upd9 m7 l0 3 (m7 l0 3 + 1)) fun m9 =>
some (0, m9)
def X7_addActivity (a0 a1 : Int) (m : Mem) : Option R2 := X7_addActivity_0 a0 a1 m
def X7_countReady_4 : Nat → Int → Int → Int → Int → Mem → Option R2
  | 0, _, _, _, _, _ => none
  | n + 1, l0, l1, l2, l3, m => (
chk9 (0 < l0) <|
if m l0 3 ≤ l3 then (
some (l2, m))
else
chk9 (0 < m l0 1 ∧ 0 ≤ l3 ∧ l3 < 80) <|
chk9 (0 < m (m l0 1) l3) <|
cal (X0_isReadyOn (m (m l0 1) l3) l1 m) fun v7 m8 =>
if v7 = 0 then (
chk9 (iR (l3 + 1)) <|
X7_countReady_4 n l0 l1 l2 (l3 + 1) m8)
else
chk9 (iR (l2 + 1)) <|
chk9 (iR (l3 + 1)) <|
X7_countReady_4 n l0 l1 (l2 + 1) (l3 + 1) m8)
def X7_countReady_0 (l0 l1 : Int) (m : Mem) : Option R2 :=
X7_countReady_4 fuel9 l0 l1 0 0 m
def X7_countReady (a0 a1 : Int) (m : Mem) : Option R2 := X7_countReady_0 a0 a1 m
def X7_wakeActivities_2 : Nat → Int → Int → Int → Mem → Option R2
  | 0, _, _, _, _ => none
  | n + 1, l0, l1, l2, m => (
chk9 (0 < l0) <|
if m l0 3 ≤ l2 then (
some (0, m))
else
chk9 (0 < m l0 1 ∧ 0 ≤ l2 ∧ l2 < 80) <|
chk9 (0 < m (m l0 1) l2) <|
cal (X0_wake (m (m l0 1) l2) l1 m) fun _ m8 =>
chk9 (iR (l2 + 1)) <|
X7_wakeActivities_2 n l0 l1 (l2 + 1) m8)
def X7_wakeActivities_0 (l0 l1 : Int) (m : Mem) : Option R2 :=
X7_wakeActivities_2 fuel9 l0 l1 0 m
def X7_wakeActivities (a0 a1 : Int) (m : Mem) : Option R2 := X7_wakeActivities_0 a0 a1 m
def X7_addTimer_0 (l0 l1 : Int) (m : Mem) : Option R2 :=
chk9 (0 < l0) <|
if 80 ≤ m l0 4 then (
some (0, m))
else
chk9 (0 < m l0 2 ∧ 0 ≤ m l0 4 ∧ m l0 4 < 80) <|
st9 (upd9 m (m l0 2) (m l0 4) l1) fun m6 =>
chk9 (iR (m6 l0 4 + 1)) <|
st9 (upd9 m6 l0 4 (m6 l0 4 + 1)) fun m8 =>
some (0, m8)
def X7_addTimer (a0 a1 : Int) (m : Mem) : Option R2 := X7_addTimer_0 a0 a1 m
def X7_dropTimer_0 (l0 l1 : Int) (m : Mem) : Option R2 :=
if l1 < 0 then (
some (0, m))
else
chk9 (0 < l0) <|
if m l0 4 ≤ l1 then (
some (0, m))
else
chk9 (0 < m l0 2 ∧ 0 ≤ l1 ∧ l1 < 80) <|
st9 (upd9 m (m l0 2) l1 0) fun m7 =>
some (0, m7)
def X7_dropTimer (a0 a1 : Int) (m : Mem) : Option R2 := X7_dropTimer_0 a0 a1 m
def X7_fireTimers_2 : Nat → Int → Int → Int → Mem → Option R2
  | 0, _, _, _, _ => none
  | n + 1, l0, l1, l2, m => (
chk9 (0 < l0) <|
if m l0 4 ≤ l2 then (
some (0, m))
else
chk9 (0 < m l0 2 ∧ 0 ≤ l2 ∧ l2 < 80) <|
if m (m l0 2) l2 = l1 then (
chk9 (0 ≤ l2 ∧ l2 < 80) <|
st9 (upd9 m (m l0 2) l2 0) fun m10 =>
cal (X7_happen l0 3 l2 0 m10) fun v11 m12 =>
chk9 (iR (l2 + 1)) <|
X7_fireTimers_2 n l0 l1 (l2 + 1) m12)
else
chk9 (iR (l2 + 1)) <|
X7_fireTimers_2 n l0 l1 (l2 + 1) m)
def X7_fireTimers_0 (l0 l1 : Int) (m : Mem) : Option R2 :=
X7_fireTimers_2 fuel9 l0 l1 0 m
def X7_fireTimers (a0 a1 : Int) (m : Mem) : Option R2 := X7_fireTimers_0 a0 a1 m
def X9_init_0 (l0 : Int) (m : Mem) : Option R2 :=
chk9 (0 < l0) <|
st9 (upd9 m l0 0 1) fun m2 =>
some (0, m2)
def X9_init (a0 : Int) (m : Mem) : Option R2 := X9_init_0 a0 m
def X10_init_0 (l0 l1 l2 l3 l4 : Int) (m : Mem) : Option R2 :=
chk9 (0 < l0) <|
vl9 (l0 + 1) fun i2 =>
chk9 (0 < i2 ∧ m (-1) i2 = 0) <|
st9 (alo9 m i2 100002 2) fun m5 =>
st9 (upd9 m5 l0 3 i2) fun m6 =>
vl9 (l0 + 2) fun i7 =>
chk9 (0 < i7 ∧ m6 (-1) i7 = 0) <|
st9 (alo9 m6 i7 407009 9) fun m10 =>
st9 (upd9 m10 l0 4 i7) fun m11 =>
st9 (upd9 m11 l0 5 1) fun m12 =>
st9 (upd9 m12 l0 7 (-1)) fun m13 =>
st9 (upd9 m13 l0 8 (-1)) fun m14 =>
st9 (upd9 m14 l0 9 (-1)) fun m15 =>
st9 (upd9 m15 l0 0 l1) fun m16 =>
st9 (upd9 m16 l0 1 l2) fun m17 =>
st9 (upd9 m17 l0 2 l3) fun m18 =>
vl9 (l0 + 10000) fun i19 =>
chk9 (0 < i19 ∧ m18 (-1) i19 = 0) <|
st9 (alo9 m18 i19 17 11) fun m22 =>
cal (X7_init i19 l4 m22) fun _ m24 =>
st9 (upd9 m24 l0 6 i19) fun m26 =>
chk9 (0 < m26 l0 4 ∧ 0 < m26 l0 6) <|
st9 (upd9 m26 (m26 l0 4) 0 (m26 l0 6)) fun m29 =>
some (0, m29)
def X10_init (a0 a1 a2 a3 a4 : Int) (m : Mem) : Option R2 := X10_init_0 a0 a1 a2 a3 a4 m
def X10_beginRun_0 (l0 l1 : Int) (m : Mem) : Option R2 :=
chk9 (0 < l0) <|
if 9 ≤ m l0 5 then (
some (0, m))
else
vl9 (l0 + 10000 * (m l0 5 + 1)) fun i3 =>
chk9 (0 < i3 ∧ m (-1) i3 = 0) <|
st9 (alo9 m i3 17 11) fun m6 =>
cal (X7_init i3 l1 m6) fun _ m8 =>
st9 (upd9 m8 l0 6 i3) fun m10 =>
chk9 (0 < m10 l0 4 ∧ 0 ≤ m10 l0 5 ∧ m10 l0 5 < 9 ∧ 0 < m10 l0 6) <|
st9 (upd9 m10 (m10 l0 4) (m10 l0 5) (m10 l0 6)) fun m15 =>
chk9 (iR (m15 l0 5 + 1)) <|
st9 (upd9 m15 l0 5 (m15 l0 5 + 1)) fun m17 =>
some (0, m17)
def X10_beginRun (a0 a1 : Int) (m : Mem) : Option R2 := X10_beginRun_0 a0 a1 m
def X10_tell_0 (l0 l1 l2 : Int) (m : Mem) : Option R2 :=
if l1 < 0 then (
some (0, m))
else
if 2 ≤ l1 then (
some (0, m))
else
chk9 (0 < l0) <|
chk9 (0 < m l0 3 ∧ 0 ≤ l1 ∧ l1 < 2) <|
st9 (upd9 m (m l0 3) l1 l2) fun m7 =>
some (0, m7)
def X10_tell (a0 a1 a2 : Int) (m : Mem) : Option R2 := X10_tell_0 a0 a1 a2 m
def X11_init_102 : Nat → Int → Int → Mem → Option R2
  | 0, _, _, _ => none
  | n + 1, l0, l1, m => (
if 4 ≤ l1 then (
some (0, m))
else
chk9 (0 < l0) <|
vl9 (5100 + l1) fun i3 =>
chk9 (0 < i3 ∧ m (-1) i3 = 0) <|
st9 (alo9 m i3 19 2) fun m6 =>
cal (X9_init i3 m6) fun _ m8 =>
chk9 (0 < m l0 3 ∧ 0 ≤ l1 ∧ l1 < 4) <|
st9 (upd9 m8 (m l0 3) l1 i3) fun m13 =>
chk9 (iR (l1 + 1)) <|
X11_init_102 n l0 (l1 + 1) m13)
def X11_init_76 (k102 : Int → Int → Mem → Option R2) : Nat → Int → Int → Mem → Option R2
  | 0, _, _, _ => none
  | n + 1, l0, l1, m => (
if 2 ≤ l1 then (
k102 l0 0 m)
else
chk9 (0 < l0) <|
vl9 (5000 + 10 * l1) fun i3 =>
chk9 (0 < i3 ∧ m (-1) i3 = 0) <|
st9 (alo9 m i3 16 3) fun m6 =>
cal (X6_init i3 m6) fun _ m8 =>
chk9 (0 < m l0 2 ∧ 0 ≤ l1 ∧ l1 < 2) <|
st9 (upd9 m8 (m l0 2) l1 i3) fun m13 =>
chk9 (iR (l1 + 1)) <|
X11_init_76 k102 n l0 (l1 + 1) m13)
def X11_init_50 (k76 : Int → Int → Mem → Option R2) : Nat → Int → Int → Mem → Option R2
  | 0, _, _, _ => none
  | n + 1, l0, l1, m => (
if 3 ≤ l1 then (
k76 l0 0 m)
else
chk9 (0 < l0) <|
vl9 (1000 * (l1 + 1)) fun i3 =>
chk9 (0 < i3 ∧ m (-1) i3 = 0) <|
st9 (alo9 m i3 12 3) fun m6 =>
cal (X2_init i3 m6) fun _ m8 =>
chk9 (0 < m l0 0 ∧ 0 ≤ l1 ∧ l1 < 3) <|
st9 (upd9 m8 (m l0 0) l1 i3) fun m13 =>
chk9 (iR (l1 + 1)) <|
X11_init_50 k76 n l0 (l1 + 1) m13)
def X11_init_0 (l0 : Int) (m : Mem) : Option R2 :=
chk9 (0 < l0) <|
chk9 (m (-1) 2 = 0) <|
st9 (alo9 m 2 402003 3) fun m3 =>
st9 (upd9 m3 l0 0 2) fun m4 =>
chk9 (m4 (-1) 3 = 0) <|
st9 (alo9 m4 3 410010 10) fun m6 =>
st9 (upd9 m6 l0 1 3) fun m7 =>
chk9 (m7 (-1) 4 = 0) <|
st9 (alo9 m7 4 406002 2) fun m9 =>
st9 (upd9 m9 l0 2 4) fun m10 =>
chk9 (m10 (-1) 5 = 0) <|
st9 (alo9 m10 5 409004 4) fun m12 =>
st9 (upd9 m12 l0 3 5) fun m13 =>
chk9 (m13 (-1) 100 = 0) <|
st9 (alo9 m13 100 14 20) fun m15 =>
cal (X4_init 100 m15) fun _ m17 =>
st9 (upd9 m17 l0 4 100) fun m19 =>
X11_init_50 (X11_init_76 (X11_init_102 fuel9) fuel9) fuel9 l0 0 m19
def X11_init (a0 : Int) (m : Mem) : Option R2 := X11_init_0 a0 m
def X11_isWithin_0 (l0 l1 l2 : Int) (m : Mem) : Option R2 :=
if l0 < l1 then (
some (0, m))
else
if l2 < l0 then (
some (0, m))
else
some (1, m)
def X11_isWithin (a0 a1 a2 : Int) (m : Mem) : Option R2 := boolR (X11_isWithin_0 a0 a1 a2 m)
def X11_familyOf_0 (l0 l1 : Int) (m : Mem) : Option R3 :=
cal (X11_isWithin l1 0 2 m) fun v1 m2 =>
if v1 = 0 then (
some (1, 0, thr9 m2))
else
chk9 (0 < l0) <|
chk9 (0 < m2 l0 0 ∧ 0 ≤ l1 ∧ l1 < 3) <|
some (0, m2 (m2 l0 0) l1, m2)
def X11_familyOf (a0 a1 : Int) (m : Mem) : Option R3 := X11_familyOf_0 a0 a1 m
def X11_isStep_0 (l0 l1 l2 : Int) (m : Mem) : Option R2 :=
cal (X11_isWithin l0 0 15 m) fun v1 m2 =>
if v1 = 0 then (
some (0, m2))
else
chk9 (0 ≤ l0 ∧ l0 < 16 ∧ iR (sar9 1 (l0).toNat)) <|
chk9 (0 ≤ l0 ∧ l0 < 16 ∧ iR (sar9 2 (l0).toNat)) <|
cal (X11_isWithin l1 (sar9 1 (l0).toNat) (sar9 2 (l0).toNat) m2) fun v11 m12 =>
if v11 = 0 then (
some (0, m12))
else
chk9 (0 ≤ l0 ∧ l0 < 16 ∧ iR (sar9 3 (l0).toNat)) <|
chk9 (0 ≤ l0 ∧ l0 < 16 ∧ iR (sar9 4 (l0).toNat)) <|
cal (X11_isWithin l2 (sar9 3 (l0).toNat) (sar9 4 (l0).toNat) m12) fun v21 m22 =>
if v21 = 0 then (
some (0, m22))
else
some (1, m22)
def X11_isStep (a0 a1 a2 : Int) (m : Mem) : Option R2 := boolR (X11_isStep_0 a0 a1 a2 m)
def X11_step_0 (l0 l1 l2 l3 l4 : Int) (m : Mem) : Option R3 :=
chk9 (0 < l0) <|
calX (X11_familyOf l0 l1 m) fun v2 m3 =>
cal (X11_isStep l2 l3 l4 m3) fun v5 m6 =>
if v5 = 0 then (
some (2, 0, thr9 m6))
else
chk9 (0 < v2) <|
if 4 ≤ m6 v2 1 then (
some (3, 0, thr9 m6))
else
chk9 (0 < m6 v2 2) <|
if m6 (m6 v2 2) 3 < 12 then (
cal (X5_add (m6 v2 2) l2 l3 l4 m6) fun _ m14 =>
chk9 (0 < m14 v2 2) <|
some (0, m14 (m14 v2 2) 3, m14))
else
some (3, 0, thr9 m6)
def X11_step (a0 a1 a2 a3 a4 : Int) (m : Mem) : Option R3 := X11_step_0 a0 a1 a2 a3 a4 m
def X11_forget_0 (l0 l1 : Int) (m : Mem) : Option R3 :=
chk9 (0 < l0) <|
calX (X11_familyOf l0 l1 m) fun v2 m3 =>
chk9 (0 < v2) <|
chk9 (0 < m3 v2 2) <|
st9 (upd9 m3 (m3 v2 2) 3 0) fun m7 =>
some (0, m3 (m3 v2 2) 3, m7)
def X11_forget (a0 a1 : Int) (m : Mem) : Option R3 := X11_forget_0 a0 a1 m
def X11_release_0 (l0 l1 : Int) (m : Mem) : Option R3 :=
chk9 (0 < l0) <|
calX (X11_familyOf l0 l1 m) fun v2 m3 =>
chk9 (0 < v2) <|
chk9 (0 < m3 v2 2) <|
cal (X5_isWhole (m3 v2 2) m3) fun v7 m8 =>
if v7 = 0 then (
some (3, 0, thr9 m8))
else
cal (X2_releaseTold v2 m8) fun _ m12 =>
some (0, m12 v2 1, m12)
def X11_release (a0 a1 : Int) (m : Mem) : Option R3 := X11_release_0 a0 a1 m
def X11_versions_0 (l0 l1 : Int) (m : Mem) : Option R3 :=
chk9 (0 < l0) <|
calX (X11_familyOf l0 l1 m) fun v2 m3 =>
chk9 (0 < v2) <|
some (0, m3 v2 1, m3)
def X11_versions (a0 a1 : Int) (m : Mem) : Option R3 := X11_versions_0 a0 a1 m
def X11_addFlow_0 (l0 l1 : Int) (m : Mem) : Option R2 :=
chk9 (0 < l0) <|
if 10 ≤ m l0 5 then (
some (0, m))
else
chk9 (0 < m l0 1 ∧ 0 ≤ m l0 5 ∧ m l0 5 < 10 ∧ 0 < l1) <|
st9 (upd9 m (m l0 1) (m l0 5) l1) fun m7 =>
chk9 (iR (m7 l0 5 + 1)) <|
st9 (upd9 m7 l0 5 (m7 l0 5 + 1)) fun m9 =>
some (0, m9)
def X11_addFlow (a0 a1 : Int) (m : Mem) : Option R2 := X11_addFlow_0 a0 a1 m
def X11_start_0 (l0 l1 l2 l3 : Int) (m : Mem) : Option R3 :=
cal (X11_isWithin l1 0 2 m) fun v1 m2 =>
if v1 = 0 then (
some (1, 0, thr9 m2))
else
cal (X11_isWithin l2 0 2 m2) fun v5 m6 =>
if v5 = 0 then (
some (1, 0, thr9 m6))
else
cal (X11_isWithin l3 (-99) 99 m6) fun v9 m10 =>
if v9 = 0 then (
some (2, 0, thr9 m10))
else
chk9 (0 < l0) <|
if m10 l0 5 < 10 then (
vl9 (100000 * (m10 l0 5 + 1)) fun i15 =>
chk9 (0 < i15 ∧ m10 (-1) i15 = 0) <|
st9 (alo9 m10 i15 20 11) fun m18 =>
cal (X10_init i15 (m18 l0 5) l1 l2 l3 m18) fun _ m20 =>
cal (X11_addFlow l0 i15 m20) fun _ m23 =>
some (0, m23 i15 0, m23))
else
some (3, 0, thr9 m10)
def X11_start (a0 a1 a2 a3 : Int) (m : Mem) : Option R3 := X11_start_0 a0 a1 a2 a3 m
def X11_flowOf_0 (l0 l1 : Int) (m : Mem) : Option R3 :=
chk9 (0 < l0) <|
chk9 (iR (m l0 5 - 1)) <|
cal (X11_isWithin l1 0 (m l0 5 - 1) m) fun v3 m4 =>
if v3 = 0 then (
some (1, 0, thr9 m4))
else
chk9 (0 < m4 l0 1 ∧ 0 ≤ l1 ∧ l1 < 10) <|
some (0, m4 (m4 l0 1) l1, m4)
def X11_flowOf (a0 a1 : Int) (m : Mem) : Option R3 := X11_flowOf_0 a0 a1 m
def X11_signal_0 (l0 l1 l2 l3 : Int) (m : Mem) : Option R3 :=
chk9 (0 < l0) <|
calX (X11_flowOf l0 l1 m) fun v2 m3 =>
cal (X11_isWithin l2 0 2 m3) fun v5 m6 =>
if v5 = 0 then (
some (2, 0, thr9 m6))
else
cal (X11_isWithin l3 (-99) 99 m6) fun v9 m10 =>
if v9 = 0 then (
some (2, 0, thr9 m10))
else
chk9 (0 < v2) <|
chk9 (0 < m10 v2 6) <|
cal (X7_happen (m10 v2 6) 4 l2 l3 m10) fun v15 m16 =>
some (0, v15, m16)
def X11_signal (a0 a1 a2 a3 : Int) (m : Mem) : Option R3 := boolX (X11_signal_0 a0 a1 a2 a3 m)
def X11_cancel_0 (l0 l1 : Int) (m : Mem) : Option R3 :=
chk9 (0 < l0) <|
calX (X11_flowOf l0 l1 m) fun v2 m3 =>
chk9 (0 < v2) <|
chk9 (0 < m3 v2 6) <|
cal (X7_askCancel (m3 v2 6) m3) fun v7 m8 =>
some (0, v7, m8)
def X11_cancel (a0 a1 : Int) (m : Mem) : Option R3 := boolX (X11_cancel_0 a0 a1 m)
def X11_programOf_0 (l0 l1 l2 : Int) (m : Mem) : Option R3 :=
chk9 (0 < l1) <|
chk9 (0 < l0) <|
calX (X11_familyOf l0 (m l1 1) m) fun v3 m4 =>
chk9 (0 < v3) <|
cal (X11_isWithin l2 1 (m4 v3 1) m4) fun v7 m8 =>
if v7 = 0 then (
some (1, 0, thr9 m8))
else
chk9 (iR (l2 - 1)) <|
chk9 (0 < m8 v3 0 ∧ 0 ≤ (l2 - 1) ∧ (l2 - 1) < 4) <|
some (0, m8 (m8 v3 0) (l2 - 1), m8)
def X11_programOf (a0 a1 a2 : Int) (m : Mem) : Option R3 := X11_programOf_0 a0 a1 a2 m
def X11_freeHandsOf_2 : Nat → Int → Int → Int → Mem → Option R2
  | 0, _, _, _, _ => none
  | n + 1, l0, l1, l2, m => (
if 4 ≤ l2 then (
some (0, m))
else
chk9 (0 < l0) <|
chk9 (0 < m l0 3 ∧ 0 ≤ l2 ∧ l2 < 4) <|
chk9 (0 < m (m l0 3) l2) <|
if m (m (m l0 3) l2) 1 = l1 then (
chk9 (0 ≤ l2 ∧ l2 < 4) <|
st9 (upd9 m (m (m l0 3) l2) 1 0) fun m11 =>
chk9 (iR (l2 + 1)) <|
X11_freeHandsOf_2 n l0 l1 (l2 + 1) m11)
else
chk9 (iR (l2 + 1)) <|
X11_freeHandsOf_2 n l0 l1 (l2 + 1) m)
def X11_freeHandsOf_0 (l0 l1 : Int) (m : Mem) : Option R2 :=
X11_freeHandsOf_2 fuel9 l0 l1 0 m
def X11_freeHandsOf (a0 a1 : Int) (m : Mem) : Option R2 := X11_freeHandsOf_0 a0 a1 m
def X11_takeOff_0 (l0 l1 : Int) (m : Mem) : Option R2 :=
chk9 (0 < l1) <|
st9 (upd9 m l1 6 3) fun m2 =>
chk9 (0 < l0) <|
cal (X11_freeHandsOf l0 l1 m2) fun _ m5 =>
some (0, m5)
def X11_takeOff (a0 a1 : Int) (m : Mem) : Option R2 := X11_takeOff_0 a0 a1 m
def X11_makeChild_92 (l4 : Int) (m : Mem) : Option R2 :=
chk9 (0 < l4) <|
chk9 (iR (m l4 5 + 1)) <|
st9 (upd9 m l4 5 (m l4 5 + 1)) fun m3 =>
some (0, m3)
def X11_makeChild_0 (l0 l1 l2 l3 : Int) (m : Mem) : Option R2 :=
chk9 (0 < l1) <|
chk9 (0 < l0) <|
if 10 ≤ m l0 5 then (
chk9 (0 < m l1 6) <|
chk9 (iR (m (m l1 6) 6 + 1)) <|
st9 (upd9 m (m l1 6) 6 (m (m l1 6) 6 + 1)) fun m6 =>
X11_makeChild_92 (m l1 6) m6)
else
vl9 (100000 * (m l0 5 + 1)) fun i7 =>
chk9 (0 < i7 ∧ m (-1) i7 = 0) <|
st9 (alo9 m i7 20 11) fun m10 =>
chk9 (0 < m l1 6) <|
cal (X10_init i7 (m10 l0 5) l2 (m10 l1 2) (m10 (m l1 6) 8) m10) fun _ m13 =>
st9 (upd9 m13 i7 7 (m13 l1 0)) fun m15 =>
st9 (upd9 m15 i7 8 (m15 l1 5)) fun m16 =>
st9 (upd9 m16 i7 9 (m16 (m l1 6) 5)) fun m17 =>
st9 (upd9 m17 i7 10 l3) fun m18 =>
cal (X11_addFlow l0 i7 m18) fun _ m20 =>
X11_makeChild_92 (m l1 6) m20
def X11_makeChild (a0 a1 a2 a3 : Int) (m : Mem) : Option R2 := X11_makeChild_0 a0 a1 a2 a3 m
def X11_takeEffect_0 (l0 l1 l2 l3 l4 : Int) (m : Mem) : Option R2 :=
chk9 (0 < l1) <|
if l2 = 8 then (
vl9 (m l1 6 + 100 + m (m l1 6) 3) fun i3 =>
chk9 (0 < i3 ∧ m (-1) i3 = 0) <|
st9 (alo9 m i3 10 10) fun m6 =>
chk9 (0 < l0) <|
cal (X0_init i3 l1 l4 (m6 l0 6) (m6 l0 7) m6) fun _ m9 =>
chk9 (0 < m l1 6) <|
cal (X7_addActivity (m l1 6) i3 m9) fun _ m13 =>
chk9 (iR (m13 l0 6 + 1)) <|
st9 (upd9 m13 l0 6 (m13 l0 6 + 1)) fun m16 =>
some (0, m16))
else
if l2 = 9 then (
chk9 (0 < m l1 6) <|
chk9 (iR (m (m l1 6) 3 - 1)) <|
cal (X11_isWithin l3 0 (m (m l1 6) 3 - 1) m) fun v20 m21 =>
if v20 = 0 then (
some (0, m21))
else
chk9 (0 < m21 (m l1 6) 1 ∧ 0 ≤ l3 ∧ l3 < 80) <|
chk9 (0 < l0) <|
cal (X11_takeOff l0 (m21 (m21 (m l1 6) 1) l3) m21) fun _ m29 =>
some (0, m29))
else
if l2 = 10 then (
chk9 (0 < l0) <|
chk9 (iR (m l0 7 + l3)) <|
chk9 (0 < m l1 6) <|
cal (X7_addTimer (m l1 6) (m l0 7 + l3) m) fun _ m36 =>
some (0, m36))
else
if l2 = 11 then (
chk9 (0 < m l1 6) <|
cal (X7_dropTimer (m l1 6) l3 m) fun _ m41 =>
some (0, m41))
else
if l2 = 12 then (
chk9 (0 < l0) <|
cal (X11_makeChild l0 l1 l3 l4 m) fun _ m46 =>
some (0, m46))
else
if l2 = 13 then (
some (0, m))
else
if l2 = 14 then (
cal (X10_tell l1 l3 l4 m) fun _ m51 =>
some (0, m51))
else
if l2 = 15 then (
vl9 (m l1 6 + 100 + m (m l1 6) 3) fun i54 =>
chk9 (0 < i54 ∧ m (-1) i54 = 0) <|
st9 (alo9 m i54 10 10) fun m57 =>
chk9 (0 < l0) <|
cal (X0_init i54 l1 l4 (m57 l0 6) (m57 l0 7) m57) fun _ m60 =>
chk9 (0 < m l1 6) <|
cal (X7_addActivity (m l1 6) i54 m60) fun _ m64 =>
chk9 (iR (m64 l0 6 + 1)) <|
st9 (upd9 m64 l0 6 (m64 l0 6 + 1)) fun m67 =>
some (0, m67))
else
some (0, m)
def X11_takeEffect (a0 a1 a2 a3 a4 : Int) (m : Mem) : Option R2 := X11_takeEffect_0 a0 a1 a2 a3 a4 m
def X11_putDown_97 : Nat → Int → Int → Int → Int → Int → Mem → Option R2
  | 0, _, _, _, _, _, _ => none
  | n + 1, l0, l1, l3, l4, l6, m => (
chk9 (0 < l4) <|
if m l4 3 ≤ l6 then (
some (0, m))
else
if 80 ≤ l6 then (
some (0, m))
else
chk9 (0 < l3) <|
chk9 (0 < m l4 0 ∧ 0 ≤ l6 ∧ l6 < 80) <|
chk9 (0 < m l4 1 ∧ 0 ≤ l6 ∧ l6 < 80) <|
chk9 (0 < m l4 2 ∧ 0 ≤ l6 ∧ l6 < 80) <|
chk9 (0 < m l3 0) <|
cal (X3_put (m l3 0) (m (m l4 0) l6) (m (m l4 1) l6) (m (m l4 2) l6) m) fun _ m16 =>
chk9 (0 < m16 l4 0 ∧ 0 ≤ l6 ∧ l6 < 80) <|
chk9 (0 < m16 l4 1 ∧ 0 ≤ l6 ∧ l6 < 80) <|
chk9 (0 < m16 l4 2 ∧ 0 ≤ l6 ∧ l6 < 80) <|
chk9 (0 < l0) <|
cal (X11_takeEffect l0 l1 (m16 (m16 l4 0) l6) (m16 (m16 l4 1) l6) (m16 (m16 l4 2) l6) m16) fun _ m29 =>
chk9 (iR (l6 + 1)) <|
X11_putDown_97 n l0 l1 l3 l4 (l6 + 1) m29)
def X11_putDown_83 (l0 l1 l2 l3 l4 : Int) (m : Mem) : Option R2 :=
chk9 (0 < l3) <|
chk9 (0 < m l3 0) <|
cal (X3_put (m l3 0) 7 l2 0 m) fun _ m4 =>
X11_putDown_97 fuel9 l0 l1 l3 l4 0 m4
def X11_putDown_50 (l0 l1 l2 l3 l4 s0 s1 : Int) (m : Mem) : Option R2 :=
if s1 ≤ s0 then (
chk9 (0 < l0) <|
chk9 (0 < m l0 4) <|
chk9 (0 < l3) <|
st9 (upd9 m l3 8 (m (m l0 4) 2)) fun m5 =>
chk9 (0 < m5 l0 4) <|
cal (X4_waitingPlace (m5 l0 4) m5) fun v7 m8 =>
st9 (upd9 m8 l3 9 v7) fun m10 =>
X11_putDown_83 l0 l1 l2 l3 l4 m10)
else
chk9 (0 < l4) <|
cal (X1_failTooLong l4 m) fun _ m13 =>
X11_putDown_83 l0 l1 l2 l3 l4 m13
def X11_putDown_0 (l0 l1 l2 : Int) (m : Mem) : Option R2 :=
chk9 (0 < l1) <|
chk9 (0 < l0) <|
chk9 (0 < m l0 4) <|
chk9 (0 < m l1 6) <|
chk9 (0 < m (m l1 6) 0) <|
chk9 (iR (m (m (m l1 6) 0) 3 + 1)) <|
chk9 (0 < m (m l0 4) 0) <|
chk9 (iR ((m (m (m l1 6) 0) 3 + 1) + m (m (m l0 4) 0) 3)) <|
cal (X4_isOver (m l0 4) m) fun v9 m10 =>
if v9 = 0 then (
X11_putDown_50 l0 l1 l2 (m l1 6) (m (m l0 4) 0) 77 ((m (m (m l1 6) 0) 3 + 1) + m (m (m l0 4) 0) 3) m10)
else
X11_putDown_50 l0 l1 l2 (m l1 6) (m (m l0 4) 0) 80 ((m (m (m l1 6) 0) 3 + 1) + m (m (m l0 4) 0) 3) m10
def X11_putDown (a0 a1 a2 : Int) (m : Mem) : Option R2 := X11_putDown_0 a0 a1 a2 m
def X11_letGo_61 (kr : Int → Int → Int → Mem → Option R2) : Nat → Int → Int → Int → Int → Mem → Option R2
  | 0, _, _, _, _, _ => none
  | n + 1, l0, l1, l2, l4, m => (
chk9 (0 < l0) <|
if m l0 5 ≤ l4 then (
some (0, m))
else
chk9 (0 < m l0 1 ∧ 0 ≤ l4 ∧ l4 < 10) <|
chk9 (0 < m (m l0 1) l4) <|
chk9 (0 < l1) <|
if m (m (m l0 1) l4) 7 = m l1 0 then (
if m (m (m l0 1) l4) 8 = m l1 5 then (
chk9 (0 < m (m (m l0 1) l4) 6) <|
if m (m (m (m l0 1) l4) 6) 7 = 20 then (
cal (X11_leaveChild kr l0 (m (m l0 1) l4) l2 m) fun _ m16 =>
chk9 (iR (l4 + 1)) <|
X11_letGo_61 kr n l0 l1 l2 (l4 + 1) m16)
else
chk9 (iR (l4 + 1)) <|
X11_letGo_61 kr n l0 l1 l2 (l4 + 1) m)
else
chk9 (iR (l4 + 1)) <|
X11_letGo_61 kr n l0 l1 l2 (l4 + 1) m)
else
chk9 (iR (l4 + 1)) <|
X11_letGo_61 kr n l0 l1 l2 (l4 + 1) m)
def X11_letGo_37 (kr : Int → Int → Int → Mem → Option R2) (k61 : Int → Int → Int → Int → Mem → Option R2) : Nat → Int → Int → Int → Int → Int → Mem → Option R2
  | 0, _, _, _, _, _, _ => none
  | n + 1, l0, l1, l2, l3, l4, m => (
chk9 (0 < l3) <|
if m l3 4 ≤ l4 then (
k61 l0 l1 l2 0 m)
else
cal (X7_dropTimer l3 l4 m) fun _ m4 =>
chk9 (iR (l4 + 1)) <|
X11_letGo_37 kr k61 n l0 l1 l2 l3 (l4 + 1) m4)
def X11_letGo_8 (kr : Int → Int → Int → Mem → Option R2) (k37 : Int → Int → Int → Int → Int → Mem → Option R2) : Nat → Int → Int → Int → Int → Int → Mem → Option R2
  | 0, _, _, _, _, _, _ => none
  | n + 1, l0, l1, l2, l3, l4, m => (
chk9 (0 < l3) <|
if m l3 3 ≤ l4 then (
k37 l0 l1 l2 l3 0 m)
else
chk9 (0 < m l3 1 ∧ 0 ≤ l4 ∧ l4 < 80) <|
chk9 (0 < l0) <|
cal (X11_takeOff l0 (m (m l3 1) l4) m) fun _ m8 =>
chk9 (iR (l4 + 1)) <|
X11_letGo_8 kr k37 n l0 l1 l2 l3 (l4 + 1) m8)
def X11_letGo_0 (kr : Int → Int → Int → Mem → Option R2) (l0 l1 l2 : Int) (m : Mem) : Option R2 :=
chk9 (0 < l1) <|
X11_letGo_8 kr (X11_letGo_37 kr (X11_letGo_61 kr fuel9) fuel9) fuel9 l0 l1 l2 (m l1 6) 0 m
def X11_letGo : Nat → Int → Int → Int → Mem → Option R2
  | 0, _, _, _, _ => none
  | n + 1, a0, a1, a2, m => X11_letGo_0 (X11_letGo n) a0 a1 a2 m
def X11_beginAgain_94 (l1 l3 : Int) (m : Mem) : Option R2 :=
chk9 (0 < l3) <|
if m l3 10 = 0 then (
some (0, m))
else
chk9 (0 < l1) <|
chk9 (0 < m l1 6) <|
cal (X7_askCancel (m l1 6) m) fun v5 m6 =>
some (0, m6)
def X11_beginAgain_13 (k94 : Int → Int → Mem → Option R2) : Nat → Int → Int → Int → Int → Mem → Option R2
  | 0, _, _, _, _, _ => none
  | n + 1, l0, l1, l3, l4, m => (
chk9 (0 < l3) <|
chk9 (0 < m l3 0) <|
if m (m l3 0) 3 ≤ l4 then (
k94 l1 l3 m)
else
if 80 ≤ l4 then (
k94 l1 l3 m)
else
chk9 (0 < m (m l3 0) 0 ∧ 0 ≤ l4 ∧ l4 < 80) <|
if m (m (m l3 0) 0) l4 = 4 then (
chk9 (0 < l0) <|
chk9 (0 < m l0 4) <|
chk9 (0 < m (m l0 4) 1 ∧ 0 ≤ l4 ∧ l4 < 80) <|
if m (m (m l0 4) 1) l4 = 0 then (
chk9 (0 < l1) <|
chk9 (0 < m (m l3 0) 1 ∧ 0 ≤ l4 ∧ l4 < 80) <|
chk9 (0 < m (m l3 0) 2 ∧ 0 ≤ l4 ∧ l4 < 80) <|
chk9 (0 < m l1 6) <|
cal (X7_happen (m l1 6) 4 (m (m (m l3 0) 1) l4) (m (m (m l3 0) 2) l4) m) fun v25 m26 =>
chk9 (iR (l4 + 1)) <|
X11_beginAgain_13 k94 n l0 l1 l3 (l4 + 1) m26)
else
chk9 (iR (l4 + 1)) <|
X11_beginAgain_13 k94 n l0 l1 l3 (l4 + 1) m)
else
chk9 (iR (l4 + 1)) <|
X11_beginAgain_13 k94 n l0 l1 l3 (l4 + 1) m)
def X11_beginAgain_0 (l0 l1 l2 : Int) (m : Mem) : Option R2 :=
chk9 (0 < l1) <|
cal (X10_beginRun l1 l2 m) fun _ m3 =>
X11_beginAgain_13 (X11_beginAgain_94) fuel9 l0 l1 (m l1 6) 0 m3
def X11_beginAgain (a0 a1 a2 : Int) (m : Mem) : Option R2 := X11_beginAgain_0 a0 a1 a2 m
def X11_closeIfOver_151 (s0 s1 s2 s3 : Int) (m : Mem) : Option R2 :=
chk9 (0 < s3) <|
cal (X7_happen s3 s2 s1 s0 m) fun v2 m3 =>
some (0, m3)
def X11_closeIfOver_0 (l0 l1 : Int) (m : Mem) : Option R2 :=
chk9 (0 < l1) <|
chk9 (0 < m l1 6) <|
chk9 (0 < m (m l1 6) 0) <|
chk9 (iR (m (m (m l1 6) 0) 3 - 1)) <|
cal (X11_isWithin (m (m (m l1 6) 0) 3 - 1) 0 79 m) fun v5 m6 =>
if v5 = 0 then (
some (0, m6))
else
chk9 (0 < m6 (m (m l1 6) 0) 0 ∧ 0 ≤ (m (m (m l1 6) 0) 3 - 1) ∧ (m (m (m l1 6) 0) 3 - 1) < 80) <|
if m6 (m6 (m (m l1 6) 0) 0) (m (m (m l1 6) 0) 3 - 1) = 16 then (
chk9 (0 < m6 (m (m l1 6) 0) 1 ∧ 0 ≤ (m (m (m l1 6) 0) 3 - 1) ∧ (m (m (m l1 6) 0) 3 - 1) < 80) <|
chk9 (0 < m6 (m (m l1 6) 0) 2 ∧ 0 ≤ (m (m (m l1 6) 0) 3 - 1) ∧ (m (m (m l1 6) 0) 3 - 1) < 80) <|
chk9 (0 < m6 l1 6) <|
cal (X7_stop (m6 l1 6) (m6 (m6 (m (m l1 6) 0) 1) (m (m (m l1 6) 0) 3 - 1)) m6) fun _ m21 =>
chk9 (0 < l0) <|
cal (X11_letGo 20 l0 l1 0 m21) fun _ m25 =>
if m6 (m6 (m (m l1 6) 0) 1) (m (m (m l1 6) 0) 3 - 1) = 14 then (
cal (X11_beginAgain l0 l1 (m6 (m6 (m (m l1 6) 0) 2) (m (m (m l1 6) 0) 3 - 1)) m25) fun _ m42 =>
some (0, m42))
else
chk9 (iR (m25 l0 5 - 1)) <|
cal (X11_isWithin (m25 l1 7) 0 (m25 l0 5 - 1) m25) fun v29 m30 =>
if v29 = 0 then (
some (0, m30))
else
chk9 (0 < m30 l0 1 ∧ 0 ≤ m30 l1 7 ∧ m30 l1 7 < 10) <|
chk9 (0 < m30 (m30 l0 1) (m30 l1 7)) <|
if m30 (m30 (m30 l0 1) (m30 l1 7)) 5 = m30 l1 8 then (
chk9 (0 ≤ m30 l1 7 ∧ m30 l1 7 < 10) <|
if m6 (m6 (m (m l1 6) 0) 1) (m (m (m l1 6) 0) 3 - 1) = 21 then (
X11_closeIfOver_151 (m6 (m6 (m (m l1 6) 0) 2) (m (m (m l1 6) 0) 3 - 1)) (m30 l1 9) 5 (m30 (m30 (m30 l0 1) (m30 l1 7)) 6) m30)
else
X11_closeIfOver_151 (-1) (m30 l1 9) 5 (m30 (m30 (m30 l0 1) (m30 l1 7)) 6) m30)
else
some (0, m30))
else
some (0, m6)
def X11_closeIfOver (a0 a1 : Int) (m : Mem) : Option R2 := X11_closeIfOver_0 a0 a1 m
def X11_decide_0 (l0 l1 l2 : Int) (m : Mem) : Option R3 :=
chk9 (0 < l0) <|
calX (X11_flowOf l0 l1 m) fun v2 m3 =>
calX (X11_programOf l0 v2 l2 m3) fun v5 m6 =>
chk9 (0 < v2) <|
chk9 (0 < m6 v2 6) <|
if m6 (m6 v2 6) 7 = 20 then (
cal (X7_hasNews (m6 v2 6) m6) fun v11 m12 =>
if v11 = 0 then (
some (0, (-1), m12))
else
chk9 (0 < m12 l0 4) <|
cal (X4_play (m12 l0 4) v5 (m12 (m6 v2 6) 0) (m12 v2 5) 1 m12) fun v16 m17 =>
if v16 = 0 then (
some (0, (-2), m17))
else
cal (X11_putDown l0 v2 l2 m17) fun _ m21 =>
cal (X11_closeIfOver l0 v2 m21) fun _ m24 =>
cal (X7_tellUnmade (m6 v2 6) m24) fun _ m27 =>
chk9 (0 < m27 l0 4) <|
chk9 (0 < m27 (m27 l0 4) 0) <|
some (0, m27 (m27 (m27 l0 4) 0) 3, m27))
else
some (3, 0, thr9 m6)
def X11_decide (a0 a1 a2 : Int) (m : Mem) : Option R3 := X11_decide_0 a0 a1 a2 m
def X11_handOf_0 (l0 l1 : Int) (m : Mem) : Option R3 :=
cal (X11_isWithin l1 0 3 m) fun v1 m2 =>
if v1 = 0 then (
some (1, 0, thr9 m2))
else
chk9 (0 < l0) <|
chk9 (0 < m2 l0 3 ∧ 0 ≤ l1 ∧ l1 < 4) <|
some (0, m2 (m2 l0 3) l1, m2)
def X11_handOf (a0 a1 : Int) (m : Mem) : Option R3 := X11_handOf_0 a0 a1 m
def X11_checkQueue_0 (l0 : Int) (m : Mem) : Option R3 :=
cal (X11_isWithin l0 0 1 m) fun v1 m2 =>
if v1 = 0 then (
some (1, 0, thr9 m2))
else
some (0, 0, m2)
def X11_checkQueue (a0 : Int) (m : Mem) : Option R3 := X11_checkQueue_0 a0 m
def X11_lineOf_0 (l0 l1 : Int) (m : Mem) : Option R3 :=
calX (X11_checkQueue l1 m) fun _ m2 =>
chk9 (0 < l0) <|
chk9 (0 < m2 l0 2 ∧ 0 ≤ l1 ∧ l1 < 2) <|
some (0, m2 (m2 l0 2) l1, m2)
def X11_lineOf (a0 a1 : Int) (m : Mem) : Option R3 := X11_lineOf_0 a0 a1 m
def X11_nextOn_29 (k5 : Int → Int → Int → Int → Int → Mem → Option R2) : Nat → Int → Int → Int → Int → Int → Int → Int → Mem → Option R2
  | 0, _, _, _, _, _, _, _, _ => none
  | n + 1, l0, l1, l2, l3, l4, l5, l6, m => (
chk9 (0 < l5) <|
if m l5 3 ≤ l6 then (
chk9 (iR (l4 + 1)) <|
k5 l0 l1 l2 l3 (l4 + 1) m)
else
chk9 (0 < m l5 1 ∧ 0 ≤ l6 ∧ l6 < 80) <|
chk9 (0 < m (m l5 1) l6) <|
cal (X0_isReadyOn (m (m l5 1) l6) l2 m) fun v8 m9 =>
if v8 = 0 then (
chk9 (iR (l6 + 1)) <|
X11_nextOn_29 k5 n l0 l1 l2 l3 l4 l5 (l6 + 1) m9)
else
if l3 = 0 then (
chk9 (iR (l6 + 1)) <|
X11_nextOn_29 k5 n l0 l1 l2 (m (m l5 1) l6) l4 l5 (l6 + 1) m9)
else
chk9 (0 < l1) <|
cal (X6_prefers l1 (m (m l5 1) l6) l3 m9) fun v16 m17 =>
if v16 = 0 then (
chk9 (iR (l6 + 1)) <|
X11_nextOn_29 k5 n l0 l1 l2 l3 l4 l5 (l6 + 1) m17)
else
chk9 (iR (l6 + 1)) <|
X11_nextOn_29 k5 n l0 l1 l2 (m (m l5 1) l6) l4 l5 (l6 + 1) m17)
def X11_nextOn_5 : Nat → Int → Int → Int → Int → Int → Mem → Option R2
  | 0, _, _, _, _, _, _ => none
  | n + 1, l0, l1, l2, l3, l4, m => (
chk9 (0 < l0) <|
if m l0 5 ≤ l4 then (
some (l3, m))
else
chk9 (0 < m l0 1 ∧ 0 ≤ l4 ∧ l4 < 10) <|
chk9 (0 < m (m l0 1) l4) <|
X11_nextOn_29 (X11_nextOn_5 n) fuel9 l0 l1 l2 l3 l4 (m (m (m l0 1) l4) 6) 0 m)
def X11_nextOn_0 (l0 l1 l2 : Int) (m : Mem) : Option R2 :=
X11_nextOn_5 fuel9 l0 l1 l2 0 0 m
def X11_nextOn (a0 a1 a2 : Int) (m : Mem) : Option R2 := X11_nextOn_0 a0 a1 a2 m
def X11_take_0 (l0 l1 l2 : Int) (m : Mem) : Option R3 :=
chk9 (0 < l0) <|
calX (X11_handOf l0 l1 m) fun v2 m3 =>
calX (X11_lineOf l0 l2 m3) fun v5 m6 =>
chk9 (0 < v2) <|
if m6 v2 0 = 0 then (
some (3, 0, thr9 m6))
else
if m6 v2 1 = 0 then (
chk9 (0 < v5) <|
if m6 v5 2 < m6 v5 1 then (
cal (X11_nextOn l0 v5 l2 m6) fun v13 m14 =>
if v13 = 0 then (
some (0, (-1), m14))
else
chk9 (0 < v13) <|
cal (X6_countTaken v5 (m14 v13 3) m14) fun _ m19 =>
chk9 (iR (m19 l0 7 + 10)) <|
cal (X0_lease v13 (m19 l0 7 + 10) m19) fun _ m23 =>
st9 (upd9 m23 v2 1 v13) fun m25 =>
some (0, m25 v13 5, m25))
else
some (0, (-1), m6))
else
some (3, 0, thr9 m6)
def X11_take (a0 a1 a2 : Int) (m : Mem) : Option R3 := X11_take_0 a0 a1 a2 m
def X11_has_0 (l0 l1 : Int) (m : Mem) : Option R3 :=
chk9 (0 < l0) <|
calX (X11_handOf l0 l1 m) fun v2 m3 =>
chk9 (0 < v2) <|
if m3 v2 1 = 0 then (
some (0, (-1), m3))
else
chk9 (0 < m3 v2 1) <|
some (0, m3 (m3 v2 1) 5, m3)
def X11_has (a0 a1 : Int) (m : Mem) : Option R3 := X11_has_0 a0 a1 m
def X11_activityOf_0 (l0 : Int) (m : Mem) : Option R3 :=
chk9 (0 < l0) <|
if m l0 1 = 0 then (
some (3, 0, thr9 m))
else
some (0, m l0 1, m)
def X11_activityOf (a0 : Int) (m : Mem) : Option R3 := X11_activityOf_0 a0 m
def X11_beat_0 (l0 l1 : Int) (m : Mem) : Option R3 :=
chk9 (0 < l0) <|
calX (X11_handOf l0 l1 m) fun v2 m3 =>
calX (X11_activityOf v2 m3) fun v5 m6 =>
chk9 (iR (m6 l0 7 + 10)) <|
chk9 (0 < v5) <|
st9 (upd9 m6 v5 8 (m6 l0 7 + 10)) fun m10 =>
some (0, m10 v5 8, m10)
def X11_beat (a0 a1 : Int) (m : Mem) : Option R3 := X11_beat_0 a0 a1 m
def X11_end_0 (l0 l1 l2 : Int) (m : Mem) : Option R3 :=
chk9 (0 < l0) <|
calX (X11_handOf l0 l1 m) fun v2 m3 =>
cal (X11_isWithin l2 (-99) 99 m3) fun v5 m6 =>
if v5 = 0 then (
some (2, 0, thr9 m6))
else
calX (X11_activityOf v2 m6) fun v9 m10 =>
cal (X11_takeOff l0 v9 m10) fun _ m13 =>
chk9 (0 < v9) <|
chk9 (0 < m13 v9 0) <|
cal (X7_happen (m13 v9 0) 1 (m13 v9 1) l2 m13) fun v17 m18 =>
some (0, v17, m18)
def X11_end (a0 a1 a2 : Int) (m : Mem) : Option R3 := boolX (X11_end_0 a0 a1 a2 m)
def X11_loseTry_0 (l0 l1 : Int) (m : Mem) : Option R2 :=
chk9 (0 < l1) <|
if m l1 9 < 3 then (
chk9 (0 < l0) <|
cal (X11_freeHandsOf l0 l1 m) fun _ m5 =>
st9 (upd9 m5 l1 6 2) fun m7 =>
chk9 (iR (2 * m7 l1 9)) <|
chk9 (iR (m7 l0 7 + (2 * m7 l1 9))) <|
st9 (upd9 m7 l1 8 (m7 l0 7 + (2 * m7 l1 9))) fun m10 =>
some (0, m10))
else
chk9 (0 < l0) <|
cal (X11_takeOff l0 l1 m) fun _ m13 =>
chk9 (0 < m13 l1 0) <|
cal (X7_happen (m13 l1 0) 2 (m13 l1 1) 0 m13) fun v16 m17 =>
some (0, m17)
def X11_loseTry (a0 a1 : Int) (m : Mem) : Option R2 := X11_loseTry_0 a0 a1 m
def X11_fail_0 (l0 l1 : Int) (m : Mem) : Option R3 :=
chk9 (0 < l0) <|
calX (X11_handOf l0 l1 m) fun v2 m3 =>
calX (X11_activityOf v2 m3) fun v5 m6 =>
cal (X11_loseTry l0 v5 m6) fun _ m9 =>
chk9 (0 < v5) <|
some (0, m9 v5 9, m9)
def X11_fail (a0 a1 : Int) (m : Mem) : Option R3 := X11_fail_0 a0 a1 m
def X11_run_18 (l2 l3 s0 : Int) (m : Mem) : Option R3 :=
chk9 (0 < l3 ∧ (l2 = 0 ∨ l2 = 1)) <|
st9 (upd9 m l3 0 l2) fun m3 =>
if l2 = 0 then (
st9 (upd9 m3 l3 1 0) fun m5 =>
some (0, s0, m5))
else
some (0, s0, m3)
def X11_run_0 (l0 l1 l2 : Int) (m : Mem) : Option R3 :=
chk9 (0 < l0) <|
calX (X11_handOf l0 l1 m) fun v2 m3 =>
chk9 (0 < v2) <|
if m3 v2 1 = 0 then (
X11_run_18 l2 v2 0 m3)
else
X11_run_18 l2 v2 1 m3
def X11_run (a0 a1 a2 : Int) (m : Mem) : Option R3 := boolX (X11_run_0 a0 a1 a2 m)
def X11_ready_8 : Nat → Int → Int → Int → Int → Mem → Option R3
  | 0, _, _, _, _, _ => none
  | n + 1, l0, l1, l2, l3, m => (
chk9 (0 < l0) <|
if m l0 5 ≤ l3 then (
some (0, l2, m))
else
chk9 (0 < m l0 1 ∧ 0 ≤ l3 ∧ l3 < 10) <|
chk9 (0 < m (m l0 1) l3) <|
chk9 (0 < m (m (m l0 1) l3) 6) <|
cal (X7_countReady (m (m (m l0 1) l3) 6) l1 m) fun v8 m9 =>
chk9 (iR (l2 + v8)) <|
chk9 (iR (l3 + 1)) <|
X11_ready_8 n l0 l1 (l2 + v8) (l3 + 1) m9)
def X11_ready_0 (l0 l1 : Int) (m : Mem) : Option R3 :=
calX (X11_checkQueue l1 m) fun _ m2 =>
X11_ready_8 fuel9 l0 l1 0 0 m2
def X11_ready (a0 a1 : Int) (m : Mem) : Option R3 := X11_ready_0 a0 a1 m
def X11_endLeases_2 : Nat → Int → Int → Int → Mem → Option R2
  | 0, _, _, _, _ => none
  | n + 1, l0, l1, l2, m => (
chk9 (0 < l1) <|
if m l1 3 ≤ l2 then (
some (0, m))
else
chk9 (0 < m l1 1 ∧ 0 ≤ l2 ∧ l2 < 80) <|
chk9 (0 < m (m l1 1) l2) <|
if m (m (m l1 1) l2) 6 = 1 then (
chk9 (0 < l0) <|
if m l0 7 < m (m (m l1 1) l2) 8 then (
chk9 (iR (l2 + 1)) <|
X11_endLeases_2 n l0 l1 (l2 + 1) m)
else
cal (X11_loseTry l0 (m (m l1 1) l2) m) fun _ m13 =>
chk9 (iR (l2 + 1)) <|
X11_endLeases_2 n l0 l1 (l2 + 1) m13)
else
chk9 (iR (l2 + 1)) <|
X11_endLeases_2 n l0 l1 (l2 + 1) m)
def X11_endLeases_0 (l0 l1 : Int) (m : Mem) : Option R2 :=
X11_endLeases_2 fuel9 l0 l1 0 m
def X11_endLeases (a0 a1 : Int) (m : Mem) : Option R2 := X11_endLeases_0 a0 a1 m
def X11_passTick_96 : Nat → Int → Int → Mem → Option R2
  | 0, _, _, _ => none
  | n + 1, l0, l1, m => (
chk9 (0 < l0) <|
if m l0 5 ≤ l1 then (
some (0, m))
else
chk9 (0 < m l0 1 ∧ 0 ≤ l1 ∧ l1 < 10) <|
chk9 (0 < m (m l0 1) l1) <|
chk9 (0 < m (m (m l0 1) l1) 6) <|
cal (X7_wakeActivities (m (m (m l0 1) l1) 6) (m l0 7) m) fun _ m9 =>
chk9 (iR (l1 + 1)) <|
X11_passTick_96 n l0 (l1 + 1) m9)
def X11_passTick_67 (k96 : Int → Int → Mem → Option R2) : Nat → Int → Int → Mem → Option R2
  | 0, _, _, _ => none
  | n + 1, l0, l1, m => (
chk9 (0 < l0) <|
if m l0 5 ≤ l1 then (
k96 l0 0 m)
else
chk9 (0 < m l0 1 ∧ 0 ≤ l1 ∧ l1 < 10) <|
chk9 (0 < m (m l0 1) l1) <|
cal (X11_endLeases l0 (m (m (m l0 1) l1) 6) m) fun _ m8 =>
chk9 (iR (l1 + 1)) <|
X11_passTick_67 k96 n l0 (l1 + 1) m8)
def X11_passTick_35 (k67 : Int → Int → Mem → Option R2) : Nat → Int → Int → Mem → Option R2
  | 0, _, _, _ => none
  | n + 1, l0, l1, m => (
chk9 (0 < l0) <|
if m l0 5 ≤ l1 then (
k67 l0 0 m)
else
chk9 (0 < m l0 1 ∧ 0 ≤ l1 ∧ l1 < 10) <|
chk9 (0 < m (m l0 1) l1) <|
chk9 (0 < m (m (m l0 1) l1) 6) <|
cal (X7_fireTimers (m (m (m l0 1) l1) 6) (m l0 7) m) fun _ m9 =>
chk9 (iR (l1 + 1)) <|
X11_passTick_35 k67 n l0 (l1 + 1) m9)
def X11_passTick_12 (k35 : Int → Int → Mem → Option R2) : Nat → Int → Int → Mem → Option R2
  | 0, _, _, _ => none
  | n + 1, l0, l1, m => (
if 2 ≤ l1 then (
k35 l0 0 m)
else
chk9 (0 < l0) <|
chk9 (0 < m l0 2 ∧ 0 ≤ l1 ∧ l1 < 2) <|
chk9 (0 < m (m l0 2) l1) <|
st9 (upd9 m (m (m l0 2) l1) 2 0) fun m7 =>
chk9 (iR (l1 + 1)) <|
X11_passTick_12 k35 n l0 (l1 + 1) m7)
def X11_passTick_0 (l0 : Int) (m : Mem) : Option R2 :=
chk9 (0 < l0) <|
chk9 (iR (m l0 7 + 1)) <|
st9 (upd9 m l0 7 (m l0 7 + 1)) fun m3 =>
X11_passTick_12 (X11_passTick_35 (X11_passTick_67 (X11_passTick_96 fuel9) fuel9) fuel9) fuel9 l0 0 m3
def X11_passTick (a0 : Int) (m : Mem) : Option R2 := X11_passTick_0 a0 m
def X11_tick_23 : Nat → Int → Int → Int → Mem → Option R3
  | 0, _, _, _, _ => none
  | n + 1, l0, l1, l2, m => (
if l1 ≤ l2 then (
chk9 (0 < l0) <|
some (0, m l0 7, m))
else
chk9 (0 < l0) <|
cal (X11_passTick l0 m) fun _ m5 =>
chk9 (iR (l2 + 1)) <|
X11_tick_23 n l0 l1 (l2 + 1) m5)
def X11_tick_0 (l0 l1 : Int) (m : Mem) : Option R3 :=
cal (X11_isWithin l1 1 50 m) fun v1 m2 =>
if v1 = 0 then (
some (2, 0, thr9 m2))
else
X11_tick_23 fuel9 l0 l1 0 m2
def X11_tick (a0 a1 : Int) (m : Mem) : Option R3 := X11_tick_0 a0 a1 m
def X11_clock_0 (l0 : Int) (m : Mem) : Option R2 :=
chk9 (0 < l0) <|
some (m l0 7, m)
def X11_clock (a0 : Int) (m : Mem) : Option R2 := X11_clock_0 a0 m
def X11_workflows_0 (l0 : Int) (m : Mem) : Option R2 :=
chk9 (0 < l0) <|
some (m l0 5, m)
def X11_workflows (a0 : Int) (m : Mem) : Option R2 := X11_workflows_0 a0 m
def X11_parent_0 (l0 l1 : Int) (m : Mem) : Option R3 :=
chk9 (0 < l0) <|
calX (X11_flowOf l0 l1 m) fun v2 m3 =>
chk9 (0 < v2) <|
some (0, m3 v2 7, m3)
def X11_parent (a0 a1 : Int) (m : Mem) : Option R3 := X11_parent_0 a0 a1 m
def X11_runs_0 (l0 l1 : Int) (m : Mem) : Option R3 :=
chk9 (0 < l0) <|
calX (X11_flowOf l0 l1 m) fun v2 m3 =>
chk9 (0 < v2) <|
some (0, m3 v2 5, m3)
def X11_runs (a0 a1 : Int) (m : Mem) : Option R3 := X11_runs_0 a0 a1 m
def X11_runOf_0 (l0 l1 l2 : Int) (m : Mem) : Option R3 :=
chk9 (0 < l0) <|
calX (X11_flowOf l0 l1 m) fun v2 m3 =>
chk9 (0 < v2) <|
cal (X11_isWithin l2 1 (m3 v2 5) m3) fun v6 m7 =>
if v6 = 0 then (
some (1, 0, thr9 m7))
else
chk9 (iR (l2 - 1)) <|
chk9 (0 < m7 v2 4 ∧ 0 ≤ (l2 - 1) ∧ (l2 - 1) < 9) <|
some (0, m7 (m7 v2 4) (l2 - 1), m7)
def X11_runOf (a0 a1 a2 : Int) (m : Mem) : Option R3 := X11_runOf_0 a0 a1 a2 m
def X11_state_0 (l0 l1 l2 : Int) (m : Mem) : Option R3 :=
chk9 (0 < l0) <|
calX (X11_runOf l0 l1 l2 m) fun v2 m3 =>
chk9 (0 < v2) <|
some (0, m3 v2 7, m3)
def X11_state (a0 a1 a2 : Int) (m : Mem) : Option R3 := X11_state_0 a0 a1 a2 m
def X11_events_0 (l0 l1 l2 : Int) (m : Mem) : Option R3 :=
chk9 (0 < l0) <|
calX (X11_runOf l0 l1 l2 m) fun v2 m3 =>
chk9 (0 < v2) <|
chk9 (0 < m3 v2 0) <|
some (0, m3 (m3 v2 0) 3, m3)
def X11_events (a0 a1 a2 : Int) (m : Mem) : Option R3 := X11_events_0 a0 a1 a2 m
def X11_historyWith_0 (l0 l1 l2 l3 : Int) (m : Mem) : Option R3 :=
chk9 (0 < l0) <|
calX (X11_runOf l0 l1 l2 m) fun v2 m3 =>
chk9 (0 < v2) <|
chk9 (0 < m3 v2 0) <|
chk9 (iR (m3 (m3 v2 0) 3 - 1)) <|
cal (X11_isWithin l3 0 (m3 (m3 v2 0) 3 - 1) m3) fun v8 m9 =>
if v8 = 0 then (
some (1, 0, thr9 m9))
else
some (0, m3 v2 0, m9)
def X11_historyWith (a0 a1 a2 a3 : Int) (m : Mem) : Option R3 := X11_historyWith_0 a0 a1 a2 a3 m
def X11_eventKind_0 (l0 l1 l2 l3 : Int) (m : Mem) : Option R3 :=
chk9 (0 < l0) <|
calX (X11_historyWith l0 l1 l2 l3 m) fun v2 m3 =>
chk9 (0 < v2) <|
chk9 (0 < m3 v2 0 ∧ 0 ≤ l3 ∧ l3 < 80) <|
some (0, m3 (m3 v2 0) l3, m3)
def X11_eventKind (a0 a1 a2 a3 : Int) (m : Mem) : Option R3 := X11_eventKind_0 a0 a1 a2 a3 m
def X11_eventNumber_0 (l0 l1 l2 l3 l4 : Int) (m : Mem) : Option R3 :=
chk9 (0 < l0) <|
calX (X11_historyWith l0 l1 l2 l3 m) fun v2 m3 =>
if l4 = 0 then (
chk9 (0 < v2) <|
chk9 (0 < m3 v2 2 ∧ 0 ≤ l3 ∧ l3 < 80) <|
some (0, m3 (m3 v2 2) l3, m3))
else
chk9 (0 < v2) <|
chk9 (0 < m3 v2 1 ∧ 0 ≤ l3 ∧ l3 < 80) <|
some (0, m3 (m3 v2 1) l3, m3)
def X11_eventNumber (a0 a1 a2 a3 a4 : Int) (m : Mem) : Option R3 := X11_eventNumber_0 a0 a1 a2 a3 a4 m
def X11_checkProperty_0 (l0 : Int) (m : Mem) : Option R3 :=
cal (X11_isWithin l0 0 1 m) fun v1 m2 =>
if v1 = 0 then (
some (2, 0, thr9 m2))
else
some (0, 0, m2)
def X11_checkProperty (a0 : Int) (m : Mem) : Option R3 := X11_checkProperty_0 a0 m
def X11_found_26 : Nat → Int → Int → Int → Int → Int → Int → Mem → Option R3
  | 0, _, _, _, _, _, _, _ => none
  | n + 1, l0, l1, l2, l3, l4, l5, m => (
chk9 (0 < l0) <|
if m l0 5 ≤ l5 then (
some (0, l4, m))
else
chk9 (0 < m l0 1 ∧ 0 ≤ l5 ∧ l5 < 10) <|
chk9 (0 < m (m l0 1) l5) <|
chk9 (0 < m (m (m l0 1) l5) 6) <|
if m (m (m (m l0 1) l5) 6) 7 = 20 then (
chk9 (0 ≤ l5 ∧ l5 < 10) <|
chk9 (0 < m (m (m l0 1) l5) 3 ∧ 0 ≤ l1 ∧ l1 < 2) <|
cal (X11_isWithin (m (m (m (m l0 1) l5) 3) l1) l2 l3 m) fun v15 m16 =>
if v15 = 0 then (
chk9 (iR (l5 + 1)) <|
X11_found_26 n l0 l1 l2 l3 l4 (l5 + 1) m16)
else
chk9 (iR (l4 + 1)) <|
chk9 (iR (l5 + 1)) <|
X11_found_26 n l0 l1 l2 l3 (l4 + 1) (l5 + 1) m16)
else
chk9 (iR (l5 + 1)) <|
X11_found_26 n l0 l1 l2 l3 l4 (l5 + 1) m)
def X11_found_0 (l0 l1 l2 l3 : Int) (m : Mem) : Option R3 :=
calX (X11_checkProperty l1 m) fun _ m2 =>
if l2 ≤ l3 then (
X11_found_26 fuel9 l0 l1 l2 l3 0 0 m2)
else
some (2, 0, thr9 m2)
def X11_found (a0 a1 a2 a3 : Int) (m : Mem) : Option R3 := X11_found_0 a0 a1 a2 a3 m
def X11_isDue_0 (l0 l1 : Int) (m : Mem) : Option R3 :=
chk9 (0 < l0) <|
calX (X11_flowOf l0 l1 m) fun v2 m3 =>
chk9 (0 < v2) <|
chk9 (0 < m3 v2 6) <|
if m3 (m3 v2 6) 7 = 20 then (
cal (X7_hasNews (m3 v2 6) m3) fun v8 m9 =>
if v8 = 0 then (
some (0, 0, m9))
else
some (0, 1, m9))
else
some (0, 0, m3)
def X11_isDue (a0 a1 : Int) (m : Mem) : Option R3 := boolX (X11_isDue_0 a0 a1 m)
def X11_register_0 (l0 l1 : Int) (m : Mem) : Option R3 :=
chk9 (0 < l0) <|
calX (X11_flowOf l0 l1 m) fun v2 m3 =>
chk9 (0 < v2) <|
chk9 (0 < m3 v2 6) <|
some (0, m3 (m3 v2 6) 8, m3)
def X11_register (a0 a1 : Int) (m : Mem) : Option R3 := X11_register_0 a0 a1 m
def X11_place_0 (l0 l1 : Int) (m : Mem) : Option R3 :=
chk9 (0 < l0) <|
calX (X11_flowOf l0 l1 m) fun v2 m3 =>
chk9 (0 < v2) <|
chk9 (0 < m3 v2 6) <|
some (0, m3 (m3 v2 6) 9, m3)
def X11_place (a0 a1 : Int) (m : Mem) : Option R3 := X11_place_0 a0 a1 m
def X11_registerAnew_0 (l0 l1 l2 : Int) (m : Mem) : Option R3 :=
chk9 (0 < l0) <|
calX (X11_flowOf l0 l1 m) fun v2 m3 =>
calX (X11_programOf l0 v2 l2 m3) fun v5 m6 =>
chk9 (0 < v2) <|
chk9 (0 < m6 v2 6) <|
chk9 (0 < m6 l0 4) <|
cal (X4_play (m6 l0 4) v5 (m6 (m6 v2 6) 0) (m6 v2 5) 0 m6) fun v11 m12 =>
if v11 = 0 then (
some (0, (-2000), m12))
else
chk9 (0 < m12 l0 4) <|
some (0, m12 (m12 l0 4) 2, m12)
def X11_registerAnew (a0 a1 a2 : Int) (m : Mem) : Option R3 := X11_registerAnew_0 a0 a1 a2 m
def L_asks_0 (l0 l1 l2 l3 l4 l5 : Int) (m : Mem) : Option R3 :=
if l1 = 0 then (
chk9 (0 < l0) <|
calX (X11_step l0 l2 l3 l4 l5 m) fun v59 m60 =>
some (0, v59, m60))
else
if l1 = 1 then (
chk9 (0 < l0) <|
calX (X11_release l0 l2 m) fun v53 m54 =>
some (0, v53, m54))
else
if l1 = 2 then (
chk9 (0 < l0) <|
calX (X11_start l0 l2 l3 l4 m) fun v47 m48 =>
some (0, v47, m48))
else
if l1 = 3 then (
chk9 (0 < l0) <|
calX (X11_decide l0 l2 l3 m) fun v41 m42 =>
some (0, v41, m42))
else
if l1 = 4 then (
chk9 (0 < l0) <|
calX (X11_take l0 l2 l3 m) fun v35 m36 =>
some (0, v35, m36))
else
if l1 = 5 then (
chk9 (0 < l0) <|
calX (X11_beat l0 l2 m) fun v29 m30 =>
some (0, v29, m30))
else
if l1 = 6 then (
chk9 (0 < l0) <|
calX (X11_end l0 l2 l3 m) fun v22 m23 =>
if v22 = 0 then (
some (0, 0, m23))
else
some (0, 1, m23))
else
if l1 = 7 then (
chk9 (0 < l0) <|
calX (X11_fail l0 l2 m) fun v16 m17 =>
some (0, v16, m17))
else
chk9 (0 < l0) <|
calX (X11_registerAnew l0 l2 l3 m) fun v10 m11 =>
some (0, v10, m11)
def L_asks (a0 a1 a2 a3 a4 a5 : Int) (m : Mem) : Option R3 := L_asks_0 a0 a1 a2 a3 a4 a5 m
def L_on_0 (l0 l1 l2 l3 l4 l5 : Int) (m : Mem) : Option R2 :=
calT (L_asks l0 l1 l2 l3 l4 l5 m) (fun v1 m2 =>
some (v1, m2)) (fun e5 m2 =>
if e5 = 1 then (
some ((-90001), m2))
else
if e5 = 2 then (
some ((-90002), m2))
else
if e5 = 3 then (
some ((-90003), m2))
else
none)
def L_on (a0 a1 a2 a3 a4 a5 : Int) (m : Mem) : Option R2 := L_on_0 a0 a1 a2 a3 a4 a5 m
def L_isHistory_392 (l0 l1 l2 l4 : Int) (m : Mem) : Option R2 :=
chk9 (0 < l0) <|
cal0 (X11_runs l0 l1 m) fun v2 m3 =>
if l2 = v2 then (
some (1, m3))
else
if l4 = 14 then (
some (1, m3))
else
some (0, m3)
def L_isHistory_376 (l0 l1 l2 l3 l4 s0 s1 : Int) (m : Mem) : Option R2 :=
if s1 = s0 then (
if l4 = 20 then (
L_isHistory_392 l0 l1 l2 l4 m)
else
if 80 < l3 then (
some (0, m))
else
L_isHistory_392 l0 l1 l2 l4 m)
else
some (0, m)
def L_isHistory_348 (l0 l1 l2 l3 l4 l6 s0 : Int) (m : Mem) : Option R2 :=
if l6 = 0 then (
some (0, m))
else
if l4 = 20 then (
L_isHistory_376 l0 l1 l2 l3 l4 0 s0 m)
else
if l4 = 24 then (
L_isHistory_376 l0 l1 l2 l3 l4 0 s0 m)
else
L_isHistory_376 l0 l1 l2 l3 l4 1 s0 m
def L_isHistory_329 (l0 l1 l2 l3 l4 l6 : Int) (m : Mem) : Option R2 :=
chk9 (iR (l3 - 1)) <|
chk9 (0 < l0) <|
cal0 (X11_eventKind l0 l1 l2 (l3 - 1) m) fun v3 m4 =>
if v3 = 16 then (
L_isHistory_348 l0 l1 l2 l3 l4 l6 1 m4)
else
L_isHistory_348 l0 l1 l2 l3 l4 l6 0 m4
def L_isHistory_310 (k60 : Int → Int → Int → Int → Int → Int → Int → Int → Int → Int → Int → Int → Mem → Option R2) (l0 l1 l2 l3 l4 l5 l7 l8 l9 l10 l11 : Int) (m : Mem) : Option R2 :=
if 2 ≤ l10 then (
chk9 (iR (l11 + 1)) <|
k60 l0 l1 l2 l3 l4 l5 0 l7 l8 l9 l10 (l11 + 1) m)
else
chk9 (iR (l11 + 1)) <|
k60 l0 l1 l2 l3 l4 l5 1 l7 l8 l9 l10 (l11 + 1) m
def L_isHistory_297 (k60 : Int → Int → Int → Int → Int → Int → Int → Int → Int → Int → Int → Int → Mem → Option R2) (l0 l1 l2 l3 l4 l5 l7 l8 l9 l10 l11 l12 l13 : Int) (m : Mem) : Option R2 :=
if l12 = 5 then (
if l9 ≤ l13 then (
chk9 (iR (l11 + 1)) <|
k60 l0 l1 l2 l3 l4 l5 0 l7 l8 l9 l10 (l11 + 1) m)
else
L_isHistory_310 k60 l0 l1 l2 l3 l4 l5 l7 l8 l9 l10 l11 m)
else
L_isHistory_310 k60 l0 l1 l2 l3 l4 l5 l7 l8 l9 l10 l11 m
def L_isHistory_290 (k60 : Int → Int → Int → Int → Int → Int → Int → Int → Int → Int → Int → Int → Mem → Option R2) (l0 l1 l2 l3 l4 l5 l7 l8 l9 l10 l11 l12 l13 : Int) (m : Mem) : Option R2 :=
if l8 ≤ l13 then (
chk9 (iR (l11 + 1)) <|
k60 l0 l1 l2 l3 l4 l5 0 l7 l8 l9 l10 (l11 + 1) m)
else
L_isHistory_297 k60 l0 l1 l2 l3 l4 l5 l7 l8 l9 l10 l11 l12 l13 m
def L_isHistory_277 (k60 : Int → Int → Int → Int → Int → Int → Int → Int → Int → Int → Int → Int → Mem → Option R2) (l0 l1 l2 l3 l4 l5 l7 l8 l9 l10 l11 l12 l13 : Int) (m : Mem) : Option R2 :=
if l12 = 3 then (
L_isHistory_290 k60 l0 l1 l2 l3 l4 l5 l7 l8 l9 l10 l11 l12 l13 m)
else
if l12 = 11 then (
L_isHistory_290 k60 l0 l1 l2 l3 l4 l5 l7 l8 l9 l10 l11 l12 l13 m)
else
L_isHistory_297 k60 l0 l1 l2 l3 l4 l5 l7 l8 l9 l10 l11 l12 l13 m
def L_isHistory_270 (k60 : Int → Int → Int → Int → Int → Int → Int → Int → Int → Int → Int → Int → Mem → Option R2) (l0 l1 l2 l3 l4 l5 l7 l8 l9 l10 l11 l12 l13 : Int) (m : Mem) : Option R2 :=
if l7 ≤ l13 then (
chk9 (iR (l11 + 1)) <|
k60 l0 l1 l2 l3 l4 l5 0 l7 l8 l9 l10 (l11 + 1) m)
else
L_isHistory_277 k60 l0 l1 l2 l3 l4 l5 l7 l8 l9 l10 l11 l12 l13 m
def L_isHistory_243 (k60 : Int → Int → Int → Int → Int → Int → Int → Int → Int → Int → Int → Int → Mem → Option R2) (l0 l1 l2 l3 l4 l5 l6 l7 l8 l9 l11 l12 l13 s0 s1 : Int) (m : Mem) : Option R2 :=
chk9 (iR (s1 + s0)) <|
if l6 = 0 then (
chk9 (iR (l11 + 1)) <|
k60 l0 l1 l2 l3 l4 l5 0 l7 l8 l9 (s1 + s0) (l11 + 1) m)
else
if l12 = 1 then (
L_isHistory_270 k60 l0 l1 l2 l3 l4 l5 l7 l8 l9 (s1 + s0) l11 l12 l13 m)
else
if l12 = 2 then (
L_isHistory_270 k60 l0 l1 l2 l3 l4 l5 l7 l8 l9 (s1 + s0) l11 l12 l13 m)
else
if l12 = 9 then (
L_isHistory_270 k60 l0 l1 l2 l3 l4 l5 l7 l8 l9 (s1 + s0) l11 l12 l13 m)
else
L_isHistory_277 k60 l0 l1 l2 l3 l4 l5 l7 l8 l9 (s1 + s0) l11 l12 l13 m
def L_isHistory_226 (k60 : Int → Int → Int → Int → Int → Int → Int → Int → Int → Int → Int → Int → Mem → Option R2) (l0 l1 l2 l3 l4 l5 l6 l7 l8 l10 l11 l12 l13 s0 s1 : Int) (m : Mem) : Option R2 :=
chk9 (iR (s1 + s0)) <|
if l12 = 6 then (
L_isHistory_243 k60 l0 l1 l2 l3 l4 l5 l6 l7 l8 (s1 + s0) l11 l12 l13 1 l10 m)
else
L_isHistory_243 k60 l0 l1 l2 l3 l4 l5 l6 l7 l8 (s1 + s0) l11 l12 l13 0 l10 m
def L_isHistory_209 (k60 : Int → Int → Int → Int → Int → Int → Int → Int → Int → Int → Int → Int → Mem → Option R2) (l0 l1 l2 l3 l4 l5 l6 l7 l9 l10 l11 l12 l13 s0 s1 : Int) (m : Mem) : Option R2 :=
chk9 (iR (s1 + s0)) <|
if l12 = 12 then (
L_isHistory_226 k60 l0 l1 l2 l3 l4 l5 l6 l7 (s1 + s0) l10 l11 l12 l13 1 l9 m)
else
L_isHistory_226 k60 l0 l1 l2 l3 l4 l5 l6 l7 (s1 + s0) l10 l11 l12 l13 0 l9 m
def L_isHistory_192 (k60 : Int → Int → Int → Int → Int → Int → Int → Int → Int → Int → Int → Int → Mem → Option R2) (l0 l1 l2 l3 l4 l5 l6 l8 l9 l10 l11 l12 l13 s0 s1 : Int) (m : Mem) : Option R2 :=
chk9 (iR (s1 + s0)) <|
if l12 = 10 then (
L_isHistory_209 k60 l0 l1 l2 l3 l4 l5 l6 (s1 + s0) l9 l10 l11 l12 l13 1 l8 m)
else
L_isHistory_209 k60 l0 l1 l2 l3 l4 l5 l6 (s1 + s0) l9 l10 l11 l12 l13 0 l8 m
def L_isHistory_169 (k60 : Int → Int → Int → Int → Int → Int → Int → Int → Int → Int → Int → Int → Mem → Option R2) (l0 l1 l2 l3 l4 l6 l7 l8 l9 l10 l11 l12 l13 s0 : Int) (m : Mem) : Option R2 :=
if l12 = 8 then (
L_isHistory_192 k60 l0 l1 l2 l3 l4 s0 l6 l8 l9 l10 l11 l12 l13 1 l7 m)
else
if l12 = 15 then (
L_isHistory_192 k60 l0 l1 l2 l3 l4 s0 l6 l8 l9 l10 l11 l12 l13 1 l7 m)
else
L_isHistory_192 k60 l0 l1 l2 l3 l4 s0 l6 l8 l9 l10 l11 l12 l13 0 l7 m
def L_isHistory_143 (k60 : Int → Int → Int → Int → Int → Int → Int → Int → Int → Int → Int → Int → Mem → Option R2) (l0 l1 l2 l3 l4 l5 l7 l8 l9 l10 l11 l12 l13 s0 : Int) (m : Mem) : Option R2 :=
if l12 = 7 then (
L_isHistory_169 k60 l0 l1 l2 l3 l4 s0 l7 l8 l9 l10 l11 l12 l13 1 m)
else
if l5 = 0 then (
L_isHistory_169 k60 l0 l1 l2 l3 l4 s0 l7 l8 l9 l10 l11 l12 l13 0 m)
else
if l12 ≤ 7 then (
L_isHistory_169 k60 l0 l1 l2 l3 l4 s0 l7 l8 l9 l10 l11 l12 l13 0 m)
else
L_isHistory_169 k60 l0 l1 l2 l3 l4 s0 l7 l8 l9 l10 l11 l12 l13 1 m
def L_isHistory_116 (k60 : Int → Int → Int → Int → Int → Int → Int → Int → Int → Int → Int → Int → Mem → Option R2) (l0 l1 l2 l3 l4 l5 l7 l8 l9 l10 l11 l12 l13 : Int) (m : Mem) : Option R2 :=
if l12 = 16 then (
chk9 (iR (l3 - 1)) <|
if l11 = (l3 - 1) then (
if l13 = l4 then (
L_isHistory_143 k60 l0 l1 l2 l3 l4 l5 l7 l8 l9 l10 l11 l12 l13 1 m)
else
L_isHistory_143 k60 l0 l1 l2 l3 l4 l5 l7 l8 l9 l10 l11 l12 l13 0 m)
else
L_isHistory_143 k60 l0 l1 l2 l3 l4 l5 l7 l8 l9 l10 l11 l12 l13 0 m)
else
L_isHistory_143 k60 l0 l1 l2 l3 l4 l5 l7 l8 l9 l10 l11 l12 l13 1 m
def L_isHistory_60 (k329 : Int → Int → Int → Int → Int → Int → Mem → Option R2) : Nat → Int → Int → Int → Int → Int → Int → Int → Int → Int → Int → Int → Int → Mem → Option R2
  | 0, _, _, _, _, _, _, _, _, _, _, _, _, _ => none
  | n + 1, l0, l1, l2, l3, l4, l5, l6, l7, l8, l9, l10, l11, m => (
if l3 ≤ l11 then (
k329 l0 l1 l2 l3 l4 l6 m)
else
if l6 = 0 then (
k329 l0 l1 l2 l3 l4 l6 m)
else
chk9 (0 < l0) <|
cal0 (X11_eventKind l0 l1 l2 l11 m) fun v4 m5 =>
cal0 (X11_eventNumber l0 l1 l2 l11 1 m5) fun v7 m8 =>
if v4 ≤ 0 then (
L_isHistory_143 (L_isHistory_60 k329 n) l0 l1 l2 l3 l4 l5 l7 l8 l9 l10 l11 v4 v7 0 m8)
else
if 17 ≤ v4 then (
L_isHistory_143 (L_isHistory_60 k329 n) l0 l1 l2 l3 l4 l5 l7 l8 l9 l10 l11 v4 v7 0 m8)
else
if v4 < 8 then (
L_isHistory_116 (L_isHistory_60 k329 n) l0 l1 l2 l3 l4 l5 l7 l8 l9 l10 l11 v4 v7 m8)
else
if l5 = 0 then (
L_isHistory_143 (L_isHistory_60 k329 n) l0 l1 l2 l3 l4 l5 l7 l8 l9 l10 l11 v4 v7 0 m8)
else
L_isHistory_116 (L_isHistory_60 k329 n) l0 l1 l2 l3 l4 l5 l7 l8 l9 l10 l11 v4 v7 m8)
def L_isHistory_43 (l0 l1 l2 l3 l4 l5 s0 : Int) (m : Mem) : Option R2 :=
L_isHistory_60 (L_isHistory_329) fuel9 l0 l1 l2 l3 l4 l5 s0 0 0 0 0 1 m
def L_isHistory_0 (l0 l1 l2 : Int) (m : Mem) : Option R2 :=
chk9 (0 < l0) <|
cal0 (X11_events l0 l1 l2 m) fun v2 m3 =>
cal0 (X11_state l0 l1 l2 m3) fun v5 m6 =>
if v2 ≤ 0 then (
L_isHistory_43 l0 l1 l2 v2 v5 0 0 m6)
else
if 80 < v2 then (
L_isHistory_43 l0 l1 l2 v2 v5 0 0 m6)
else
cal0 (X11_eventKind l0 l1 l2 0 m6) fun v10 m11 =>
if v10 = 0 then (
L_isHistory_43 l0 l1 l2 v2 v5 0 1 m11)
else
L_isHistory_43 l0 l1 l2 v2 v5 0 0 m11
def L_isHistory (a0 a1 a2 : Int) (m : Mem) : Option R2 := boolR (L_isHistory_0 a0 a1 a2 m)
def L_isFlow_126 (l0 l1 l2 s0 : Int) (m : Mem) : Option R2 :=
if s0 = 0 then (
some (0, m))
else
chk9 (0 < l0) <|
cal0 (X11_isDue l0 l1 m) fun v3 m4 =>
if v3 = 0 then (
some (1, m4))
else
cal0 (X11_events l0 l1 l2 m4) fun v7 m8 =>
chk9 (iR (v7 - 1)) <|
cal0 (X11_eventKind l0 l1 l2 (v7 - 1) m8) fun v11 m12 =>
if 7 ≤ v11 then (
some (0, m12))
else
some (1, m12)
def L_isFlow_111 (l0 l1 l2 : Int) (m : Mem) : Option R2 :=
chk9 (0 < l0) <|
cal0 (X11_place l0 l1 m) fun v2 m3 =>
if 12 ≤ v2 then (
L_isFlow_126 l0 l1 l2 0 m3)
else
L_isFlow_126 l0 l1 l2 1 m3
def L_isFlow_81 (l0 l1 l2 l3 s0 : Int) (m : Mem) : Option R2 :=
if s0 = 0 then (
L_isFlow_126 l0 l1 l2 0 m)
else
if l3 = 20 then (
L_isFlow_111 l0 l1 l2 m)
else
chk9 (0 < l0) <|
cal0 (X11_place l0 l1 m) fun v4 m5 =>
if v4 = (-1) then (
cal0 (X11_isDue l0 l1 m5) fun v8 m9 =>
if v8 = 0 then (
L_isFlow_111 l0 l1 l2 m9)
else
L_isFlow_126 l0 l1 l2 0 m9)
else
L_isFlow_126 l0 l1 l2 0 m5
def L_isFlow_0 (l0 l1 : Int) (m : Mem) : Option R2 :=
chk9 (0 < l0) <|
cal0 (X11_runs l0 l1 m) fun v2 m3 =>
cal0 (X11_state l0 l1 v2 m3) fun v5 m6 =>
cal0 (X11_register l0 l1 m6) fun v8 m9 =>
if v2 ≤ 0 then (
L_isFlow_81 l0 l1 v2 v5 0 m9)
else
if 10 ≤ v2 then (
L_isFlow_81 l0 l1 v2 v5 0 m9)
else
if v5 < 20 then (
L_isFlow_81 l0 l1 v2 v5 0 m9)
else
if 25 ≤ v5 then (
L_isFlow_81 l0 l1 v2 v5 0 m9)
else
if v8 < (-999) then (
L_isFlow_81 l0 l1 v2 v5 0 m9)
else
if 999 < v8 then (
L_isFlow_81 l0 l1 v2 v5 0 m9)
else
cal0 (X11_parent l0 l1 m9) fun v17 m18 =>
if v17 = (-1) then (
L_isFlow_81 l0 l1 v2 v5 1 m18)
else
cal0 (X11_parent l0 l1 m18) fun v21 m22 =>
if l1 ≤ v21 then (
L_isFlow_81 l0 l1 v2 v5 0 m22)
else
L_isFlow_81 l0 l1 v2 v5 1 m22
def L_isFlow (a0 a1 : Int) (m : Mem) : Option R2 := boolR (L_isFlow_0 a0 a1 m)
def L_decides_142 (l5 l7 : Int) (m : Mem) : Option R2 :=
if l7 = (-2) then (
if l5 = 0 then (
some (0, m))
else
some (1, m))
else
some (1, m)
def L_decides_128 (l5 l7 s0 s1 : Int) (m : Mem) : Option R2 :=
if s1 = s0 then (
if l7 = (-1) then (
if l5 = 0 then (
L_decides_142 l5 l7 m)
else
some (0, m))
else
L_decides_142 l5 l7 m)
else
some (0, m)
def L_decides_116 (l5 l6 l7 s0 : Int) (m : Mem) : Option R2 :=
if l6 = 20 then (
L_decides_128 l5 l7 0 s0 m)
else
L_decides_128 l5 l7 1 s0 m
def L_decides_88 (l0 l1 l3 l4 l5 l6 l7 l8 : Int) (m : Mem) : Option R2 :=
if l8 = l4 then (
chk9 (0 < l0) <|
cal0 (X11_runs l0 l1 m) fun v3 m4 =>
if v3 = l3 then (
if l7 = (-90003) then (
L_decides_116 l5 l6 l7 1 m4)
else
L_decides_116 l5 l6 l7 0 m4)
else
some (0, m4))
else
some (0, m)
def L_decides_412 (l0 l1 l4 l7 l8 l10 : Int) (m : Mem) : Option R2 :=
if l10 = 0 then (
chk9 (iR (l4 + 1)) <|
chk9 (iR ((l4 + 1) + l7)) <|
if ((l4 + 1) + l7) < l8 then (
some (1, m))
else
chk9 (0 < l0) <|
cal0 (X11_isDue l0 l1 m) fun v6 m7 =>
if v6 = 0 then (
some (1, m7))
else
some (0, m7))
else
some (1, m)
def L_decides_373 (l0 l1 l2 l3 l4 l7 l8 l9 l10 s0 : Int) (m : Mem) : Option R2 :=
if l9 = 0 then (
some (0, m))
else
chk9 (0 < l0) <|
cal0 (X11_runs l0 l1 m) fun v3 m4 =>
if l3 < v3 then (
L_decides_412 l0 l1 l4 l7 l8 l10 m4)
else
if s0 = 0 then (
cal (L_on l0 8 l1 l2 0 0 m4) fun v8 m9 =>
cal0 (X11_register l0 l1 m9) fun v11 m12 =>
if v8 = v11 then (
L_decides_412 l0 l1 l4 l7 l8 l10 m12)
else
some (0, m12))
else
L_decides_412 l0 l1 l4 l7 l8 l10 m4
def L_decides_344 (l0 l1 l2 l3 l4 l7 l8 l10 s0 : Int) (m : Mem) : Option R2 :=
if l10 = 0 then (
L_decides_373 l0 l1 l2 l3 l4 l7 l8 s0 l10 0 m)
else
chk9 (iR (l4 + l7)) <|
chk9 (0 < l0) <|
cal0 (X11_eventNumber l0 l1 l3 (l4 + l7) 0 m) fun v4 m5 =>
if v4 = 8 then (
L_decides_373 l0 l1 l2 l3 l4 l7 l8 s0 l10 1 m5)
else
L_decides_373 l0 l1 l2 l3 l4 l7 l8 s0 l10 0 m5
def L_decides_336 (l0 l1 l2 l3 l4 l7 l8 l10 s0 s1 : Int) (m : Mem) : Option R2 :=
if s1 = s0 then (
L_decides_344 l0 l1 l2 l3 l4 l7 l8 l10 1 m)
else
L_decides_344 l0 l1 l2 l3 l4 l7 l8 l10 0 m
def L_decides_309 (l0 l1 l2 l3 l4 l7 l8 l10 s0 : Int) (m : Mem) : Option R2 :=
if l10 = 0 then (
L_decides_336 l0 l1 l2 l3 l4 l7 l8 l10 0 s0 m)
else
chk9 (iR (l4 + l7)) <|
chk9 (0 < l0) <|
cal0 (X11_eventNumber l0 l1 l3 (l4 + l7) 1 m) fun v4 m5 =>
if v4 = 14 then (
L_decides_336 l0 l1 l2 l3 l4 l7 l8 l10 1 s0 m5)
else
L_decides_336 l0 l1 l2 l3 l4 l7 l8 l10 0 s0 m5
def L_decides_293 (l0 l1 l2 l3 l4 l7 l8 l10 : Int) (m : Mem) : Option R2 :=
chk9 (0 < l0) <|
cal0 (X11_runs l0 l1 m) fun v2 m3 =>
chk9 (iR (l3 + 1)) <|
if v2 = (l3 + 1) then (
L_decides_309 l0 l1 l2 l3 l4 l7 l8 l10 1 m3)
else
L_decides_309 l0 l1 l2 l3 l4 l7 l8 l10 0 m3
def L_decides_273 (l0 l1 l2 l3 l4 l7 l8 l10 s0 s1 : Int) (m : Mem) : Option R2 :=
if s1 = s0 then (
if l10 = 0 then (
L_decides_293 l0 l1 l2 l3 l4 l7 l8 l10 m)
else
chk9 (iR (l4 + 1)) <|
chk9 (iR ((l4 + 1) + l7)) <|
if l8 = ((l4 + 1) + l7) then (
L_decides_293 l0 l1 l2 l3 l4 l7 l8 l10 m)
else
L_decides_344 l0 l1 l2 l3 l4 l7 l8 l10 0 m)
else
L_decides_344 l0 l1 l2 l3 l4 l7 l8 l10 0 m
def L_decides_248 (l0 l1 l2 l3 l4 l7 l8 l9 s0 : Int) (m : Mem) : Option R2 :=
if l9 = 0 then (
L_decides_344 l0 l1 l2 l3 l4 l7 l8 s0 0 m)
else
chk9 (0 < l0) <|
cal0 (X11_state l0 l1 l3 m) fun v3 m4 =>
if v3 = 20 then (
L_decides_273 l0 l1 l2 l3 l4 l7 l8 s0 0 s0 m4)
else
L_decides_273 l0 l1 l2 l3 l4 l7 l8 s0 1 s0 m4
def L_decides_220 (l0 l1 l2 l3 l4 l7 l8 s0 : Int) (m : Mem) : Option R2 :=
if l7 ≤ 0 then (
L_decides_248 l0 l1 l2 l3 l4 l7 l8 s0 0 m)
else
chk9 (iR (l4 + l7)) <|
chk9 (0 < l0) <|
cal0 (X11_eventKind l0 l1 l3 (l4 + l7) m) fun v4 m5 =>
if v4 = 16 then (
L_decides_248 l0 l1 l2 l3 l4 l7 l8 s0 1 m5)
else
L_decides_248 l0 l1 l2 l3 l4 l7 l8 s0 0 m5
def L_decides_0 (l0 l1 l2 : Int) (m : Mem) : Option R2 :=
chk9 (0 < l0) <|
cal0 (X11_runs l0 l1 m) fun v2 m3 =>
cal0 (X11_events l0 l1 v2 m3) fun v5 m6 =>
cal0 (X11_isDue l0 l1 m6) fun v8 m9 =>
cal0 (X11_state l0 l1 v2 m9) fun v11 m12 =>
cal (L_on l0 3 l1 l2 0 0 m12) fun v14 m15 =>
cal0 (X11_events l0 l1 v2 m15) fun v17 m18 =>
if v14 = (-90001) then (
if v17 = v5 then (
some (1, m18))
else
some (0, m18))
else
if v14 = (-90003) then (
L_decides_88 l0 l1 v2 v5 v8 v11 v14 v17 m18)
else
if v14 = (-1) then (
L_decides_88 l0 l1 v2 v5 v8 v11 v14 v17 m18)
else
if v14 = (-2) then (
L_decides_88 l0 l1 v2 v5 v8 v11 v14 v17 m18)
else
if v14 < 0 then (
L_decides_220 l0 l1 l2 v2 v5 v14 v17 0 m18)
else
if v8 = 0 then (
L_decides_220 l0 l1 l2 v2 v5 v14 v17 0 m18)
else
chk9 (iR (v5 + 1)) <|
chk9 (iR ((v5 + 1) + v14)) <|
if v17 < ((v5 + 1) + v14) then (
L_decides_220 l0 l1 l2 v2 v5 v14 v17 0 m18)
else
if 80 < v17 then (
L_decides_220 l0 l1 l2 v2 v5 v14 v17 0 m18)
else
cal0 (X11_eventKind l0 l1 v2 v5 m18) fun v30 m31 =>
if v30 = 7 then (
cal0 (X11_eventNumber l0 l1 v2 v5 1 m31) fun v34 m35 =>
if v34 = l2 then (
L_decides_220 l0 l1 l2 v2 v5 v14 v17 1 m35)
else
L_decides_220 l0 l1 l2 v2 v5 v14 v17 0 m35)
else
L_decides_220 l0 l1 l2 v2 v5 v14 v17 0 m31
def L_decides (a0 a1 a2 : Int) (m : Mem) : Option R2 := boolR (L_decides_0 a0 a1 a2 m)
def L_areWorkers_125 (l0 l1 : Int) (m : Mem) : Option R2 :=
if l1 = 0 then (
some (0, m))
else
chk9 (0 < l0) <|
cal0 (X11_ready l0 0 m) fun v3 m4 =>
if v3 < 0 then (
some (0, m4))
else
cal0 (X11_ready l0 1 m4) fun v7 m8 =>
if v7 < 0 then (
some (0, m8))
else
some (1, m8)
def L_areWorkers_55 (k4 : Int → Int → Int → Mem → Option R2) (l0 l1 l2 l3 : Int) (m : Mem) : Option R2 :=
chk9 (-1 ≤ l3) <|
if l1 = 0 then (
chk9 (iR (l2 + 1)) <|
k4 l0 0 (l2 + 1) m)
else
if l3 = (-1) then (
chk9 (iR (l2 + 1)) <|
k4 l0 1 (l2 + 1) m)
else
chk9 (0 < l0) <|
cal (X11_workflows l0 m) fun v7 m8 =>
if v7 ≤ (if l3 < 0 then 0 else l3 / 1000) then (
chk9 (iR (l2 + 1)) <|
k4 l0 0 (l2 + 1) m8)
else
cal0 (X11_runs l0 (if l3 < 0 then 0 else l3 / 1000) m8) fun v12 m13 =>
cal0 (X11_state l0 (if l3 < 0 then 0 else l3 / 1000) v12 m13) fun v15 m16 =>
if v15 = 20 then (
chk9 (0 ≤ l3) <|
chk9 (0 ≤ (l3 / 100)) <|
cal0 (X11_runs l0 (if l3 < 0 then 0 else l3 / 1000) m16) fun v22 m23 =>
if ((l3 / 100) % 10) = v22 then (
chk9 (iR (l2 + 1)) <|
k4 l0 1 (l2 + 1) m23)
else
chk9 (iR (l2 + 1)) <|
k4 l0 0 (l2 + 1) m23)
else
chk9 (iR (l2 + 1)) <|
k4 l0 0 (l2 + 1) m16
def L_areWorkers_18 (k55 : Int → Int → Int → Int → Mem → Option R2) : Nat → Int → Int → Int → Int → Int → Mem → Option R2
  | 0, _, _, _, _, _, _ => none
  | n + 1, l0, l1, l2, l3, l4, m => (
if l2 ≤ l4 then (
k55 l0 l1 l2 l3 m)
else
if l1 = 0 then (
k55 l0 l1 l2 l3 m)
else
if l3 = (-1) then (
chk9 (iR (l4 + 1)) <|
L_areWorkers_18 k55 n l0 1 l2 l3 (l4 + 1) m)
else
chk9 (0 < l0) <|
cal0 (X11_has l0 l4 m) fun v6 m7 =>
if v6 = l3 then (
chk9 (iR (l4 + 1)) <|
L_areWorkers_18 k55 n l0 0 l2 l3 (l4 + 1) m7)
else
chk9 (iR (l4 + 1)) <|
L_areWorkers_18 k55 n l0 1 l2 l3 (l4 + 1) m7)
def L_areWorkers_4 (k125 : Int → Int → Mem → Option R2) : Nat → Int → Int → Int → Mem → Option R2
  | 0, _, _, _, _ => none
  | n + 1, l0, l1, l2, m => (
if 4 ≤ l2 then (
k125 l0 l1 m)
else
chk9 (0 < l0) <|
cal0 (X11_has l0 l2 m) fun v3 m4 =>
L_areWorkers_18 (L_areWorkers_55 (L_areWorkers_4 k125 n)) fuel9 l0 l1 l2 v3 0 m4)
def L_areWorkers_0 (l0 : Int) (m : Mem) : Option R2 :=
L_areWorkers_4 (L_areWorkers_125) fuel9 l0 1 0 m
def L_areWorkers (a0 : Int) (m : Mem) : Option R2 := boolR (L_areWorkers_0 a0 m)
def L_packed_10 (l0 : Int) (m : Mem) : Option R2 :=
chk9 (0 ≤ (Int32.ofInt l0 >>> (Int32.ofInt 5 &&& 31)).toInt) <|
chk9 (iR (100 * ((Int32.ofInt l0 >>> (Int32.ofInt 5 &&& 31)).toInt % 6))) <|
chk9 (iR ((100 * ((Int32.ofInt l0 >>> (Int32.ofInt 5 &&& 31)).toInt % 6)) + (Int32.ofInt ((Int32.ofInt l0 >>> (Int32.ofInt 9 &&& 31)).toInt) &&& Int32.ofInt 1).toInt)) <|
some (((100 * ((Int32.ofInt l0 >>> (Int32.ofInt 5 &&& 31)).toInt % 6)) + (Int32.ofInt ((Int32.ofInt l0 >>> (Int32.ofInt 9 &&& 31)).toInt) &&& Int32.ofInt 1).toInt), m)
def L_packed_0 (l0 l1 : Int) (m : Mem) : Option R2 :=
if l1 = 0 then (
L_packed_10 l0 m)
else
if l1 = 9 then (
L_packed_10 l0 m)
else
if l1 = 1 then (
chk9 (0 ≤ (Int32.ofInt l0 >>> (Int32.ofInt 5 &&& 31)).toInt) <|
chk9 (iR (1 + ((Int32.ofInt l0 >>> (Int32.ofInt 5 &&& 31)).toInt % 9))) <|
chk9 (iR (100 * (1 + ((Int32.ofInt l0 >>> (Int32.ofInt 5 &&& 31)).toInt % 9)))) <|
some ((100 * (1 + ((Int32.ofInt l0 >>> (Int32.ofInt 5 &&& 31)).toInt % 9))), m))
else
if l1 = 2 then (
chk9 (0 ≤ (Int32.ofInt l0 >>> (Int32.ofInt 5 &&& 31)).toInt) <|
chk9 (iR (100 * ((Int32.ofInt l0 >>> (Int32.ofInt 5 &&& 31)).toInt % 3))) <|
chk9 (0 ≤ (Int32.ofInt l0 >>> (Int32.ofInt 9 &&& 31)).toInt) <|
chk9 (iR (1 + ((Int32.ofInt l0 >>> (Int32.ofInt 9 &&& 31)).toInt % 9))) <|
chk9 (iR ((Int32.ofInt ((Int32.ofInt l0 >>> (Int32.ofInt 8 &&& 31)).toInt) &&& Int32.ofInt 1).toInt * (1 + ((Int32.ofInt l0 >>> (Int32.ofInt 9 &&& 31)).toInt % 9)))) <|
chk9 (iR ((100 * ((Int32.ofInt l0 >>> (Int32.ofInt 5 &&& 31)).toInt % 3)) + ((Int32.ofInt ((Int32.ofInt l0 >>> (Int32.ofInt 8 &&& 31)).toInt) &&& Int32.ofInt 1).toInt * (1 + ((Int32.ofInt l0 >>> (Int32.ofInt 9 &&& 31)).toInt % 9))))) <|
some (((100 * ((Int32.ofInt l0 >>> (Int32.ofInt 5 &&& 31)).toInt % 3)) + ((Int32.ofInt ((Int32.ofInt l0 >>> (Int32.ofInt 8 &&& 31)).toInt) &&& Int32.ofInt 1).toInt * (1 + ((Int32.ofInt l0 >>> (Int32.ofInt 9 &&& 31)).toInt % 9)))), m))
else
if l1 = 3 then (
chk9 (0 ≤ (Int32.ofInt l0 >>> (Int32.ofInt 5 &&& 31)).toInt) <|
chk9 (iR (100 * ((Int32.ofInt l0 >>> (Int32.ofInt 5 &&& 31)).toInt % 2))) <|
chk9 (0 ≤ (Int32.ofInt l0 >>> (Int32.ofInt 8 &&& 31)).toInt) <|
chk9 (iR ((100 * ((Int32.ofInt l0 >>> (Int32.ofInt 5 &&& 31)).toInt % 2)) + ((Int32.ofInt l0 >>> (Int32.ofInt 8 &&& 31)).toInt % 3))) <|
some (((100 * ((Int32.ofInt l0 >>> (Int32.ofInt 5 &&& 31)).toInt % 2)) + ((Int32.ofInt l0 >>> (Int32.ofInt 8 &&& 31)).toInt % 3)), m))
else
if l1 = 4 then (
some (100, m))
else
if l1 = 10 then (
chk9 (0 ≤ (Int32.ofInt l0 >>> (Int32.ofInt 5 &&& 31)).toInt) <|
chk9 (iR (100 * ((Int32.ofInt l0 >>> (Int32.ofInt 5 &&& 31)).toInt % 4))) <|
chk9 (iR ((100 * ((Int32.ofInt l0 >>> (Int32.ofInt 5 &&& 31)).toInt % 4)) + 1)) <|
some (((100 * ((Int32.ofInt l0 >>> (Int32.ofInt 5 &&& 31)).toInt % 4)) + 1), m))
else
if l1 = 11 then (
chk9 (0 ≤ (Int32.ofInt l0 >>> (Int32.ofInt 5 &&& 31)).toInt) <|
chk9 (iR (1 + ((Int32.ofInt l0 >>> (Int32.ofInt 5 &&& 31)).toInt % 4))) <|
chk9 (iR (100 * (1 + ((Int32.ofInt l0 >>> (Int32.ofInt 5 &&& 31)).toInt % 4)))) <|
some ((100 * (1 + ((Int32.ofInt l0 >>> (Int32.ofInt 5 &&& 31)).toInt % 4))), m))
else
if l1 = 12 then (
chk9 (iR (100 * (Int32.ofInt ((Int32.ofInt l0 >>> (Int32.ofInt 5 &&& 31)).toInt) &&& Int32.ofInt 1).toInt)) <|
chk9 (0 ≤ (Int32.ofInt l0 >>> (Int32.ofInt 6 &&& 31)).toInt) <|
chk9 (iR ((100 * (Int32.ofInt ((Int32.ofInt l0 >>> (Int32.ofInt 5 &&& 31)).toInt) &&& Int32.ofInt 1).toInt) + ((Int32.ofInt l0 >>> (Int32.ofInt 6 &&& 31)).toInt % 100))) <|
some (((100 * (Int32.ofInt ((Int32.ofInt l0 >>> (Int32.ofInt 5 &&& 31)).toInt) &&& Int32.ofInt 1).toInt) + ((Int32.ofInt l0 >>> (Int32.ofInt 6 &&& 31)).toInt % 100)), m))
else
if l1 = 13 then (
chk9 (0 ≤ (Int32.ofInt l0 >>> (Int32.ofInt 5 &&& 31)).toInt) <|
chk9 (iR (1 + ((Int32.ofInt l0 >>> (Int32.ofInt 5 &&& 31)).toInt % 9))) <|
chk9 (iR (100 * (1 + ((Int32.ofInt l0 >>> (Int32.ofInt 5 &&& 31)).toInt % 9)))) <|
some ((100 * (1 + ((Int32.ofInt l0 >>> (Int32.ofInt 5 &&& 31)).toInt % 9))), m))
else
if 7 ≤ l1 then (
if 9 ≤ l1 then (
some (0, m))
else
chk9 (0 ≤ (Int32.ofInt l0 >>> (Int32.ofInt 5 &&& 31)).toInt) <|
chk9 (iR (100 * ((Int32.ofInt l0 >>> (Int32.ofInt 5 &&& 31)).toInt % 40))) <|
some ((100 * ((Int32.ofInt l0 >>> (Int32.ofInt 5 &&& 31)).toInt % 40)), m))
else
chk9 (0 ≤ (Int32.ofInt l0 >>> (Int32.ofInt 5 &&& 31)).toInt) <|
chk9 (iR (100 * ((Int32.ofInt l0 >>> (Int32.ofInt 5 &&& 31)).toInt % 30))) <|
chk9 (iR ((100 * ((Int32.ofInt l0 >>> (Int32.ofInt 5 &&& 31)).toInt % 30)) + 1)) <|
some (((100 * ((Int32.ofInt l0 >>> (Int32.ofInt 5 &&& 31)).toInt % 30)) + 1), m)
def L_packed (a0 a1 : Int) (m : Mem) : Option R2 := L_packed_0 a0 a1 m
def L_law_1333 (k360 : Int → Int → Int → Int → Mem → Option R2) (l1 l3 l4 l6 s0 : Int) (m : Mem) : Option R2 :=
if s0 = 0 then (
chk9 (iR (l4 + 1)) <|
k360 l1 s0 l3 (l4 + 1) m)
else
chk9 (0 < l1) <|
cal (X11_workflows l1 m) fun v4 m5 =>
if v4 ≤ 0 then (
chk9 (iR (l4 + 1)) <|
k360 l1 s0 l3 (l4 + 1) m5)
else
chk9 (0 ≤ l4) <|
if (l4 % 5) = 4 then (
cal (X11_workflows l1 m5) fun v12 m13 =>
chk9 (0 ≤ (Int32.ofInt l6 >>> (Int32.ofInt 3 &&& 31)).toInt ∧ 0 < v12) <|
cal0 (X11_runs l1 ((Int32.ofInt l6 >>> (Int32.ofInt 3 &&& 31)).toInt % v12) m13) fun v17 m18 =>
chk9 (0 ≤ (Int32.ofInt l6 >>> (Int32.ofInt 7 &&& 31)).toInt ∧ 0 < v17) <|
chk9 (iR (1 + ((Int32.ofInt l6 >>> (Int32.ofInt 7 &&& 31)).toInt % v17))) <|
cal (L_isHistory l1 ((Int32.ofInt l6 >>> (Int32.ofInt 3 &&& 31)).toInt % v12) (1 + ((Int32.ofInt l6 >>> (Int32.ofInt 7 &&& 31)).toInt % v17)) m18) fun v23 m24 =>
if v23 = 0 then (
chk9 (iR (l4 + 1)) <|
k360 l1 0 l3 (l4 + 1) m24)
else
cal0 (X11_found l1 0 (-999) 999 m24) fun v28 m29 =>
cal (X11_workflows l1 m29) fun v31 m32 =>
if v31 < v28 then (
chk9 (iR (l4 + 1)) <|
k360 l1 0 l3 (l4 + 1) m32)
else
chk9 (iR (l4 + 1)) <|
k360 l1 1 l3 (l4 + 1) m32)
else
chk9 (iR (l4 + 1)) <|
k360 l1 s0 l3 (l4 + 1) m5
def L_law_1319 (k360 : Int → Int → Int → Int → Mem → Option R2) (l1 l3 l4 l6 : Int) (m : Mem) : Option R2 :=
chk9 (0 < l1) <|
cal (X11_workflows l1 m) fun v2 m3 =>
if 10 < v2 then (
L_law_1333 k360 l1 l3 l4 l6 0 m3)
else
L_law_1333 k360 l1 l3 l4 l6 1 m3
def L_law_1287 (k360 : Int → Int → Int → Int → Mem → Option R2) (l1 l2 l3 l4 l6 : Int) (m : Mem) : Option R2 :=
if l2 = 0 then (
L_law_1333 k360 l1 l3 l4 l6 0 m)
else
cal (L_areWorkers l1 m) fun v2 m3 =>
if v2 = 0 then (
L_law_1333 k360 l1 l3 l4 l6 0 m3)
else
chk9 (0 < l1) <|
cal (X11_workflows l1 m3) fun v7 m8 =>
if v7 = 0 then (
L_law_1319 k360 l1 l3 l4 l6 m8)
else
cal (X11_workflows l1 m8) fun v11 m12 =>
chk9 (0 ≤ l6 ∧ 0 < v11) <|
cal (L_isFlow l1 (l6 % v11) m12) fun v16 m17 =>
if v16 = 0 then (
L_law_1333 k360 l1 l3 l4 l6 0 m17)
else
L_law_1319 k360 l1 l3 l4 l6 m17
def L_law_642 (k360 : Int → Int → Int → Int → Mem → Option R2) (l1 l3 l4 l6 l9 l13 s0 s1 s2 : Int) (m : Mem) : Option R2 :=
chk9 (iR (s1 + s0)) <|
if s2 = (s1 + s0) then (
if l13 = 0 then (
L_law_1287 k360 l1 1 l3 l4 l6 m)
else
chk9 (0 < l1) <|
cal0 (X11_isDue l1 l9 m) fun v5 m6 =>
if v5 = 0 then (
L_law_1287 k360 l1 0 l3 l4 l6 m6)
else
L_law_1287 k360 l1 1 l3 l4 l6 m6)
else
L_law_1287 k360 l1 0 l3 l4 l6 m
def L_law_619 (k360 : Int → Int → Int → Int → Mem → Option R2) (l1 l3 l4 l6 l9 l11 l12 l13 s0 s1 : Int) (m : Mem) : Option R2 :=
if s1 = s0 then (
chk9 (0 < l1) <|
cal0 (X11_events l1 l9 l11 m) fun v3 m4 =>
if l13 = 0 then (
L_law_642 k360 l1 l3 l4 l6 l9 l13 0 l12 v3 m4)
else
L_law_642 k360 l1 l3 l4 l6 l9 l13 1 l12 v3 m4)
else
L_law_1287 k360 l1 0 l3 l4 l6 m
def L_law_1209 (k360 : Int → Int → Int → Int → Mem → Option R2) (l1 l3 l4 l6 l10 l13 s0 : Int) (m : Mem) : Option R2 :=
if s0 = 0 then (
L_law_1287 k360 l1 0 l3 l4 l6 m)
else
if l13 = 0 then (
chk9 (0 < l1) <|
cal0 (X11_run l1 l10 1 m) fun v4 m5 =>
if v4 = 0 then (
L_law_1287 k360 l1 1 l3 l4 l6 m5)
else
L_law_1287 k360 l1 0 l3 l4 l6 m5)
else
L_law_1287 k360 l1 1 l3 l4 l6 m
def L_law_1188 (k360 : Int → Int → Int → Int → Mem → Option R2) (l1 l3 l4 l6 l10 l11 l13 : Int) (m : Mem) : Option R2 :=
if l13 = 0 then (
L_law_1209 k360 l1 l3 l4 l6 l10 l13 1 m)
else
chk9 (0 < l1) <|
cal0 (X11_has l1 l10 m) fun v3 m4 =>
if v3 = l11 then (
L_law_1209 k360 l1 l3 l4 l6 l10 l13 1 m4)
else
L_law_1209 k360 l1 l3 l4 l6 l10 l13 0 m4
def L_law_1170 (k360 : Int → Int → Int → Int → Mem → Option R2) (l1 l3 l4 l6 l10 l11 l13 s0 s1 : Int) (m : Mem) : Option R2 :=
if s1 = s0 then (
if l13 = 0 then (
chk9 (0 < l1) <|
cal0 (X11_has l1 l10 m) fun v4 m5 =>
if v4 = (-1) then (
L_law_1188 k360 l1 l3 l4 l6 l10 l11 l13 m5)
else
L_law_1209 k360 l1 l3 l4 l6 l10 l13 0 m5)
else
L_law_1188 k360 l1 l3 l4 l6 l10 l11 l13 m)
else
L_law_1209 k360 l1 l3 l4 l6 l10 l13 0 m
def L_law_1151 (k360 : Int → Int → Int → Int → Mem → Option R2) (l1 l3 l4 l6 l10 l11 l13 : Int) (m : Mem) : Option R2 :=
chk9 (0 < l1) <|
cal0 (X11_run l1 l10 l13 m) fun v2 m3 =>
if l11 ≤ (-1) then (
L_law_1170 k360 l1 l3 l4 l6 l10 l11 l13 0 v2 m3)
else
L_law_1170 k360 l1 l3 l4 l6 l10 l11 l13 1 v2 m3
def L_law_1121 (k360 : Int → Int → Int → Int → Mem → Option R2) (l1 l3 l4 l6 l10 l11 l12 s0 : Int) (m : Mem) : Option R2 :=
if l11 = (-1) then (
if l12 = (-90003) then (
L_law_1151 k360 l1 l3 l4 l6 l10 l11 s0 m)
else
L_law_1209 k360 l1 l3 l4 l6 l10 s0 0 m)
else
chk9 (0 < l1) <|
cal (X11_clock l1 m) fun v3 m4 =>
chk9 (iR (v3 + 10)) <|
if l12 = (v3 + 10) then (
L_law_1151 k360 l1 l3 l4 l6 l10 l11 s0 m4)
else
L_law_1209 k360 l1 l3 l4 l6 l10 s0 0 m4
def L_law_1078 (k360 : Int → Int → Int → Int → Mem → Option R2) (l1 l3 l4 l6 l7 l10 : Int) (m : Mem) : Option R2 :=
if l7 = 12 then (
chk9 (0 < l1) <|
cal0 (X11_has l1 l10 m) fun v19 m20 =>
cal (L_on l1 5 l10 0 0 0 m20) fun v22 m23 =>
if (Int32.ofInt ((Int32.ofInt l6 >>> (Int32.ofInt 6 &&& 31)).toInt) &&& Int32.ofInt 1).toInt = 1 then (
L_law_1121 k360 l1 l3 l4 l6 l10 v19 v22 1 m23)
else
L_law_1121 k360 l1 l3 l4 l6 l10 v19 v22 0 m23)
else
chk9 (0 < l1) <|
cal (X11_clock l1 m) fun v3 m4 =>
chk9 (0 ≤ (Int32.ofInt l6 >>> (Int32.ofInt 3 &&& 31)).toInt) <|
chk9 (iR (1 + ((Int32.ofInt l6 >>> (Int32.ofInt 3 &&& 31)).toInt % 6))) <|
cal0 (X11_tick l1 (1 + ((Int32.ofInt l6 >>> (Int32.ofInt 3 &&& 31)).toInt % 6)) m4) fun v8 m9 =>
chk9 (iR (v3 + (1 + ((Int32.ofInt l6 >>> (Int32.ofInt 3 &&& 31)).toInt % 6)))) <|
if v8 = (v3 + (1 + ((Int32.ofInt l6 >>> (Int32.ofInt 3 &&& 31)).toInt % 6))) then (
cal (X11_clock l1 m9) fun v13 m14 =>
chk9 (iR (v3 + (1 + ((Int32.ofInt l6 >>> (Int32.ofInt 3 &&& 31)).toInt % 6)))) <|
if v13 = (v3 + (1 + ((Int32.ofInt l6 >>> (Int32.ofInt 3 &&& 31)).toInt % 6))) then (
L_law_1287 k360 l1 1 l3 l4 l6 m14)
else
L_law_1287 k360 l1 0 l3 l4 l6 m14)
else
L_law_1287 k360 l1 0 l3 l4 l6 m9
def L_law_737 (k360 : Int → Int → Int → Int → Mem → Option R2) (l1 l3 l4 l6 l7 l9 l10 : Int) (m : Mem) : Option R2 :=
if 9 ≤ l7 then (
if 11 ≤ l7 then (
if l7 = 11 then (
chk9 (0 < l1) <|
cal0 (X11_has l1 l10 m) fun v22 m23 =>
chk9 (0 ≤ (Int32.ofInt l6 >>> (Int32.ofInt 6 &&& 31)).toInt) <|
cal (L_on l1 6 l10 ((Int32.ofInt l6 >>> (Int32.ofInt 6 &&& 31)).toInt % 99) 0 0 m23) fun v26 m27 =>
if v22 = (-1) then (
if v26 = (-90003) then (
L_law_1287 k360 l1 1 l3 l4 l6 m27)
else
L_law_1287 k360 l1 0 l3 l4 l6 m27)
else
cal0 (X11_has l1 l10 m27) fun v30 m31 =>
if v30 = (-1) then (
if v26 = 0 then (
L_law_1287 k360 l1 1 l3 l4 l6 m31)
else
chk9 (0 ≤ v22) <|
cal0 (X11_isDue l1 (v22 / 1000) m31) fun v36 m37 =>
if v36 = 0 then (
L_law_1287 k360 l1 0 l3 l4 l6 m37)
else
L_law_1287 k360 l1 1 l3 l4 l6 m37)
else
L_law_1287 k360 l1 0 l3 l4 l6 m31)
else
if l7 = 12 then (
if (Int32.ofInt ((Int32.ofInt l6 >>> (Int32.ofInt 5 &&& 31)).toInt) &&& Int32.ofInt 1).toInt = 0 then (
chk9 (0 < l1) <|
cal0 (X11_has l1 l10 m) fun v7 m8 =>
cal (L_on l1 7 l10 0 0 0 m8) fun v10 m11 =>
if v7 = (-1) then (
if v10 = (-90003) then (
L_law_1287 k360 l1 1 l3 l4 l6 m11)
else
L_law_1287 k360 l1 0 l3 l4 l6 m11)
else
if v10 ≤ 0 then (
L_law_1287 k360 l1 0 l3 l4 l6 m11)
else
if 4 ≤ v10 then (
L_law_1287 k360 l1 0 l3 l4 l6 m11)
else
cal0 (X11_has l1 l10 m11) fun v16 m17 =>
if v16 = (-1) then (
L_law_1287 k360 l1 1 l3 l4 l6 m17)
else
L_law_1287 k360 l1 0 l3 l4 l6 m17)
else
L_law_1078 k360 l1 l3 l4 l6 l7 l10 m)
else
L_law_1078 k360 l1 l3 l4 l6 l7 l10 m)
else
chk9 (0 < l1) <|
cal0 (X11_ready l1 ((Int32.ofInt ((Int32.ofInt l6 >>> (Int32.ofInt 4 &&& 31)).toInt) &&& Int32.ofInt 1).toInt) m) fun v42 m43 =>
cal0 (X11_has l1 l10 m43) fun v45 m46 =>
cal (L_on l1 4 l10 ((Int32.ofInt ((Int32.ofInt l6 >>> (Int32.ofInt 4 &&& 31)).toInt) &&& Int32.ofInt 1).toInt) 0 0 m46) fun v48 m49 =>
if v48 = (-90003) then (
cal0 (X11_ready l1 ((Int32.ofInt ((Int32.ofInt l6 >>> (Int32.ofInt 4 &&& 31)).toInt) &&& Int32.ofInt 1).toInt) m49) fun v67 m68 =>
if v67 = v42 then (
L_law_1287 k360 l1 1 l3 l4 l6 m68)
else
L_law_1287 k360 l1 0 l3 l4 l6 m68)
else
if v48 = (-1) then (
cal0 (X11_has l1 l10 m49) fun v63 m64 =>
if v63 = (-1) then (
L_law_1287 k360 l1 1 l3 l4 l6 m64)
else
L_law_1287 k360 l1 0 l3 l4 l6 m64)
else
if v45 = (-1) then (
cal0 (X11_has l1 l10 m49) fun v54 m55 =>
if v48 = v54 then (
cal0 (X11_ready l1 ((Int32.ofInt ((Int32.ofInt l6 >>> (Int32.ofInt 4 &&& 31)).toInt) &&& Int32.ofInt 1).toInt) m55) fun v58 m59 =>
chk9 (iR (v42 - 1)) <|
if v58 = (v42 - 1) then (
L_law_1287 k360 l1 1 l3 l4 l6 m59)
else
L_law_1287 k360 l1 0 l3 l4 l6 m59)
else
L_law_1287 k360 l1 0 l3 l4 l6 m55)
else
L_law_1287 k360 l1 0 l3 l4 l6 m49)
else
chk9 (0 ≤ (Int32.ofInt ((Int32.ofInt l6 >>> (Int32.ofInt 5 &&& 31)).toInt) &&& Int32.ofInt 3).toInt) <|
chk9 (iR (1 + ((Int32.ofInt ((Int32.ofInt l6 >>> (Int32.ofInt 5 &&& 31)).toInt) &&& Int32.ofInt 3).toInt / 3))) <|
cal (L_decides l1 l9 (1 + ((Int32.ofInt ((Int32.ofInt l6 >>> (Int32.ofInt 5 &&& 31)).toInt) &&& Int32.ofInt 3).toInt / 3)) m) fun v73 m74 =>
L_law_1287 k360 l1 v73 l3 l4 l6 m74
def L_law_546 (k360 : Int → Int → Int → Int → Mem → Option R2) (l1 l3 l4 l6 l7 l9 l10 : Int) (m : Mem) : Option R2 :=
if 3 ≤ l7 then (
if l7 = 3 then (
if (Int32.ofInt ((Int32.ofInt l6 >>> (Int32.ofInt 3 &&& 31)).toInt) &&& Int32.ofInt 3).toInt = 0 then (
chk9 (0 < l1) <|
cal0 (X11_cancel l1 l9 m) fun v5 m6 =>
if v5 = 0 then (
cal0 (X11_cancel l1 l9 m6) fun v9 m10 =>
if v9 = 0 then (
L_law_1287 k360 l1 1 l3 l4 l6 m10)
else
L_law_1287 k360 l1 0 l3 l4 l6 m10)
else
cal0 (X11_isDue l1 l9 m6) fun v13 m14 =>
if v13 = 0 then (
L_law_1287 k360 l1 0 l3 l4 l6 m14)
else
cal0 (X11_cancel l1 l9 m14) fun v17 m18 =>
if v17 = 0 then (
L_law_1287 k360 l1 1 l3 l4 l6 m18)
else
L_law_1287 k360 l1 0 l3 l4 l6 m18)
else
L_law_737 k360 l1 l3 l4 l6 l7 l9 l10 m)
else
L_law_737 k360 l1 l3 l4 l6 l7 l9 l10 m)
else
chk9 (0 < l1) <|
cal0 (X11_runs l1 l9 m) fun v22 m23 =>
cal0 (X11_events l1 l9 v22 m23) fun v25 m26 =>
chk9 (0 ≤ (Int32.ofInt l6 >>> (Int32.ofInt 4 &&& 31)).toInt) <|
chk9 (0 ≤ (Int32.ofInt l6 >>> (Int32.ofInt 7 &&& 31)).toInt) <|
cal0 (X11_signal l1 l9 ((Int32.ofInt l6 >>> (Int32.ofInt 4 &&& 31)).toInt % 3) ((Int32.ofInt l6 >>> (Int32.ofInt 7 &&& 31)).toInt % 60) m26) fun v30 m31 =>
cal0 (X11_state l1 l9 v22 m31) fun v33 m34 =>
if v33 = 20 then (
if 78 ≤ v25 then (
L_law_619 k360 l1 l3 l4 l6 l9 v22 v25 v30 0 v30 m34)
else
L_law_619 k360 l1 l3 l4 l6 l9 v22 v25 v30 1 v30 m34)
else
L_law_619 k360 l1 l3 l4 l6 l9 v22 v25 v30 0 v30 m34
def L_law_454 (k360 : Int → Int → Int → Int → Mem → Option R2) (l1 l3 l4 l6 l7 l8 s0 : Int) (m : Mem) : Option R2 :=
if l7 = 0 then (
if 7 ≤ l8 then (
L_law_546 k360 l1 l3 l4 l6 l7 s0 ((Int32.ofInt ((Int32.ofInt l6 >>> (Int32.ofInt 2 &&& 31)).toInt) &&& Int32.ofInt 3).toInt) m)
else
chk9 (0 ≤ (Int32.ofInt l6 >>> (Int32.ofInt 1 &&& 31)).toInt) <|
chk9 (0 ≤ (Int32.ofInt l6 >>> (Int32.ofInt 4 &&& 31)).toInt) <|
chk9 (0 ≤ (Int32.ofInt l6 >>> (Int32.ofInt 6 &&& 31)).toInt) <|
cal (L_on l1 2 ((Int32.ofInt l6 >>> (Int32.ofInt 1 &&& 31)).toInt % 3) ((Int32.ofInt l6 >>> (Int32.ofInt 4 &&& 31)).toInt % 3) ((Int32.ofInt l6 >>> (Int32.ofInt 6 &&& 31)).toInt % 60) 0 m) fun v6 m7 =>
if v6 = l8 then (
chk9 (0 < l1) <|
cal0 (X11_isDue l1 l8 m7) fun v11 m12 =>
if v11 = 0 then (
L_law_1287 k360 l1 0 l3 l4 l6 m12)
else
cal0 (X11_events l1 l8 1 m12) fun v15 m16 =>
if v15 = 1 then (
cal0 (X11_parent l1 l8 m16) fun v19 m20 =>
if v19 = (-1) then (
L_law_1287 k360 l1 1 l3 l4 l6 m20)
else
L_law_1287 k360 l1 0 l3 l4 l6 m20)
else
L_law_1287 k360 l1 0 l3 l4 l6 m16)
else
L_law_1287 k360 l1 0 l3 l4 l6 m7)
else
L_law_546 k360 l1 l3 l4 l6 l7 s0 ((Int32.ofInt ((Int32.ofInt l6 >>> (Int32.ofInt 2 &&& 31)).toInt) &&& Int32.ofInt 3).toInt) m
def L_law_432 (k360 : Int → Int → Int → Int → Mem → Option R2) (l1 l3 l4 l6 s0 : Int) (m : Mem) : Option R2 :=
chk9 (0 < l1) <|
cal (X11_workflows l1 m) fun v2 m3 =>
if v2 = 0 then (
L_law_454 k360 l1 l3 l4 l6 s0 v2 0 m3)
else
chk9 (0 ≤ l6 ∧ 0 < v2) <|
L_law_454 k360 l1 l3 l4 l6 s0 v2 (l6 % v2) m3
def L_law_406 (k360 : Int → Int → Int → Int → Mem → Option R2) (l1 l3 l4 s0 : Int) (m : Mem) : Option R2 :=
if 3 ≤ l4 then (
L_law_432 k360 l1 l3 l4 ((Int32.ofInt ((Int32.ofInt s0 >>> (Int32.ofInt 4 &&& 31)).toInt) &&& Int32.ofInt 268435455).toInt) ((Int32.ofInt s0 &&& Int32.ofInt 15).toInt) m)
else
L_law_432 k360 l1 l3 l4 ((Int32.ofInt ((Int32.ofInt s0 >>> (Int32.ofInt 4 &&& 31)).toInt) &&& Int32.ofInt 268435455).toInt) 0 m
def L_law_360 : Nat → Int → Int → Int → Int → Mem → Option R2
  | 0, _, _, _, _, _ => none
  | n + 1, l1, l2, l3, l4, m => (
if l3 ≤ l4 then (
some (l2, m))
else
if l2 = 0 then (
some (l2, m))
else
chk9 (iR (l4 + 3)) <|
chk9 (m (-4) 0 ≤ 2560) <|
if m (-4) 0 ≤ (l4 + 3) then (
L_law_406 (L_law_360 n) l1 l3 l4 (w32 ((w32 ((w32 ((w32 (3350017 * l4)) * l4)) + (w32 (116027 * l4)))) + 203)) m)
else
chk9 (iR (l4 + 3)) <|
chk9 (m (-4) 0 ≤ 2560 ∧ 0 ≤ (l4 + 3) ∧ (l4 + 3) < m (-4) 0) <|
L_law_406 (L_law_360 n) l1 l3 l4 (m (-3) (l4 + 3)) m)
def L_law_327 (l1 l2 : Int) (m : Mem) : Option R2 :=
chk9 (m (-4) 0 ≤ 2560) <|
if 40 ≤ m (-4) 0 then (
chk9 (m (-4) 0 ≤ 2560) <|
if 80 ≤ m (-4) 0 then (
L_law_360 fuel9 l1 l2 180 0 m)
else
chk9 (m (-4) 0 ≤ 2560) <|
chk9 (iR (2 * m (-4) 0)) <|
L_law_360 fuel9 l1 l2 (2 * m (-4) 0) 0 m)
else
L_law_360 fuel9 l1 l2 120 0 m
def L_law_220 (k64 : Int → Int → Int → Int → Int → Mem → Option R2) (l1 l2 l3 l4 l5 l6 : Int) (m : Mem) : Option R2 :=
cal (L_on l1 1 l3 0 0 0 m) fun v1 m2 =>
if v1 = (-90003) then (
if l2 = 0 then (
chk9 (iR (l5 + 1)) <|
k64 l1 0 l3 l4 (l5 + 1) m2)
else
chk9 (0 < l1) <|
cal0 (X11_forget l1 l3 m2) fun v19 m20 =>
if v19 = l6 then (
cal (L_on l1 0 l3 0 l3 0 m20) fun v24 m25 =>
if v24 = 1 then (
cal (L_on l1 1 l3 0 0 0 m25) fun v29 m30 =>
if v29 = l5 then (
chk9 (iR (l5 + 1)) <|
k64 l1 1 l3 l4 (l5 + 1) m30)
else
chk9 (iR (l5 + 1)) <|
k64 l1 0 l3 l4 (l5 + 1) m30)
else
chk9 (iR (l5 + 1)) <|
k64 l1 0 l3 l4 (l5 + 1) m25)
else
chk9 (iR (l5 + 1)) <|
k64 l1 0 l3 l4 (l5 + 1) m20)
else
if l2 = 0 then (
chk9 (iR (l5 + 1)) <|
k64 l1 0 l3 l4 (l5 + 1) m2)
else
if v1 = l5 then (
chk9 (0 < l1) <|
cal0 (X11_versions l1 l3 m2) fun v10 m11 =>
if v10 = l5 then (
chk9 (iR (l5 + 1)) <|
k64 l1 1 l3 l4 (l5 + 1) m11)
else
chk9 (iR (l5 + 1)) <|
k64 l1 0 l3 l4 (l5 + 1) m11)
else
chk9 (iR (l5 + 1)) <|
k64 l1 0 l3 l4 (l5 + 1) m2
def L_law_164 (k90 : Int → Int → Int → Int → Int → Int → Int → Mem → Option R2) (l1 l2 l3 l4 l5 l6 l7 l8 s0 : Int) (m : Mem) : Option R2 :=
cal (L_packed l8 s0 m) fun v1 m2 =>
chk9 (0 ≤ v1) <|
chk9 (0 ≤ v1) <|
cal (L_on l1 0 l3 s0 (v1 / 100) (v1 % 100) m2) fun v6 m7 =>
if l2 = 0 then (
chk9 (iR (l7 + 1)) <|
k90 l1 0 l3 l4 l5 l6 (l7 + 1) m7)
else
chk9 (iR (l7 + 1)) <|
if v6 = (l7 + 1) then (
chk9 (iR (l7 + 1)) <|
k90 l1 1 l3 l4 l5 l6 (l7 + 1) m7)
else
chk9 (iR (l7 + 1)) <|
k90 l1 0 l3 l4 l5 l6 (l7 + 1) m7
def L_law_146 (k90 : Int → Int → Int → Int → Int → Int → Int → Mem → Option R2) (l1 l2 l3 l4 l5 l6 l7 l8 s0 : Int) (m : Mem) : Option R2 :=
if s0 = 3 then (
if l3 ≤ 0 then (
L_law_164 k90 l1 l2 l3 l4 l5 l6 l7 l8 s0 m)
else
L_law_164 k90 l1 l2 l3 l4 l5 l6 l7 l8 1 m)
else
L_law_164 k90 l1 l2 l3 l4 l5 l6 l7 l8 s0 m
def L_law_90 (k220 : Int → Int → Int → Int → Int → Int → Mem → Option R2) : Nat → Int → Int → Int → Int → Int → Int → Int → Mem → Option R2
  | 0, _, _, _, _, _, _, _, _ => none
  | n + 1, l1, l2, l3, l4, l5, l6, l7, m => (
if l6 ≤ l7 then (
k220 l1 l2 l3 l4 l5 l6 m)
else
if 14 ≤ (Int32.ofInt ((Int32.ofInt ((Int32.ofInt (w32 ((w32 (l4 * 1103515245)) + 12345)) >>> (Int32.ofInt 8 &&& 31)).toInt) &&& Int32.ofInt 16777215).toInt) &&& Int32.ofInt 31).toInt then (
chk9 (0 ≤ (Int32.ofInt ((Int32.ofInt ((Int32.ofInt (w32 ((w32 (l4 * 1103515245)) + 12345)) >>> (Int32.ofInt 8 &&& 31)).toInt) &&& Int32.ofInt 16777215).toInt) &&& Int32.ofInt 31).toInt) <|
L_law_146 (L_law_90 k220 n) l1 l2 l3 (w32 ((w32 (l4 * 1103515245)) + 12345)) l5 l6 l7 ((Int32.ofInt ((Int32.ofInt (w32 ((w32 (l4 * 1103515245)) + 12345)) >>> (Int32.ofInt 8 &&& 31)).toInt) &&& Int32.ofInt 16777215).toInt) ((Int32.ofInt ((Int32.ofInt ((Int32.ofInt (w32 ((w32 (l4 * 1103515245)) + 12345)) >>> (Int32.ofInt 8 &&& 31)).toInt) &&& Int32.ofInt 16777215).toInt) &&& Int32.ofInt 31).toInt % 16) m)
else
chk9 (0 ≤ (Int32.ofInt ((Int32.ofInt ((Int32.ofInt (w32 ((w32 (l4 * 1103515245)) + 12345)) >>> (Int32.ofInt 8 &&& 31)).toInt) &&& Int32.ofInt 16777215).toInt) &&& Int32.ofInt 31).toInt) <|
L_law_146 (L_law_90 k220 n) l1 l2 l3 (w32 ((w32 (l4 * 1103515245)) + 12345)) l5 l6 l7 ((Int32.ofInt ((Int32.ofInt (w32 ((w32 (l4 * 1103515245)) + 12345)) >>> (Int32.ofInt 8 &&& 31)).toInt) &&& Int32.ofInt 16777215).toInt) ((Int32.ofInt ((Int32.ofInt ((Int32.ofInt (w32 ((w32 (l4 * 1103515245)) + 12345)) >>> (Int32.ofInt 8 &&& 31)).toInt) &&& Int32.ofInt 16777215).toInt) &&& Int32.ofInt 31).toInt % 3) m)
def L_law_64 (k30 : Int → Int → Int → Mem → Option R2) : Nat → Int → Int → Int → Int → Int → Mem → Option R2
  | 0, _, _, _, _, _, _ => none
  | n + 1, l1, l2, l3, l4, l5, m => (
if 3 ≤ l5 then (
chk9 (iR (l3 + 1)) <|
k30 l1 l2 (l3 + 1) m)
else
if l2 = 0 then (
chk9 (iR (l3 + 1)) <|
k30 l1 l2 (l3 + 1) m)
else
chk9 (0 ≤ (Int32.ofInt ((Int32.ofInt l4 >>> (Int32.ofInt 3 &&& 31)).toInt) &&& Int32.ofInt 7).toInt) <|
chk9 (iR (3 + ((Int32.ofInt ((Int32.ofInt l4 >>> (Int32.ofInt 3 &&& 31)).toInt) &&& Int32.ofInt 7).toInt % 5))) <|
L_law_90 (L_law_220 (L_law_64 k30 n)) fuel9 l1 l2 l3 l4 l5 (3 + ((Int32.ofInt ((Int32.ofInt l4 >>> (Int32.ofInt 3 &&& 31)).toInt) &&& Int32.ofInt 7).toInt % 5)) 0 m)
def L_law_30 (k327 : Int → Int → Mem → Option R2) : Nat → Int → Int → Int → Mem → Option R2
  | 0, _, _, _, _ => none
  | n + 1, l1, l2, l3, m => (
if 3 ≤ l3 then (
k327 l1 l2 m)
else
if l2 = 0 then (
k327 l1 l2 m)
else
chk9 (m (-4) 0 ≤ 2560) <|
if m (-4) 0 ≤ l3 then (
chk9 (iR (919 * l3)) <|
chk9 (iR ((919 * l3) + 37)) <|
L_law_64 (L_law_30 k327 n) fuel9 l1 l2 l3 ((919 * l3) + 37) 1 m)
else
chk9 (m (-4) 0 ≤ 2560 ∧ 0 ≤ l3 ∧ l3 < m (-4) 0) <|
L_law_64 (L_law_30 k327 n) fuel9 l1 l2 l3 (m (-3) l3) 1 m)
def L_law_0 (m : Mem) : Option R2 :=
chk9 (m (-1) 1 = 0) <|
st9 (alo9 m 1 21 8) fun m2 =>
cal (X11_init 1 m2) fun _ m4 =>
cal (X11_clock 1 m4) fun v6 m7 =>
if v6 = 0 then (
cal (X11_workflows 1 m7) fun v10 m11 =>
if v10 = 0 then (
L_law_30 (L_law_327) fuel9 1 1 0 m11)
else
L_law_30 (L_law_327) fuel9 1 0 0 m11)
else
L_law_30 (L_law_327) fuel9 1 0 0 m7
def L_law (m : Mem) : Option R2 := boolR (L_law_0 m)
end
