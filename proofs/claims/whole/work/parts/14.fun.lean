/-! the methods as functions over the small memory, printed by wip/whole/gen.py out of the task's listing -/
noncomputable section
def X3_put_0 (l0 l1 l2 l3 : Int) (m : Mem) : Option R2 :=
chk9 (0 < l0) <|
if 80 ≤ m l0 3 then (
some (0, m))
else
chk9 (0 < m l0 0 ∧ 0 ≤ m l0 3 ∧ m l0 3 < 80) <|
st9 (upd9 m (m l0 0) (m l0 3) l1) fun m6 =>
chk9 (0 < m6 l0 1 ∧ 0 ≤ m6 l0 3 ∧ m6 l0 3 < 80) <|
st9 (upd9 m6 (m6 l0 1) (m6 l0 3) l2) fun m10 =>
chk9 (0 < m10 l0 2 ∧ 0 ≤ m10 l0 3 ∧ m10 l0 3 < 80) <|
st9 (upd9 m10 (m10 l0 2) (m10 l0 3) l3) fun m14 =>
chk9 (iR (m14 l0 3 + 1)) <|
st9 (upd9 m14 l0 3 (m14 l0 3 + 1)) fun m16 =>
some (0, m16)
def X3_put (a0 a1 a2 a3 : Int) (m : Mem) : Option R2 := X3_put_0 a0 a1 a2 a3 m
def X7_happen_0 (l0 l1 l2 l3 : Int) (m : Mem) : Option R2 :=
chk9 (0 < l0) <|
if m l0 7 = 20 then (
chk9 (0 < m l0 0) <|
if m (m l0 0) 3 < 78 then (
cal (X3_put (m l0 0) l1 l2 l3 m) fun _ m6 =>
some (1, m6))
else
some (0, m))
else
some (0, m)
def X7_happen (a0 a1 a2 a3 : Int) (m : Mem) : Option R2 := boolR (X7_happen_0 a0 a1 a2 a3 m)
def X7_askCancel_0 (l0 : Int) (m : Mem) : Option R2 :=
chk9 (0 < l0) <|
if m l0 10 = 0 then (
cal (X7_happen l0 6 0 0 m) fun v3 m4 =>
if v3 = 0 then (
some (0, m4))
else
st9 (upd9 m4 l0 10 1) fun m7 =>
some (1, m7))
else
some (0, m)
def X7_askCancel (a0 : Int) (m : Mem) : Option R2 := boolR (X7_askCancel_0 a0 m)
def X7_stop_0 (l0 l1 : Int) (m : Mem) : Option R2 :=
chk9 (0 < l0) <|
st9 (upd9 m l0 7 l1) fun m2 =>
st9 (upd9 m2 l0 9 (-1)) fun m3 =>
some (0, m3)
def X7_stop (a0 a1 : Int) (m : Mem) : Option R2 := X7_stop_0 a0 a1 m
def X11_leaveChild_16 (kr : Int → Int → Int → Mem → Option R2) (l0 l1 l2 : Int) (m : Mem) : Option R2 :=
chk9 (0 < l1) <|
if m l1 10 = 2 then (
if 10 ≤ l2 then (
some (0, m))
else
chk9 (0 < m l1 6) <|
cal (X7_stop (m l1 6) 24 m) fun _ m6 =>
chk9 (iR (l2 + 1)) <|
chk9 (0 < l0) <|
cal (kr l0 l1 (l2 + 1) m6) fun _ m11 =>
some (0, m11))
else
some (0, m)
def X11_leaveChild_0 (kr : Int → Int → Int → Mem → Option R2) (l0 l1 l2 : Int) (m : Mem) : Option R2 :=
chk9 (0 < l1) <|
if m l1 10 = 1 then (
chk9 (0 < m l1 6) <|
cal (X7_askCancel (m l1 6) m) fun v4 m5 =>
X11_leaveChild_16 kr l0 l1 l2 m5)
else
X11_leaveChild_16 kr l0 l1 l2 m
def X11_leaveChild (kr : Int → Int → Int → Mem → Option R2) (a0 a1 a2 : Int) (m : Mem) : Option R2 := X11_leaveChild_0 kr a0 a1 a2 m
def X0_init_0 (l0 l1 l2 l3 l4 : Int) (m : Mem) : Option R2 :=
chk9 (0 < l0) <|
st9 (upd9 m l0 6 0) fun m2 =>
chk9 (0 < l1) <|
st9 (upd9 m2 l0 0 (m2 l1 6)) fun m4 =>
chk9 (0 < m4 l0 0) <|
st9 (upd9 m4 l0 1 (m4 (m4 l0 0) 3)) fun m6 =>
st9 (upd9 m6 l0 2 l2) fun m7 =>
st9 (upd9 m7 l0 3 (m7 l1 2)) fun m8 =>
st9 (upd9 m8 l0 4 l3) fun m9 =>
chk9 (iR (1000 * m9 l1 0)) <|
chk9 (iR (100 * m9 l1 5)) <|
chk9 (iR ((1000 * m9 l1 0) + (100 * m9 l1 5))) <|
chk9 (iR (((1000 * m9 l1 0) + (100 * m9 l1 5)) + m9 l0 1)) <|
st9 (upd9 m9 l0 5 (((1000 * m9 l1 0) + (100 * m9 l1 5)) + m9 l0 1)) fun m14 =>
st9 (upd9 m14 l0 7 l4) fun m15 =>
some (0, m15)
def X0_init (a0 a1 a2 a3 a4 : Int) (m : Mem) : Option R2 := X0_init_0 a0 a1 a2 a3 a4 m
def X0_isReadyOn_0 (l0 l1 : Int) (m : Mem) : Option R2 :=
chk9 (0 < l0) <|
if m l0 6 = 0 then (
if m l0 2 = l1 then (
some (1, m))
else
some (0, m))
else
some (0, m)
def X0_isReadyOn (a0 a1 : Int) (m : Mem) : Option R2 := boolR (X0_isReadyOn_0 a0 a1 m)
def X0_lease_0 (l0 l1 : Int) (m : Mem) : Option R2 :=
chk9 (0 < l0) <|
st9 (upd9 m l0 6 1) fun m2 =>
st9 (upd9 m2 l0 8 l1) fun m3 =>
chk9 (iR (m3 l0 9 + 1)) <|
st9 (upd9 m3 l0 9 (m3 l0 9 + 1)) fun m5 =>
some (0, m5)
def X0_lease (a0 a1 : Int) (m : Mem) : Option R2 := X0_lease_0 a0 a1 m
def X0_wake_0 (l0 l1 : Int) (m : Mem) : Option R2 :=
chk9 (0 < l0) <|
if m l0 6 = 2 then (
if l1 < m l0 8 then (
some (0, m))
else
st9 (upd9 m l0 6 0) fun m4 =>
st9 (upd9 m4 l0 7 l1) fun m5 =>
some (0, m5))
else
some (0, m)
def X0_wake (a0 a1 : Int) (m : Mem) : Option R2 := X0_wake_0 a0 a1 m
def X3_init_0 (l0 : Int) (m : Mem) : Option R2 :=
chk9 (0 < l0) <|
vl9 (l0 + 1) fun i2 =>
chk9 (0 < i2 ∧ m (-1) i2 = 0) <|
st9 (alo9 m i2 100080 80) fun m5 =>
st9 (upd9 m5 l0 0 i2) fun m6 =>
vl9 (l0 + 2) fun i7 =>
chk9 (0 < i7 ∧ m6 (-1) i7 = 0) <|
st9 (alo9 m6 i7 100080 80) fun m10 =>
st9 (upd9 m10 l0 1 i7) fun m11 =>
vl9 (l0 + 3) fun i12 =>
chk9 (0 < i12 ∧ m11 (-1) i12 = 0) <|
st9 (alo9 m11 i12 100080 80) fun m15 =>
st9 (upd9 m15 l0 2 i12) fun m16 =>
some (0, m16)
def X3_init (a0 : Int) (m : Mem) : Option R2 := X3_init_0 a0 m
def X1_init_0 (l0 : Int) (m : Mem) : Option R2 :=
chk9 (0 < l0) <|
vl9 (l0 + 1) fun i2 =>
chk9 (0 < i2 ∧ m (-1) i2 = 0) <|
st9 (alo9 m i2 100080 80) fun m5 =>
st9 (upd9 m5 l0 0 i2) fun m6 =>
vl9 (l0 + 2) fun i7 =>
chk9 (0 < i7 ∧ m6 (-1) i7 = 0) <|
st9 (alo9 m6 i7 100080 80) fun m10 =>
st9 (upd9 m10 l0 1 i7) fun m11 =>
vl9 (l0 + 3) fun i12 =>
chk9 (0 < i12 ∧ m11 (-1) i12 = 0) <|
st9 (alo9 m11 i12 100080 80) fun m15 =>
st9 (upd9 m15 l0 2 i12) fun m16 =>
vl9 (l0 + 4) fun i17 =>
chk9 (0 < i17 ∧ m16 (-1) i17 = 0) <|
st9 (alo9 m16 i17 13 4) fun m20 =>
cal (X3_init i17 m20) fun _ m22 =>
st9 (upd9 m22 l0 9 i17) fun m24 =>
some (0, m24)
def X1_init (a0 : Int) (m : Mem) : Option R2 := X1_init_0 a0 m
def X1_lookAhead_74 : Nat → Int → Mem → Option R2
  | 0, _, _ => none
  | n + 1, l0, m => (
chk9 (0 < l0) <|
chk9 (0 < m l0 9) <|
if m (m l0 9) 3 ≤ m l0 11 then (
some (0, m))
else
if 80 ≤ m l0 11 then (
some (0, m))
else
chk9 (0 < m (m l0 9) 0 ∧ 0 ≤ m l0 11 ∧ m l0 11 < 80) <|
if m (m (m l0 9) 0) (m l0 11) ≤ 7 then (
some (0, m))
else
chk9 (iR (m l0 11 + 1)) <|
st9 (upd9 m l0 11 (m l0 11 + 1)) fun m10 =>
X1_lookAhead_74 n l0 m10)
def X1_lookAhead_56 (l0 l2 s0 s1 : Int) (m : Mem) : Option R2 :=
chk9 (0 < s1 ∧ (s0 = 0 ∨ s0 = 1)) <|
st9 (upd9 m s1 7 s0) fun m3 =>
chk9 (iR (l2 + 1)) <|
chk9 (0 < l0) <|
st9 (upd9 m3 l0 10 (l2 + 1)) fun m6 =>
st9 (upd9 m6 l0 11 (m6 l0 10)) fun m7 =>
X1_lookAhead_74 fuel9 l0 m7
def X1_lookAhead_39 (l0 l2 : Int) (m : Mem) : Option R2 :=
chk9 (0 < l0) <|
chk9 (0 < m l0 9) <|
if m (m l0 9) 3 ≤ l2 then (
X1_lookAhead_56 l0 l2 0 l0 m)
else
X1_lookAhead_56 l0 l2 1 l0 m
def X1_lookAhead_2 (k39 : Int → Int → Mem → Option R2) : Nat → Int → Int → Mem → Option R2
  | 0, _, _, _ => none
  | n + 1, l0, l2, m => (
chk9 (0 < l0) <|
chk9 (0 < m l0 9) <|
if m (m l0 9) 3 ≤ l2 then (
k39 l0 l2 m)
else
if 80 ≤ l2 then (
k39 l0 l2 m)
else
chk9 (0 < m (m l0 9) 0 ∧ 0 ≤ l2 ∧ l2 < 80) <|
if m (m (m l0 9) 0) l2 = 7 then (
k39 l0 l2 m)
else
chk9 (iR (l2 + 1)) <|
X1_lookAhead_2 k39 n l0 (l2 + 1) m)
def X1_lookAhead_0 (l0 l1 : Int) (m : Mem) : Option R2 :=
X1_lookAhead_2 (X1_lookAhead_39) fuel9 l0 l1 m
def X1_lookAhead (a0 a1 : Int) (m : Mem) : Option R2 := X1_lookAhead_0 a0 a1 m
def X1_begin_0 (l0 l1 : Int) (m : Mem) : Option R2 :=
chk9 (0 < l0) <|
st9 (upd9 m l0 9 l1) fun m2 =>
st9 (upd9 m2 l0 3 0) fun m3 =>
st9 (upd9 m3 l0 4 0) fun m4 =>
st9 (upd9 m4 l0 5 0) fun m5 =>
st9 (upd9 m5 l0 6 0) fun m6 =>
st9 (upd9 m6 l0 8 0) fun m7 =>
cal (X1_lookAhead l0 0 m7) fun _ m9 =>
some (0, m9)
def X1_begin (a0 a1 : Int) (m : Mem) : Option R2 := X1_begin_0 a0 a1 m
def X1_closePart_16 (l0 : Int) (m : Mem) : Option R2 :=
chk9 (0 < l0) <|
cal (X1_lookAhead l0 (m l0 11) m) fun _ m3 =>
some (0, m3)
def X1_closePart_0 (l0 : Int) (m : Mem) : Option R2 :=
chk9 (0 < l0) <|
if m l0 10 = m l0 11 then (
X1_closePart_16 l0 m)
else
st9 (upd9 m l0 8 1) fun m3 =>
X1_closePart_16 l0 m3
def X1_closePart (a0 : Int) (m : Mem) : Option R2 := X1_closePart_0 a0 m
def X1_isNextAgain_0 (l0 l1 l2 : Int) (m : Mem) : Option R2 :=
chk9 (0 < l0) <|
if m l0 7 = 0 then (
some (0, m))
else
if m l0 11 ≤ m l0 10 then (
some (0, m))
else
if 80 ≤ m l0 10 then (
some (0, m))
else
chk9 (0 < m l0 9) <|
chk9 (0 < m (m l0 9) 0 ∧ 0 ≤ m l0 10 ∧ m l0 10 < 80) <|
if m (m (m l0 9) 0) (m l0 10) = l1 then (
chk9 (0 < m (m l0 9) 1 ∧ 0 ≤ m l0 10 ∧ m l0 10 < 80) <|
if m (m (m l0 9) 1) (m l0 10) = l2 then (
some (1, m))
else
some (0, m))
else
some (0, m)
def X1_isNextAgain (a0 a1 a2 : Int) (m : Mem) : Option R2 := boolR (X1_isNextAgain_0 a0 a1 a2 m)
def X1_put_112 (l0 : Int) (m : Mem) : Option R2 :=
chk9 (0 < l0) <|
chk9 (iR (m l0 3 + 1)) <|
st9 (upd9 m l0 3 (m l0 3 + 1)) fun m3 =>
some (0, m3)
def X1_put_62 (l0 l1 l2 l3 s0 s1 s2 : Int) (m : Mem) : Option R2 :=
chk9 (iR (s1 + s0)) <|
chk9 (0 < s2) <|
st9 (upd9 m s2 6 (s1 + s0)) fun m3 =>
chk9 (0 < l0) <|
if m3 l0 7 = 0 then (
if 80 ≤ m3 l0 3 then (
X1_put_112 l0 m3)
else
chk9 (0 < m3 l0 0 ∧ 0 ≤ m3 l0 3 ∧ m3 l0 3 < 80) <|
st9 (upd9 m3 (m3 l0 0) (m3 l0 3) l1) fun m32 =>
chk9 (0 < m32 l0 1 ∧ 0 ≤ m32 l0 3 ∧ m32 l0 3 < 80) <|
st9 (upd9 m32 (m32 l0 1) (m32 l0 3) l2) fun m36 =>
chk9 (0 < m36 l0 2 ∧ 0 ≤ m36 l0 3 ∧ m36 l0 3 < 80) <|
st9 (upd9 m36 (m36 l0 2) (m36 l0 3) l3) fun m40 =>
X1_put_112 l0 m40)
else
if m3 l0 11 ≤ m3 l0 10 then (
st9 (upd9 m3 l0 8 1) fun m7 =>
some (0, m7))
else
if 80 ≤ m3 l0 10 then (
st9 (upd9 m3 l0 8 1) fun m9 =>
some (0, m9))
else
chk9 (0 < m3 l0 9) <|
chk9 (0 < m3 (m3 l0 9) 0 ∧ 0 ≤ m3 l0 10 ∧ m3 l0 10 < 80) <|
if m3 (m3 (m3 l0 9) 0) (m3 l0 10) = l1 then (
chk9 (0 < m3 (m3 l0 9) 1 ∧ 0 ≤ m3 l0 10 ∧ m3 l0 10 < 80) <|
if m3 (m3 (m3 l0 9) 1) (m3 l0 10) = l2 then (
chk9 (0 < m3 (m3 l0 9) 2 ∧ 0 ≤ m3 l0 10 ∧ m3 l0 10 < 80) <|
if m3 (m3 (m3 l0 9) 2) (m3 l0 10) = l3 then (
chk9 (iR (m3 l0 10 + 1)) <|
st9 (upd9 m3 l0 10 (m3 l0 10 + 1)) fun m27 =>
some (0, m27))
else
st9 (upd9 m3 l0 8 1) fun m25 =>
some (0, m25))
else
st9 (upd9 m3 l0 8 1) fun m20 =>
some (0, m20))
else
st9 (upd9 m3 l0 8 1) fun m15 =>
some (0, m15)
def X1_put_42 (l0 l1 l2 l3 s0 s1 s2 : Int) (m : Mem) : Option R2 :=
chk9 (iR (s1 + s0)) <|
chk9 (0 < s2) <|
st9 (upd9 m s2 5 (s1 + s0)) fun m3 =>
chk9 (0 < l0) <|
if l1 = 12 then (
X1_put_62 l0 l1 l2 l3 1 (m3 l0 6) l0 m3)
else
X1_put_62 l0 l1 l2 l3 0 (m3 l0 6) l0 m3
def X1_put_22 (l0 l1 l2 l3 s0 s1 s2 : Int) (m : Mem) : Option R2 :=
chk9 (iR (s1 + s0)) <|
chk9 (0 < s2) <|
st9 (upd9 m s2 4 (s1 + s0)) fun m3 =>
chk9 (0 < l0) <|
if l1 = 10 then (
X1_put_42 l0 l1 l2 l3 1 (m3 l0 5) l0 m3)
else
X1_put_42 l0 l1 l2 l3 0 (m3 l0 5) l0 m3
def X1_put_0 (l0 l1 l2 l3 : Int) (m : Mem) : Option R2 :=
chk9 (0 < l0) <|
if l1 = 8 then (
X1_put_22 l0 l1 l2 l3 1 (m l0 4) l0 m)
else
if l1 = 15 then (
X1_put_22 l0 l1 l2 l3 1 (m l0 4) l0 m)
else
X1_put_22 l0 l1 l2 l3 0 (m l0 4) l0 m
def X1_put (a0 a1 a2 a3 : Int) (m : Mem) : Option R2 := X1_put_0 a0 a1 a2 a3 m
def X1_failTooLong_0 (l0 : Int) (m : Mem) : Option R2 :=
chk9 (0 < l0) <|
st9 (upd9 m l0 3 0) fun m2 =>
cal (X1_put l0 16 22 8 m2) fun _ m4 =>
some (0, m4)
def X1_failTooLong (a0 : Int) (m : Mem) : Option R2 := X1_failTooLong_0 a0 m
def X5_init_0 (l0 : Int) (m : Mem) : Option R2 :=
chk9 (0 < l0) <|
vl9 (l0 + 1) fun i2 =>
chk9 (0 < i2 ∧ m (-1) i2 = 0) <|
st9 (alo9 m i2 100012 12) fun m5 =>
st9 (upd9 m5 l0 0 i2) fun m6 =>
vl9 (l0 + 2) fun i7 =>
chk9 (0 < i7 ∧ m6 (-1) i7 = 0) <|
st9 (alo9 m6 i7 100012 12) fun m10 =>
st9 (upd9 m10 l0 1 i7) fun m11 =>
vl9 (l0 + 3) fun i12 =>
chk9 (0 < i12 ∧ m11 (-1) i12 = 0) <|
st9 (alo9 m11 i12 100012 12) fun m15 =>
st9 (upd9 m15 l0 2 i12) fun m16 =>
some (0, m16)
def X5_init (a0 : Int) (m : Mem) : Option R2 := X5_init_0 a0 m
def X2_init_0 (l0 : Int) (m : Mem) : Option R2 :=
chk9 (0 < l0) <|
vl9 (l0 + 1) fun i2 =>
chk9 (0 < i2 ∧ m (-1) i2 = 0) <|
st9 (alo9 m i2 405004 4) fun m5 =>
st9 (upd9 m5 l0 0 i2) fun m6 =>
vl9 (l0 + 10) fun i7 =>
chk9 (0 < i7 ∧ m6 (-1) i7 = 0) <|
st9 (alo9 m6 i7 15 4) fun m10 =>
cal (X5_init i7 m10) fun _ m12 =>
st9 (upd9 m12 l0 2 i7) fun m14 =>
some (0, m14)
def X2_init (a0 : Int) (m : Mem) : Option R2 := X2_init_0 a0 m
def X2_releaseTold_0 (l0 : Int) (m : Mem) : Option R2 :=
chk9 (0 < l0) <|
if 4 ≤ m l0 1 then (
some (0, m))
else
chk9 (0 < m l0 0 ∧ 0 ≤ m l0 1 ∧ m l0 1 < 4 ∧ 0 < m l0 2) <|
st9 (upd9 m (m l0 0) (m l0 1) (m l0 2)) fun m7 =>
chk9 (iR (m7 l0 1 + 1)) <|
st9 (upd9 m7 l0 1 (m7 l0 1 + 1)) fun m9 =>
vl9 (l0 + 10 * (m9 l0 1 + 1)) fun i10 =>
chk9 (0 < i10 ∧ m9 (-1) i10 = 0) <|
st9 (alo9 m9 i10 15 4) fun m13 =>
cal (X5_init i10 m13) fun _ m15 =>
st9 (upd9 m15 l0 2 i10) fun m17 =>
some (0, m17)
def X2_releaseTold (a0 : Int) (m : Mem) : Option R2 := X2_releaseTold_0 a0 m
def X8_init_0 (l0 : Int) (m : Mem) : Option R2 :=
chk9 (0 < l0) <|
some (0, m)
def X8_init (a0 : Int) (m : Mem) : Option R2 := X8_init_0 a0 m
def X4_init_60 : Nat → Int → Int → Mem → Option R2
  | 0, _, _, _ => none
  | n + 1, l0, l1, m => (
if 3 ≤ l1 then (
some (0, m))
else
chk9 (0 < l0) <|
vl9 (l0 + 30 + l1) fun i3 =>
chk9 (0 < i3 ∧ m (-1) i3 = 0) <|
st9 (alo9 m i3 18 8) fun m6 =>
cal (X8_init i3 m6) fun _ m8 =>
chk9 (0 < m l0 3 ∧ 0 ≤ l1 ∧ l1 < 3) <|
st9 (upd9 m8 (m l0 3) l1 i3) fun m13 =>
chk9 (iR (l1 + 1)) <|
X4_init_60 n l0 (l1 + 1) m13)
def X4_init_0 (l0 : Int) (m : Mem) : Option R2 :=
chk9 (0 < l0) <|
vl9 (l0 + 1) fun i2 =>
chk9 (0 < i2 ∧ m (-1) i2 = 0) <|
st9 (alo9 m i2 11 12) fun m5 =>
cal (X1_init i2 m5) fun _ m7 =>
st9 (upd9 m7 l0 0 i2) fun m9 =>
vl9 (l0 + 10) fun i10 =>
chk9 (0 < i10 ∧ m9 (-1) i10 = 0) <|
st9 (alo9 m9 i10 200080 80) fun m13 =>
st9 (upd9 m13 l0 1 i10) fun m14 =>
vl9 (l0 + 11) fun i15 =>
chk9 (0 < i15 ∧ m14 (-1) i15 = 0) <|
st9 (alo9 m14 i15 408003 3) fun m18 =>
st9 (upd9 m18 l0 3 i15) fun m19 =>
vl9 (l0 + 12) fun i20 =>
chk9 (0 < i20 ∧ m19 (-1) i20 = 0) <|
st9 (alo9 m19 i20 100080 80) fun m23 =>
st9 (upd9 m23 l0 4 i20) fun m24 =>
vl9 (l0 + 13) fun i25 =>
chk9 (0 < i25 ∧ m24 (-1) i25 = 0) <|
st9 (alo9 m24 i25 100080 80) fun m28 =>
st9 (upd9 m28 l0 5 i25) fun m29 =>
vl9 (l0 + 20) fun i30 =>
chk9 (0 < i30 ∧ m29 (-1) i30 = 0) <|
st9 (alo9 m29 i30 15 4) fun m33 =>
cal (X5_init i30 m33) fun _ m35 =>
st9 (upd9 m35 l0 7 i30) fun m37 =>
X4_init_60 fuel9 l0 0 m37
def X4_init (a0 : Int) (m : Mem) : Option R2 := X4_init_0 a0 m
def X4_isOver_0 (l0 : Int) (m : Mem) : Option R2 :=
chk9 (0 < l0) <|
if m l0 9 = 4 then (
some (1, m))
else
some (0, m)
def X4_isOver (a0 : Int) (m : Mem) : Option R2 := boolR (X4_isOver_0 a0 m)
def X4_waitingPlace_0 (l0 : Int) (m : Mem) : Option R2 :=
chk9 (0 < l0) <|
if m l0 9 = 1 then (
some (m l0 10, m))
else
some ((-1), m)
def X4_waitingPlace (a0 : Int) (m : Mem) : Option R2 := X4_waitingPlace_0 a0 m
def X4_begin_42 (l0 : Int) (m : Mem) : Option R2 :=
chk9 (0 < l0) <|
st9 (upd9 m l0 2 0) fun m2 =>
st9 (upd9 m2 l0 6 0) fun m3 =>
st9 (upd9 m3 l0 9 0) fun m4 =>
st9 (upd9 m4 l0 10 0) fun m5 =>
st9 (upd9 m5 l0 11 0) fun m6 =>
st9 (upd9 m6 l0 12 0) fun m7 =>
st9 (upd9 m7 l0 13 0) fun m8 =>
st9 (upd9 m8 l0 14 0) fun m9 =>
st9 (upd9 m9 l0 15 0) fun m10 =>
st9 (upd9 m10 l0 16 0) fun m11 =>
st9 (upd9 m11 l0 17 (-1)) fun m12 =>
st9 (upd9 m12 l0 18 0) fun m13 =>
st9 (upd9 m13 l0 19 0) fun m14 =>
some (0, m14)
def X4_begin_21 (k42 : Int → Mem → Option R2) : Nat → Int → Int → Mem → Option R2
  | 0, _, _, _ => none
  | n + 1, l0, l4, m => (
if 80 ≤ l4 then (
k42 l0 m)
else
chk9 (0 < l0) <|
chk9 (0 < m l0 1 ∧ 0 ≤ l4 ∧ l4 < 80) <|
st9 (upd9 m (m l0 1) l4 0) fun m6 =>
chk9 (iR (l4 + 1)) <|
X4_begin_21 k42 n l0 (l4 + 1) m6)
def X4_begin_0 (l0 l1 l2 l3 : Int) (m : Mem) : Option R2 :=
chk9 (0 < l0) <|
st9 (upd9 m l0 7 l1) fun m2 =>
st9 (upd9 m2 l0 8 l3) fun m3 =>
chk9 (0 < m3 l0 0) <|
cal (X1_begin (m3 l0 0) l2 m3) fun _ m6 =>
X4_begin_21 (X4_begin_42) fuel9 l0 0 m6
def X4_begin (a0 a1 a2 a3 : Int) (m : Mem) : Option R2 := X4_begin_0 a0 a1 a2 a3 m
def X8_become_0 (l0 l1 l2 : Int) (m : Mem) : Option R2 :=
chk9 (0 < l0) <|
st9 (upd9 m l0 5 l1) fun m2 =>
st9 (upd9 m2 l0 6 1) fun m3 =>
chk9 ((l2 = 0 ∨ l2 = 1)) <|
st9 (upd9 m3 l0 7 l2) fun m5 =>
some (0, m5)
def X8_become (a0 a1 a2 : Int) (m : Mem) : Option R2 := X8_become_0 a0 a1 a2 m
def X4_hearActivity_24 : Nat → Int → Int → Int → Int → Int → Mem → Option R2
  | 0, _, _, _, _, _, _ => none
  | n + 1, l0, l1, l2, l3, l4, m => (
chk9 (0 < l0) <|
if m l0 12 ≤ l4 then (
some (0, m))
else
chk9 (0 < m l0 3 ∧ 0 ≤ l4 ∧ l4 < 3) <|
chk9 (0 < m (m l0 3) l4) <|
if m (m (m l0 3) l4) 1 = l1 then (
chk9 (0 ≤ l4 ∧ l4 < 3) <|
cal (X8_become (m (m l0 3) l4) l2 l3 m) fun _ m12 =>
chk9 (iR (l4 + 1)) <|
X4_hearActivity_24 n l0 l1 l2 l3 (l4 + 1) m12)
else
chk9 (iR (l4 + 1)) <|
X4_hearActivity_24 n l0 l1 l2 l3 (l4 + 1) m)
def X4_hearActivity_0 (l0 l1 l2 l3 : Int) (m : Mem) : Option R2 :=
chk9 (0 < l0) <|
if m l0 9 = 3 then (
if l1 = m l0 17 then (
st9 (upd9 m l0 9 2) fun m4 =>
X4_hearActivity_24 fuel9 l0 l1 l2 l3 0 m4)
else
X4_hearActivity_24 fuel9 l0 l1 l2 l3 0 m)
else
X4_hearActivity_24 fuel9 l0 l1 l2 l3 0 m
def X4_hearActivity (a0 a1 a2 a3 : Int) (m : Mem) : Option R2 := X4_hearActivity_0 a0 a1 a2 a3 m
def X4_hearTimer_2 : Nat → Int → Int → Int → Mem → Option R2
  | 0, _, _, _, _ => none
  | n + 1, l0, l1, l2, m => (
chk9 (0 < l0) <|
if m l0 12 ≤ l2 then (
some (0, m))
else
chk9 (0 < m l0 3 ∧ 0 ≤ l2 ∧ l2 < 3) <|
chk9 (0 < m (m l0 3) l2) <|
if m (m (m l0 3) l2) 2 = l1 then (
chk9 (0 ≤ l2 ∧ l2 < 3) <|
if m (m (m l0 3) l2) 6 = 0 then (
chk9 (0 ≤ l2 ∧ l2 < 3) <|
cal (X8_become (m (m l0 3) l2) (-1) 0 m) fun _ m16 =>
chk9 (iR (l2 + 1)) <|
X4_hearTimer_2 n l0 l1 (l2 + 1) m16)
else
chk9 (iR (l2 + 1)) <|
X4_hearTimer_2 n l0 l1 (l2 + 1) m)
else
chk9 (iR (l2 + 1)) <|
X4_hearTimer_2 n l0 l1 (l2 + 1) m)
def X4_hearTimer_0 (l0 l1 : Int) (m : Mem) : Option R2 :=
X4_hearTimer_2 fuel9 l0 l1 0 m
def X4_hearTimer (a0 a1 : Int) (m : Mem) : Option R2 := X4_hearTimer_0 a0 a1 m
def X4_noteTaken_0 (l0 l1 : Int) (m : Mem) : Option R2 :=
if l1 < 0 then (
some (0, m))
else
if 80 ≤ l1 then (
some (0, m))
else
chk9 (0 < l0) <|
chk9 (0 < m l0 1 ∧ 0 ≤ l1 ∧ l1 < 80) <|
st9 (upd9 m (m l0 1) l1 1) fun m7 =>
some (0, m7)
def X4_noteTaken (a0 a1 : Int) (m : Mem) : Option R2 := X4_noteTaken_0 a0 a1 m
def X4_hearSignal_35 (l0 l2 l4 : Int) (m : Mem) : Option R2 :=
chk9 (0 < l4) <|
cal (X8_become l4 l2 0 m) fun _ m3 =>
chk9 (0 < l0) <|
chk9 (iR (m3 l0 19 - 1)) <|
cal (X4_noteTaken l0 (m3 l0 19 - 1) m3) fun _ m8 =>
if m8 l4 2 = (-1) then (
some (0, m8))
else
chk9 (0 < m8 l0 0) <|
cal (X1_put (m8 l0 0) 11 (m8 l4 2) 0 m8) fun _ m13 =>
some (0, m13)
def X4_hearSignal_2 (k35 : Int → Int → Int → Mem → Option R2) : Nat → Int → Int → Int → Int → Mem → Option R2
  | 0, _, _, _, _, _ => none
  | n + 1, l0, l1, l2, l3, m => (
chk9 (0 < l0) <|
if m l0 12 ≤ l3 then (
some (0, m))
else
chk9 (0 < m l0 3 ∧ 0 ≤ l3 ∧ l3 < 3) <|
chk9 (0 < m (m l0 3) l3) <|
if m (m (m l0 3) l3) 4 = l1 then (
if m (m (m l0 3) l3) 6 = 0 then (
k35 l0 l2 (m (m l0 3) l3) m)
else
chk9 (iR (l3 + 1)) <|
X4_hearSignal_2 k35 n l0 l1 l2 (l3 + 1) m)
else
chk9 (iR (l3 + 1)) <|
X4_hearSignal_2 k35 n l0 l1 l2 (l3 + 1) m)
def X4_hearSignal_0 (l0 l1 l2 : Int) (m : Mem) : Option R2 :=
X4_hearSignal_2 (X4_hearSignal_35) fuel9 l0 l1 l2 0 m
def X4_hearSignal (a0 a1 a2 : Int) (m : Mem) : Option R2 := X4_hearSignal_0 a0 a1 a2 m
def X4_hearChild_2 : Nat → Int → Int → Int → Int → Mem → Option R2
  | 0, _, _, _, _, _ => none
  | n + 1, l0, l1, l2, l3, m => (
chk9 (0 < l0) <|
if m l0 12 ≤ l3 then (
some (0, m))
else
chk9 (0 < m l0 3 ∧ 0 ≤ l3 ∧ l3 < 3) <|
chk9 (0 < m (m l0 3) l3) <|
if m (m (m l0 3) l3) 3 = l1 then (
chk9 (0 ≤ l3 ∧ l3 < 3) <|
cal (X8_become (m (m l0 3) l3) l2 0 m) fun _ m12 =>
chk9 (iR (l3 + 1)) <|
X4_hearChild_2 n l0 l1 l2 (l3 + 1) m12)
else
chk9 (iR (l3 + 1)) <|
X4_hearChild_2 n l0 l1 l2 (l3 + 1) m)
def X4_hearChild_0 (l0 l1 l2 : Int) (m : Mem) : Option R2 :=
X4_hearChild_2 fuel9 l0 l1 l2 0 m
def X4_hearChild (a0 a1 a2 : Int) (m : Mem) : Option R2 := X4_hearChild_0 a0 a1 a2 m
def X4_backOut_0 (l0 l1 : Int) (m : Mem) : Option R2 :=
chk9 (0 < l0) <|
st9 (upd9 m l0 18 l1) fun m2 =>
st9 (upd9 m2 l0 12 0) fun m3 =>
st9 (upd9 m3 l0 9 2) fun m4 =>
some (0, m4)
def X4_backOut (a0 a1 : Int) (m : Mem) : Option R2 := X4_backOut_0 a0 a1 m
def X4_cut_120 (l0 : Int) (m : Mem) : Option R2 :=
chk9 (0 < l0) <|
cal (X4_backOut l0 0 m) fun _ m3 =>
some (0, m3)
def X4_cut_62 (k120 : Int → Mem → Option R2) : Nat → Int → Int → Mem → Option R2
  | 0, _, _, _ => none
  | n + 1, l0, l1, m => (
chk9 (0 < l0) <|
if m l0 12 ≤ l1 then (
k120 l0 m)
else
chk9 (0 < m l0 3 ∧ 0 ≤ l1 ∧ l1 < 3) <|
chk9 (0 < m (m l0 3) l1) <|
if m (m (m l0 3) l1) 2 = (-1) then (
chk9 (iR (l1 + 1)) <|
X4_cut_62 k120 n l0 (l1 + 1) m)
else
chk9 (0 ≤ l1 ∧ l1 < 3) <|
if m (m (m l0 3) l1) 6 = 0 then (
chk9 (0 ≤ l1 ∧ l1 < 3) <|
chk9 (0 < m l0 0) <|
cal (X1_put (m l0 0) 11 (m (m (m l0 3) l1) 2) 0 m) fun _ m17 =>
chk9 (iR (l1 + 1)) <|
X4_cut_62 k120 n l0 (l1 + 1) m17)
else
chk9 (iR (l1 + 1)) <|
X4_cut_62 k120 n l0 (l1 + 1) m)
def X4_cut_2 (k62 : Int → Int → Mem → Option R2) : Nat → Int → Int → Mem → Option R2
  | 0, _, _, _ => none
  | n + 1, l0, l1, m => (
chk9 (0 < l0) <|
if m l0 12 ≤ l1 then (
k62 l0 0 m)
else
chk9 (0 < m l0 3 ∧ 0 ≤ l1 ∧ l1 < 3) <|
chk9 (0 < m (m l0 3) l1) <|
if m (m (m l0 3) l1) 1 = (-1) then (
chk9 (iR (l1 + 1)) <|
X4_cut_2 k62 n l0 (l1 + 1) m)
else
chk9 (0 ≤ l1 ∧ l1 < 3) <|
if m (m (m l0 3) l1) 6 = 0 then (
chk9 (0 ≤ l1 ∧ l1 < 3) <|
chk9 (0 < m l0 0) <|
cal (X1_put (m l0 0) 9 (m (m (m l0 3) l1) 1) 0 m) fun _ m17 =>
chk9 (iR (l1 + 1)) <|
X4_cut_2 k62 n l0 (l1 + 1) m17)
else
chk9 (iR (l1 + 1)) <|
X4_cut_2 k62 n l0 (l1 + 1) m)
def X4_cut_0 (l0 : Int) (m : Mem) : Option R2 :=
X4_cut_2 (X4_cut_62 (X4_cut_120) fuel9) fuel9 l0 0 m
def X4_cut (a0 : Int) (m : Mem) : Option R2 := X4_cut_0 a0 m
def X4_hearCancel_0 (l0 : Int) (m : Mem) : Option R2 :=
chk9 (0 < l0) <|
if m l0 9 = 1 then (
st9 (upd9 m l0 15 1) fun m3 =>
if m3 l0 14 = 0 then (
cal (X4_cut l0 m3) fun _ m6 =>
some (0, m6))
else
some (0, m3))
else
some (0, m)
def X4_hearCancel (a0 : Int) (m : Mem) : Option R2 := X4_hearCancel_0 a0 m
def X4_hear_65 (s0 s1 s2 s3 : Int) (m : Mem) : Option R2 :=
chk9 (0 < s3) <|
cal (X4_hearActivity s3 s2 s1 s0 m) fun _ m3 =>
some (0, m3)
def X4_hear_0 (l0 l1 l2 l3 : Int) (m : Mem) : Option R2 :=
if l1 = 0 then (
chk9 (0 < l0) <|
st9 (upd9 m l0 2 l2) fun m3 =>
some (0, m3))
else
if l1 = 1 then (
if l1 = 2 then (
X4_hear_65 1 l3 l2 l0 m)
else
X4_hear_65 0 l3 l2 l0 m)
else
if l1 = 2 then (
if l1 = 2 then (
X4_hear_65 1 l3 l2 l0 m)
else
X4_hear_65 0 l3 l2 l0 m)
else
if l1 = 3 then (
chk9 (0 < l0) <|
cal (X4_hearTimer l0 l2 m) fun _ m11 =>
some (0, m11))
else
if l1 = 4 then (
chk9 (0 < l0) <|
cal (X4_hearSignal l0 l2 l3 m) fun _ m16 =>
some (0, m16))
else
if l1 = 5 then (
chk9 (0 < l0) <|
cal (X4_hearChild l0 l2 l3 m) fun _ m21 =>
some (0, m21))
else
if l1 = 6 then (
chk9 (0 < l0) <|
cal (X4_hearCancel l0 m) fun _ m26 =>
some (0, m26))
else
some (0, m)
def X4_hear (a0 a1 a2 a3 : Int) (m : Mem) : Option R2 := X4_hear_0 a0 a1 a2 a3 m
def X4_settle_77 (l0 l1 l2 : Int) (m : Mem) : Option R2 :=
chk9 (0 < l0) <|
st9 (upd9 m l0 2 l2) fun m2 =>
if l1 = 0 then (
st9 (upd9 m2 l0 12 0) fun m4 =>
st9 (upd9 m4 l0 10 (m4 l0 11)) fun m5 =>
st9 (upd9 m5 l0 9 0) fun m6 =>
some (0, m6))
else
cal (X4_backOut l0 1 m2) fun _ m8 =>
some (0, m8)
def X4_settle_18 (k77 : Int → Int → Int → Mem → Option R2) : Nat → Int → Int → Int → Int → Mem → Option R2
  | 0, _, _, _, _, _ => none
  | n + 1, l0, l1, l2, l3, m => (
chk9 (0 < l0) <|
if m l0 12 ≤ l3 then (
k77 l0 l1 l2 m)
else
chk9 (0 < m l0 3 ∧ 0 ≤ l3 ∧ l3 < 3) <|
chk9 (0 < m (m l0 3) l3) <|
if m (m (m l0 3) l3) 6 = 0 then (
some (0, m))
else
if m (m (m l0 3) l3) 7 = 0 then (
if m (m (m l0 3) l3) 0 = 1 then (
chk9 (iR (l3 + 1)) <|
X4_settle_18 k77 n l0 l1 l2 (l3 + 1) m)
else
chk9 (iR (l3 + 1)) <|
X4_settle_18 k77 n l0 l1 (m (m (m l0 3) l3) 5) (l3 + 1) m)
else
chk9 (iR (l3 + 1)) <|
X4_settle_18 k77 n l0 1 l2 (l3 + 1) m)
def X4_settle_0 (l0 : Int) (m : Mem) : Option R2 :=
chk9 (0 < l0) <|
if m l0 9 = 1 then (
X4_settle_18 (X4_settle_77) fuel9 l0 0 (m l0 2) 0 m)
else
some (0, m)
def X4_settle (a0 : Int) (m : Mem) : Option R2 := X4_settle_0 a0 m
def X4_isMoving_0 (l0 : Int) (m : Mem) : Option R2 :=
chk9 (0 < l0) <|
chk9 (0 < m l0 0) <|
if m (m l0 0) 8 = 0 then (
if m l0 9 = 0 then (
some (1, m))
else
if m l0 9 = 2 then (
some (1, m))
else
some (0, m))
else
some (0, m)
def X4_isMoving (a0 : Int) (m : Mem) : Option R2 := boolR (X4_isMoving_0 a0 m)
def X4_finish_0 (l0 l1 l2 : Int) (m : Mem) : Option R2 :=
chk9 (0 < l0) <|
chk9 (0 < m l0 0) <|
cal (X1_put (m l0 0) 16 l1 l2 m) fun _ m4 =>
st9 (upd9 m4 l0 9 4) fun m6 =>
some (0, m6)
def X4_finish (a0 a1 a2 : Int) (m : Mem) : Option R2 := X4_finish_0 a0 a1 a2 m
def X4_undoNext_0 (l0 : Int) (m : Mem) : Option R2 :=
chk9 (0 < l0) <|
if m l0 16 ≤ 0 then (
if m l0 18 = 0 then (
cal (X4_finish l0 23 0 m) fun _ m8 =>
some (0, m8))
else
cal (X4_finish l0 22 (m l0 18) m) fun _ m5 =>
some (0, m5))
else
chk9 (iR (m l0 16 - 1)) <|
st9 (upd9 m l0 16 (m l0 16 - 1)) fun m11 =>
chk9 (0 ≤ m11 l0 16) <|
chk9 (0 < m11 l0 0) <|
st9 (upd9 m11 l0 17 (m11 (m11 l0 0) 4)) fun m14 =>
chk9 (0 < m14 l0 4 ∧ 0 ≤ (m11 l0 16 % 80) ∧ (m11 l0 16 % 80) < 80) <|
chk9 (0 < m14 l0 5 ∧ 0 ≤ (m11 l0 16 % 80) ∧ (m11 l0 16 % 80) < 80) <|
chk9 (0 < m14 l0 0) <|
cal (X1_put (m14 l0 0) 15 (m14 (m14 l0 4) (m11 l0 16 % 80)) (m14 (m14 l0 5) (m11 l0 16 % 80)) m14) fun _ m23 =>
st9 (upd9 m23 l0 9 3) fun m25 =>
some (0, m25)
def X4_undoNext (a0 : Int) (m : Mem) : Option R2 := X4_undoNext_0 a0 m
def X4_passesMark_40 (l0 l1 l2 : Int) (m : Mem) : Option R2 :=
chk9 (0 < l0) <|
st9 (upd9 m l0 6 ((Int32.ofInt (m l0 6) ||| Int32.ofInt l2).toInt)) fun m2 =>
chk9 (0 < m2 l0 0) <|
cal (X1_put (m2 l0 0) 13 l1 0 m2) fun _ m5 =>
some (1, m5)
def X4_passesMark_0 (l0 l1 : Int) (m : Mem) : Option R2 :=
chk9 (0 < l0) <|
if (Int32.ofInt (m l0 6) &&& Int32.ofInt ((Int32.ofInt 1 <<< (Int32.ofInt l1 &&& 31)).toInt)).toInt = 0 then (
chk9 (0 < m l0 0) <|
if m (m l0 0) 7 = 0 then (
X4_passesMark_40 l0 l1 ((Int32.ofInt 1 <<< (Int32.ofInt l1 &&& 31)).toInt) m)
else
cal (X1_isNextAgain (m l0 0) 13 l1 m) fun v5 m6 =>
if v5 = 0 then (
some (0, m6))
else
X4_passesMark_40 l0 l1 ((Int32.ofInt 1 <<< (Int32.ofInt l1 &&& 31)).toInt) m6)
else
some (1, m)
def X4_passesMark (a0 a1 : Int) (m : Mem) : Option R2 := boolR (X4_passesMark_0 a0 a1 m)
def X4_goAgain_0 (l0 : Int) (m : Mem) : Option R2 :=
chk9 (0 < l0) <|
if 9 ≤ m l0 8 then (
cal (X4_backOut l0 7 m) fun _ m4 =>
some (0, m4))
else
cal (X4_finish l0 14 (m l0 2) m) fun _ m7 =>
some (0, m7)
def X4_goAgain (a0 : Int) (m : Mem) : Option R2 := X4_goAgain_0 a0 m
def X4_note_148 (s0 s1 s2 s3 : Int) (m : Mem) : Option R2 :=
chk9 (0 < s3) <|
cal (X1_put s3 s2 s1 s0 m) fun _ m3 =>
some (0, m3)
def X4_note_0 (l0 l1 l2 l3 : Int) (m : Mem) : Option R2 :=
if l1 = 7 then (
chk9 (0 < l0) <|
st9 (upd9 m l0 2 l2) fun m3 =>
some (0, m3))
else
if l1 = 8 then (
chk9 (0 < l0) <|
chk9 (iR (m l0 2 + l2)) <|
st9 (upd9 m l0 2 (if (-999) < (if (m l0 2 + l2) < 999 then (m l0 2 + l2) else 999) then (if (m l0 2 + l2) < 999 then (m l0 2 + l2) else 999) else (-999))) fun m7 =>
some (0, m7))
else
if l1 = 9 then (
chk9 (0 < l0) <|
chk9 (0 ≤ m l0 16) <|
chk9 (0 < m l0 4 ∧ 0 ≤ (m l0 16 % 80) ∧ (m l0 16 % 80) < 80) <|
st9 (upd9 m (m l0 4) (m l0 16 % 80) l2) fun m14 =>
chk9 (0 ≤ m14 l0 16) <|
chk9 (0 < m14 l0 5 ∧ 0 ≤ (m14 l0 16 % 80) ∧ (m14 l0 16 % 80) < 80) <|
st9 (upd9 m14 (m14 l0 5) (m14 l0 16 % 80) l3) fun m19 =>
chk9 (iR (m19 l0 16 + 1)) <|
st9 (upd9 m19 l0 16 (m19 l0 16 + 1)) fun m21 =>
some (0, m21))
else
if l1 = 10 then (
some (0, m))
else
if l1 = 11 then (
chk9 (0 < l0) <|
st9 (upd9 m l0 13 (if m l0 13 < l2 then l2 else m l0 13)) fun m25 =>
some (0, m25))
else
if l1 = 12 then (
chk9 (0 < l0) <|
if l3 = 100 then (
X4_note_148 (m l0 2) l2 14 (m l0 0) m)
else
X4_note_148 l3 l2 14 (m l0 0) m)
else
some (0, m)
def X4_note (a0 a1 a2 a3 : Int) (m : Mem) : Option R2 := X4_note_0 a0 a1 a2 a3 m
def X4_goThrough_0 (l0 l1 l2 l3 : Int) (m : Mem) : Option R2 :=
chk9 (0 < l0) <|
chk9 (iR (m l0 10 + 1)) <|
if l1 = 5 then (
if l2 ≤ m l0 2 then (
st9 (upd9 m l0 10 (m l0 10 + 1)) fun m5 =>
some (0, m5))
else
chk9 (iR ((m l0 10 + 1) + l3)) <|
st9 (upd9 m l0 10 ((m l0 10 + 1) + l3)) fun m7 =>
some (0, m7))
else
if l1 = 6 then (
if l2 ≤ m l0 2 then (
st9 (upd9 m l0 10 (m l0 10 + 1)) fun m10 =>
some (0, m10))
else
chk9 (iR (m l0 10 - l3)) <|
st9 (upd9 m l0 10 (m l0 10 - l3)) fun m12 =>
some (0, m12))
else
if l1 = 7 then (
cal (X4_note l0 l1 l2 l3 m) fun _ m15 =>
st9 (upd9 m15 l0 10 (m l0 10 + 1)) fun m17 =>
some (0, m17))
else
if l1 = 8 then (
cal (X4_note l0 l1 l2 l3 m) fun _ m20 =>
st9 (upd9 m20 l0 10 (m l0 10 + 1)) fun m22 =>
some (0, m22))
else
if l1 = 9 then (
cal (X4_note l0 l1 l2 l3 m) fun _ m25 =>
st9 (upd9 m25 l0 10 (m l0 10 + 1)) fun m27 =>
some (0, m27))
else
if l1 = 10 then (
cal (X4_passesMark l0 l2 m) fun v29 m30 =>
if v29 = 0 then (
chk9 (iR ((m l0 10 + 1) + l3)) <|
st9 (upd9 m30 l0 10 ((m l0 10 + 1) + l3)) fun m34 =>
some (0, m34))
else
st9 (upd9 m30 l0 10 (m l0 10 + 1)) fun m35 =>
some (0, m35))
else
if l1 = 11 then (
cal (X4_note l0 l1 l2 l3 m) fun _ m38 =>
st9 (upd9 m38 l0 10 (m l0 10 + 1)) fun m40 =>
some (0, m40))
else
if l1 = 12 then (
cal (X4_note l0 l1 l2 l3 m) fun _ m43 =>
st9 (upd9 m43 l0 10 (m l0 10 + 1)) fun m45 =>
some (0, m45))
else
if l1 = 13 then (
cal (X4_backOut l0 l2 m) fun _ m48 =>
some (0, m48))
else
if l1 = 14 then (
cal (X4_goAgain l0 m) fun _ m52 =>
some (0, m52))
else
if l1 = 15 then (
cal (X4_finish l0 21 (m l0 2) m) fun _ m56 =>
some (0, m56))
else
cal (X4_note l0 l1 l2 l3 m) fun _ m59 =>
st9 (upd9 m59 l0 10 (m l0 10 + 1)) fun m61 =>
some (0, m61)
def X4_goThrough (a0 a1 a2 a3 : Int) (m : Mem) : Option R2 := X4_goThrough_0 a0 a1 a2 a3 m
def X8_clear_0 (l0 l1 : Int) (m : Mem) : Option R2 :=
chk9 (0 < l0) <|
st9 (upd9 m l0 0 l1) fun m2 =>
st9 (upd9 m2 l0 1 (-1)) fun m3 =>
st9 (upd9 m3 l0 2 (-1)) fun m4 =>
st9 (upd9 m4 l0 3 (-1)) fun m5 =>
st9 (upd9 m5 l0 4 (-1)) fun m6 =>
st9 (upd9 m6 l0 5 0) fun m7 =>
st9 (upd9 m7 l0 6 0) fun m8 =>
st9 (upd9 m8 l0 7 0) fun m9 =>
some (0, m9)
def X8_clear (a0 a1 : Int) (m : Mem) : Option R2 := X8_clear_0 a0 a1 m
def X4_beginWait_67 (l0 l1 l4 l5 : Int) (m : Mem) : Option R2 :=
chk9 (0 < l0) <|
cal (X4_noteTaken l0 l5 m) fun _ m3 =>
chk9 (0 < l4) <|
chk9 (0 < m3 l4 2 ∧ 0 ≤ l5 ∧ l5 < 80) <|
chk9 (0 < l1) <|
cal (X8_become l1 (m3 (m3 l4 2) l5) 0 m3) fun _ m11 =>
some (0, m11)
def X4_beginWait_93 (l0 l1 l3 : Int) (m : Mem) : Option R2 :=
if l3 ≤ 0 then (
some (0, m))
else
chk9 (0 < l0) <|
chk9 (0 < m l0 0) <|
chk9 (0 < l1) <|
st9 (upd9 m l1 2 (m (m l0 0) 5)) fun m5 =>
chk9 (0 < m5 l0 0) <|
cal (X1_put (m5 l0 0) 10 l3 0 m5) fun _ m8 =>
some (0, m8)
def X4_beginWait_17 (k67 : Int → Int → Int → Int → Mem → Option R2) (k93 : Int → Int → Int → Mem → Option R2) : Nat → Int → Int → Int → Int → Int → Int → Mem → Option R2
  | 0, _, _, _, _, _, _, _ => none
  | n + 1, l0, l1, l2, l3, l4, l5, m => (
chk9 (0 < l0) <|
if m l0 19 ≤ l5 then (
k93 l0 l1 l3 m)
else
if 80 ≤ l5 then (
k93 l0 l1 l3 m)
else
chk9 (0 < l4) <|
chk9 (0 < m l4 0 ∧ 0 ≤ l5 ∧ l5 < 80) <|
if m (m l4 0) l5 = 4 then (
chk9 (0 < m l4 1 ∧ 0 ≤ l5 ∧ l5 < 80) <|
if m (m l4 1) l5 = l2 then (
chk9 (0 < m l0 1 ∧ 0 ≤ l5 ∧ l5 < 80) <|
if m (m l0 1) l5 = 0 then (
k67 l0 l1 l4 l5 m)
else
chk9 (iR (l5 + 1)) <|
X4_beginWait_17 k67 k93 n l0 l1 l2 l3 l4 (l5 + 1) m)
else
chk9 (iR (l5 + 1)) <|
X4_beginWait_17 k67 k93 n l0 l1 l2 l3 l4 (l5 + 1) m)
else
chk9 (iR (l5 + 1)) <|
X4_beginWait_17 k67 k93 n l0 l1 l2 l3 l4 (l5 + 1) m)
def X4_beginWait_0 (l0 l1 l2 l3 : Int) (m : Mem) : Option R2 :=
chk9 (0 < l0) <|
chk9 (0 < m l0 0) <|
chk9 (0 < l1) <|
st9 (upd9 m l1 4 l2) fun m4 =>
X4_beginWait_17 (X4_beginWait_67) (X4_beginWait_93) fuel9 l0 l1 l2 l3 (m (m l0 0) 9) 0 m4
def X4_beginWait (a0 a1 a2 a3 : Int) (m : Mem) : Option R2 := X4_beginWait_0 a0 a1 a2 a3 m
def X4_beginStep_0 (l0 l1 l2 : Int) (m : Mem) : Option R2 :=
chk9 (0 < l0) <|
chk9 (0 < m l0 7) <|
chk9 (0 < m (m l0 7) 1 ∧ 0 ≤ l2 ∧ l2 < 12) <|
chk9 (0 < m (m l0 7) 2 ∧ 0 ≤ l2 ∧ l2 < 12) <|
chk9 (0 < m (m l0 7) 0 ∧ 0 ≤ l2 ∧ l2 < 12) <|
chk9 (0 < l1) <|
cal (X8_clear l1 (m (m (m l0 7) 0) l2) m) fun _ m14 =>
if m14 l1 0 = 0 then (
chk9 (0 < m14 l0 0) <|
st9 (upd9 m14 l1 1 (m14 (m14 l0 0) 4)) fun m18 =>
chk9 (0 < m18 l0 0) <|
cal (X1_put (m18 l0 0) 8 (m (m (m l0 7) 1) l2) (m (m (m l0 7) 2) l2) m18) fun _ m21 =>
some (0, m21))
else
if m14 l1 0 = 1 then (
chk9 (0 < m14 l0 0) <|
st9 (upd9 m14 l1 2 (m14 (m14 l0 0) 5)) fun m25 =>
chk9 (0 < m25 l0 0) <|
cal (X1_put (m25 l0 0) 10 (m (m (m l0 7) 1) l2) 0 m25) fun _ m28 =>
some (0, m28))
else
if m14 l1 0 = 2 then (
cal (X4_beginWait l0 l1 (m (m (m l0 7) 1) l2) (m (m (m l0 7) 2) l2) m14) fun _ m32 =>
some (0, m32))
else
if m14 l1 0 = 3 then (
chk9 (0 < m14 l0 0) <|
st9 (upd9 m14 l1 3 (m14 (m14 l0 0) 6)) fun m36 =>
chk9 (0 < m36 l0 0) <|
cal (X1_put (m36 l0 0) 12 (m (m (m l0 7) 1) l2) (m (m (m l0 7) 2) l2) m36) fun _ m39 =>
some (0, m39))
else
cal (X4_beginWait l0 l1 (m (m (m l0 7) 1) l2) (m (m (m l0 7) 2) l2) m14) fun _ m42 =>
some (0, m42)
def X4_beginStep (a0 a1 a2 : Int) (m : Mem) : Option R2 := X4_beginStep_0 a0 a1 a2 m
def X4_beginSteps_97 : Nat → Int → Int → Int → Mem → Option R2
  | 0, _, _, _, _ => none
  | n + 1, l0, l2, l3, m => (
chk9 (0 < l0) <|
if m l0 12 ≤ l3 then (
some (0, m))
else
chk9 (0 < m l0 3 ∧ 0 ≤ l3 ∧ l3 < 3) <|
chk9 (iR (l2 + l3)) <|
cal (X4_beginStep l0 (m (m l0 3) l3) (l2 + l3) m) fun _ m8 =>
chk9 (iR (l3 + 1)) <|
X4_beginSteps_97 n l0 l2 (l3 + 1) m8)
def X4_beginSteps_65 (l0 l2 s0 s1 : Int) (m : Mem) : Option R2 :=
chk9 (0 < l0) <|
chk9 (0 < m l0 7) <|
chk9 (iR (m (m l0 7) 3 - l2)) <|
chk9 (0 < s1) <|
st9 (upd9 m s1 12 (if (m (m l0 7) 3 - l2) < s0 then (m (m l0 7) 3 - l2) else s0)) fun m5 =>
chk9 (iR (l2 + m5 l0 12)) <|
st9 (upd9 m5 l0 11 (l2 + m5 l0 12)) fun m7 =>
st9 (upd9 m7 l0 9 1) fun m8 =>
X4_beginSteps_97 fuel9 l0 l2 0 m8
def X4_beginSteps_39 (l0 l1 s0 : Int) (m : Mem) : Option R2 :=
if l1 = 0 then (
X4_beginSteps_65 l0 s0 1 l0 m)
else
chk9 (0 < l0) <|
chk9 (0 < m l0 7) <|
chk9 (0 < m (m l0 7) 1 ∧ 0 ≤ m l0 10 ∧ m l0 10 < 12) <|
X4_beginSteps_65 l0 s0 (if 3 < m (m (m l0 7) 1) (m l0 10) then 3 else m (m (m l0 7) 1) (m l0 10)) l0 m
def X4_beginSteps_21 (l0 s0 : Int) (m : Mem) : Option R2 :=
if s0 = 0 then (
chk9 (0 < l0) <|
X4_beginSteps_39 l0 s0 (m l0 10) m)
else
chk9 (0 < l0) <|
chk9 (iR (m l0 10 + 1)) <|
X4_beginSteps_39 l0 s0 (m l0 10 + 1) m
def X4_beginSteps_0 (l0 : Int) (m : Mem) : Option R2 :=
chk9 (0 < l0) <|
chk9 (0 < m l0 7) <|
chk9 (0 < m (m l0 7) 0 ∧ 0 ≤ m l0 10 ∧ m l0 10 < 12) <|
if m (m (m l0 7) 0) (m l0 10) = 4 then (
X4_beginSteps_21 l0 1 m)
else
X4_beginSteps_21 l0 0 m
def X4_beginSteps (a0 : Int) (m : Mem) : Option R2 := X4_beginSteps_0 a0 m
def X4_goOn_197 (k6 : Int → Int → Mem → Option R2) (l0 l1 : Int) (m : Mem) : Option R2 :=
chk9 (0 < l0) <|
cal (X4_settle l0 m) fun _ m3 =>
chk9 (iR (l1 + 1)) <|
k6 l0 (l1 + 1) m3
def X4_goOn_92 (k6 : Int → Int → Mem → Option R2) (l0 l1 : Int) (m : Mem) : Option R2 :=
chk9 (0 < l0) <|
cal (X4_finish l0 21 (m l0 2) m) fun _ m3 =>
X4_goOn_197 k6 l0 l1 m3
def X4_goOn_71 (k6 : Int → Int → Mem → Option R2) (l0 l1 : Int) (m : Mem) : Option R2 :=
chk9 (0 < l0) <|
if m l0 10 < 0 then (
X4_goOn_92 k6 l0 l1 m)
else
chk9 (0 < m l0 7) <|
if m l0 10 < m (m l0 7) 3 then (
if l1 < 60 then (
chk9 (iR (m l0 13 - 1)) <|
st9 (upd9 m l0 13 (if 0 < (m l0 13 - 1) then (m l0 13 - 1) else 0)) fun m7 =>
chk9 (0 < m7 l0 7) <|
chk9 (0 < m7 (m7 l0 7) 0 ∧ 0 ≤ m7 l0 10 ∧ m7 l0 10 < 12) <|
if m7 (m7 (m7 l0 7) 0) (m7 l0 10) ≤ 4 then (
cal (X4_beginSteps l0 m7) fun _ m14 =>
X4_goOn_197 k6 l0 l1 m14)
else
chk9 (0 ≤ m7 l0 10 ∧ m7 l0 10 < 12) <|
chk9 (0 < m7 (m7 l0 7) 1 ∧ 0 ≤ m7 l0 10 ∧ m7 l0 10 < 12) <|
chk9 (0 < m7 (m7 l0 7) 2 ∧ 0 ≤ m7 l0 10 ∧ m7 l0 10 < 12) <|
cal (X4_goThrough l0 (m7 (m7 (m7 l0 7) 0) (m7 l0 10)) (m7 (m7 (m7 l0 7) 1) (m7 l0 10)) (m7 (m7 (m7 l0 7) 2) (m7 l0 10)) m7) fun _ m25 =>
X4_goOn_197 k6 l0 l1 m25)
else
cal (X4_backOut l0 9 m) fun _ m28 =>
X4_goOn_197 k6 l0 l1 m28)
else
X4_goOn_92 k6 l0 l1 m
def X4_goOn_32 (k6 : Int → Int → Mem → Option R2) (l0 l1 s0 s1 : Int) (m : Mem) : Option R2 :=
chk9 (0 < s1 ∧ (s0 = 0 ∨ s0 = 1)) <|
st9 (upd9 m s1 14 s0) fun m3 =>
chk9 (0 < l0) <|
if m3 l0 9 = 2 then (
cal (X4_undoNext l0 m3) fun _ m12 =>
X4_goOn_197 k6 l0 l1 m12)
else
if m3 l0 15 = 0 then (
X4_goOn_71 k6 l0 l1 m3)
else
if m3 l0 14 = 0 then (
cal (X4_cut l0 m3) fun _ m9 =>
X4_goOn_197 k6 l0 l1 m9)
else
X4_goOn_71 k6 l0 l1 m3
def X4_goOn_6 : Nat → Int → Int → Mem → Option R2
  | 0, _, _, _ => none
  | n + 1, l0, l1, m => (
if 61 < l1 then (
some (0, m))
else
chk9 (0 < l0) <|
cal (X4_isMoving l0 m) fun v3 m4 =>
if v3 = 0 then (
some (0, m4))
else
if m4 l0 13 ≤ 0 then (
X4_goOn_32 (X4_goOn_6 n) l0 l1 0 l0 m4)
else
X4_goOn_32 (X4_goOn_6 n) l0 l1 1 l0 m4)
def X4_goOn_0 (l0 : Int) (m : Mem) : Option R2 :=
chk9 (0 < l0) <|
cal (X4_settle l0 m) fun _ m3 =>
X4_goOn_6 fuel9 l0 0 m3
def X4_goOn (a0 : Int) (m : Mem) : Option R2 := X4_goOn_0 a0 m
def X4_play_122 (l0 : Int) (m : Mem) : Option R2 :=
chk9 (0 < l0) <|
chk9 (0 < m l0 0) <|
if m (m l0 0) 8 = 0 then (
some (1, m))
else
some (0, m)
def X4_play_84 (k10 : Int → Int → Int → Int → Mem → Option R2) (l0 l2 l4 l5 l6 : Int) (m : Mem) : Option R2 :=
chk9 (iR (l5 + 1)) <|
chk9 (0 < l0) <|
st9 (upd9 m l0 19 (l5 + 1)) fun m3 =>
chk9 (0 < l2) <|
chk9 (0 < m3 l2 1 ∧ 0 ≤ l5 ∧ l5 < 80) <|
chk9 (0 < m3 l2 2 ∧ 0 ≤ l5 ∧ l5 < 80) <|
cal (X4_hear l0 l6 (m3 (m3 l2 1) l5) (m3 (m3 l2 2) l5) m3) fun _ m12 =>
cal (X4_goOn l0 m12) fun _ m15 =>
chk9 (iR (l5 + 1)) <|
k10 l0 l2 l4 (l5 + 1) m15
def X4_play_10 (k122 : Int → Mem → Option R2) : Nat → Int → Int → Int → Int → Mem → Option R2
  | 0, _, _, _, _, _ => none
  | n + 1, l0, l2, l4, l5, m => (
chk9 (0 < l2) <|
if m l2 3 ≤ l5 then (
k122 l0 m)
else
if 80 ≤ l5 then (
k122 l0 m)
else
chk9 (0 < l0) <|
chk9 (0 < m l0 0) <|
if m (m l0 0) 8 = 0 then (
chk9 (0 < m l2 0 ∧ 0 ≤ l5 ∧ l5 < 80) <|
if m (m l2 0) l5 = 7 then (
cal (X1_closePart (m l0 0) m) fun _ m17 =>
chk9 (iR (l5 + 1)) <|
X4_play_10 k122 n l0 l2 l4 (l5 + 1) m17)
else
if 7 ≤ m (m l2 0) l5 then (
chk9 (iR (l5 + 1)) <|
X4_play_10 k122 n l0 l2 l4 (l5 + 1) m)
else
if m (m l0 0) 7 = 0 then (
if l4 = 0 then (
chk9 (iR (l5 + 1)) <|
X4_play_10 k122 n l0 l2 l4 (l5 + 1) m)
else
X4_play_84 (X4_play_10 k122 n) l0 l2 l4 l5 (m (m l2 0) l5) m)
else
X4_play_84 (X4_play_10 k122 n) l0 l2 l4 l5 (m (m l2 0) l5) m)
else
k122 l0 m)
def X4_play_0 (l0 l1 l2 l3 l4 : Int) (m : Mem) : Option R2 :=
chk9 (0 < l0) <|
cal (X4_begin l0 l1 l2 l3 m) fun _ m3 =>
X4_play_10 (X4_play_122) fuel9 l0 l2 l4 0 m3
def X4_play (a0 a1 a2 a3 a4 : Int) (m : Mem) : Option R2 := boolR (X4_play_0 a0 a1 a2 a3 a4 m)
def X5_add_0 (l0 l1 l2 l3 : Int) (m : Mem) : Option R2 :=
chk9 (0 < l0) <|
if 12 ≤ m l0 3 then (
some (0, m))
else
chk9 (0 < m l0 0 ∧ 0 ≤ m l0 3 ∧ m l0 3 < 12) <|
st9 (upd9 m (m l0 0) (m l0 3) l1) fun m6 =>
chk9 (0 < m6 l0 1 ∧ 0 ≤ m6 l0 3 ∧ m6 l0 3 < 12) <|
st9 (upd9 m6 (m6 l0 1) (m6 l0 3) l2) fun m10 =>
chk9 (0 < m10 l0 2 ∧ 0 ≤ m10 l0 3 ∧ m10 l0 3 < 12) <|
st9 (upd9 m10 (m10 l0 2) (m10 l0 3) l3) fun m14 =>
chk9 (iR (m14 l0 3 + 1)) <|
st9 (upd9 m14 l0 3 (m14 l0 3 + 1)) fun m16 =>
some (0, m16)
def X5_add (a0 a1 a2 a3 : Int) (m : Mem) : Option R2 := X5_add_0 a0 a1 a2 a3 m
def X5_canBeginTogether_2 : Nat → Int → Int → Int → Int → Mem → Option R2
  | 0, _, _, _, _, _ => none
  | n + 1, l0, l1, l2, l3, m => (
chk9 (iR (l1 + l2)) <|
if (l1 + l2) ≤ l3 then (
some (1, m))
else
chk9 (0 < l0) <|
if m l0 3 ≤ l3 then (
some (0, m))
else
if 12 ≤ l3 then (
some (0, m))
else
chk9 (0 < m l0 0 ∧ 0 ≤ l3 ∧ l3 < 12) <|
if m (m l0 0) l3 ≤ 3 then (
chk9 (iR (l3 + 1)) <|
X5_canBeginTogether_2 n l0 l1 l2 (l3 + 1) m)
else
some (0, m))
def X5_canBeginTogether_0 (l0 l1 l2 : Int) (m : Mem) : Option R2 :=
X5_canBeginTogether_2 fuel9 l0 l1 l2 l1 m
def X5_canBeginTogether (a0 a1 a2 : Int) (m : Mem) : Option R2 := boolR (X5_canBeginTogether_0 a0 a1 a2 m)
def X5_leadsWithin_0 (l0 l1 l2 l3 : Int) (m : Mem) : Option R2 :=
chk9 (0 < l0) <|
chk9 (0 < m l0 0 ∧ 0 ≤ l1 ∧ l1 < 12) <|
if m (m l0 0) l1 = 4 then (
chk9 (iR (l1 + 1)) <|
cal (X5_canBeginTogether l0 (l1 + 1) l2 m) fun v7 m8 =>
some (v7, m8))
else
if m (m l0 0) l1 = 5 then (
chk9 (iR (l1 + 1)) <|
chk9 (iR ((l1 + 1) + l3)) <|
if m l0 3 < ((l1 + 1) + l3) then (
some (0, m))
else
some (1, m))
else
if m (m l0 0) l1 = 6 then (
chk9 (iR (l1 - l3)) <|
if (l1 - l3) < 0 then (
some (0, m))
else
some (1, m))
else
if m (m l0 0) l1 = 7 then (
some (1, m))
else
if m (m l0 0) l1 = 8 then (
some (1, m))
else
if m (m l0 0) l1 = 9 then (
some (1, m))
else
if m (m l0 0) l1 = 10 then (
chk9 (iR (l1 + 1)) <|
chk9 (iR ((l1 + 1) + l3)) <|
if m l0 3 < ((l1 + 1) + l3) then (
some (0, m))
else
some (1, m))
else
some (1, m)
def X5_leadsWithin (a0 a1 a2 a3 : Int) (m : Mem) : Option R2 := boolR (X5_leadsWithin_0 a0 a1 a2 a3 m)
def X5_isWhole_44 (l0 : Int) (m : Mem) : Option R2 :=
chk9 (0 < l0) <|
if m l0 3 ≤ 0 then (
some (0, m))
else
some (1, m)
def X5_isWhole_2 (k44 : Int → Mem → Option R2) : Nat → Int → Int → Mem → Option R2
  | 0, _, _, _ => none
  | n + 1, l0, l1, m => (
chk9 (0 < l0) <|
if m l0 3 ≤ l1 then (
k44 l0 m)
else
if 12 ≤ l1 then (
k44 l0 m)
else
chk9 (0 < m l0 1 ∧ 0 ≤ l1 ∧ l1 < 12) <|
chk9 (0 < m l0 2 ∧ 0 ≤ l1 ∧ l1 < 12) <|
cal (X5_leadsWithin l0 l1 (m (m l0 1) l1) (m (m l0 2) l1) m) fun v10 m11 =>
if v10 = 0 then (
some (0, m11))
else
chk9 (iR (l1 + 1)) <|
X5_isWhole_2 k44 n l0 (l1 + 1) m11)
def X5_isWhole_0 (l0 : Int) (m : Mem) : Option R2 :=
X5_isWhole_2 (X5_isWhole_44) fuel9 l0 0 m
def X5_isWhole (a0 : Int) (m : Mem) : Option R2 := boolR (X5_isWhole_0 a0 m)
def X6_init_0 (l0 : Int) (m : Mem) : Option R2 :=
chk9 (0 < l0) <|
vl9 (l0 + 1) fun i2 =>
chk9 (0 < i2 ∧ m (-1) i2 = 0) <|
st9 (alo9 m i2 100003 3) fun m5 =>
st9 (upd9 m5 l0 0 i2) fun m6 =>
st9 (upd9 m6 l0 1 9) fun m7 =>
some (0, m7)
def X6_init (a0 : Int) (m : Mem) : Option R2 := X6_init_0 a0 m
def X6_countTaken_0 (l0 l1 : Int) (m : Mem) : Option R2 :=
chk9 (0 < l0) <|
chk9 (iR (m l0 2 + 1)) <|
st9 (upd9 m l0 2 (m l0 2 + 1)) fun m3 =>
if l1 < 0 then (
some (0, m3))
else
if 3 ≤ l1 then (
some (0, m3))
else
chk9 (0 < m3 l0 0 ∧ 0 ≤ l1 ∧ l1 < 3) <|
chk9 (iR (m3 (m3 l0 0) l1 + 1)) <|
chk9 (0 ≤ l1 ∧ l1 < 3) <|
st9 (upd9 m3 (m3 l0 0) l1 (m3 (m3 l0 0) l1 + 1)) fun m12 =>
some (0, m12)
def X6_countTaken (a0 a1 : Int) (m : Mem) : Option R2 := X6_countTaken_0 a0 a1 m
def X6_countOf_0 (l0 l1 : Int) (m : Mem) : Option R2 :=
if l1 < 0 then (
some (0, m))
else
if 3 ≤ l1 then (
some (0, m))
else
chk9 (0 < l0) <|
chk9 (0 < m l0 0 ∧ 0 ≤ l1 ∧ l1 < 3) <|
some (m (m l0 0) l1, m)
def X6_countOf (a0 a1 : Int) (m : Mem) : Option R2 := X6_countOf_0 a0 a1 m
def X6_prefers_0 (l0 l1 l2 : Int) (m : Mem) : Option R2 :=
chk9 (0 < l1) <|
chk9 (0 < l0) <|
cal (X6_countOf l0 (m l1 3) m) fun v3 m4 =>
chk9 (0 < l2) <|
cal (X6_countOf l0 (m4 l2 3) m4) fun v7 m8 =>
if v3 = v7 then (
if m8 l1 3 = m8 l2 3 then (
if m8 l1 7 = m8 l2 7 then (
if m8 l2 4 ≤ m8 l1 4 then (
some (0, m8))
else
some (1, m8))
else
if m8 l2 7 ≤ m8 l1 7 then (
some (0, m8))
else
some (1, m8))
else
if m8 l2 3 ≤ m8 l1 3 then (
some (0, m8))
else
some (1, m8))
else
cal (X6_countOf l0 (m8 l1 3) m8) fun v16 m17 =>
cal (X6_countOf l0 (m17 l2 3) m17) fun v19 m20 =>
if v19 ≤ v16 then (
some (0, m20))
else
some (1, m20)
def X6_prefers (a0 a1 a2 : Int) (m : Mem) : Option R2 := boolR (X6_prefers_0 a0 a1 a2 m)
def X7_init_0 (l0 l1 : Int) (m : Mem) : Option R2 :=
chk9 (0 < l0) <|
vl9 (l0 + 1) fun i2 =>
chk9 (0 < i2 ∧ m (-1) i2 = 0) <|
st9 (alo9 m i2 13 4) fun m5 =>
cal (X3_init i2 m5) fun _ m7 =>
st9 (upd9 m7 l0 0 i2) fun m9 =>
vl9 (l0 + 5) fun i10 =>
chk9 (0 < i10 ∧ m9 (-1) i10 = 0) <|
st9 (alo9 m9 i10 400080 80) fun m13 =>
st9 (upd9 m13 l0 1 i10) fun m14 =>
vl9 (l0 + 6) fun i15 =>
chk9 (0 < i15 ∧ m14 (-1) i15 = 0) <|
st9 (alo9 m14 i15 100080 80) fun m18 =>
st9 (upd9 m18 l0 2 i15) fun m19 =>
st9 (upd9 m19 l0 7 20) fun m20 =>
st9 (upd9 m20 l0 9 (-1)) fun m21 =>
chk9 (0 < m21 l0 0) <|
cal (X3_put (m21 l0 0) 0 l1 0 m21) fun _ m24 =>
some (0, m24)
def X7_init (a0 a1 : Int) (m : Mem) : Option R2 := X7_init_0 a0 a1 m
def X7_tellUnmade_10 : Nat → Int → Int → Mem → Option R2
  | 0, _, _, _ => none
  | n + 1, l0, l1, m => (
chk9 (0 < l0) <|
if m l0 5 ≤ l1 then (
st9 (upd9 m l0 6 0) fun m3 =>
some (0, m3))
else
cal (X7_happen l0 5 l1 (-1) m) fun v4 m5 =>
chk9 (iR (l1 + 1)) <|
X7_tellUnmade_10 n l0 (l1 + 1) m5)
def X7_tellUnmade_0 (l0 : Int) (m : Mem) : Option R2 :=
chk9 (0 < l0) <|
chk9 (iR (m l0 5 - m l0 6)) <|
X7_tellUnmade_10 fuel9 l0 (m l0 5 - m l0 6) m
def X7_tellUnmade (a0 : Int) (m : Mem) : Option R2 := X7_tellUnmade_0 a0 m
def X7_hasNews_0 (l0 : Int) (m : Mem) : Option R2 :=
chk9 (0 < l0) <|
chk9 (0 < m l0 0) <|
chk9 (iR (m (m l0 0) 3 - 1)) <|
if (m (m l0 0) 3 - 1) < 0 then (
some (0, m))
else
if 80 ≤ (m (m l0 0) 3 - 1) then (
some (0, m))
else
chk9 (0 < m (m l0 0) 0 ∧ 0 ≤ (m (m l0 0) 3 - 1) ∧ (m (m l0 0) 3 - 1) < 80) <|
if 7 ≤ m (m (m l0 0) 0) (m (m l0 0) 3 - 1) then (
some (0, m))
else
some (1, m)
def X7_hasNews (a0 : Int) (m : Mem) : Option R2 := boolR (X7_hasNews_0 a0 m)
def X7_addActivity_0 (l0 l1 : Int) (m : Mem) : Option R2 :=
chk9 (0 < l0) <|
if 80 ≤ m l0 3 then (
some (0, m))
else
chk9 (0 < m l0 1 ∧ 0 ≤ m l0 3 ∧ m l0 3 < 80 ∧ 0 < l1) <|
st9 (upd9 m (m l0 1) (m l0 3) l1) fun m7 =>
chk9 (iR (m7 l0 3 + 1)) <|
st9 (upd9 m7 l0 3 (m7 l0 3 + 1)) fun m9 =>
some (0, m9)
def X7_addActivity (a0 a1 : Int) (m : Mem) : Option R2 := X7_addActivity_0 a0 a1 m
def X7_countReady_4 : Nat → Int → Int → Int → Int → Mem → Option R2
  | 0, _, _, _, _, _ => none
  | n + 1, l0, l1, l2, l3, m => (
chk9 (0 < l0) <|
if m l0 3 ≤ l3 then (
some (l2, m))
else
chk9 (0 < m l0 1 ∧ 0 ≤ l3 ∧ l3 < 80) <|
chk9 (0 < m (m l0 1) l3) <|
cal (X0_isReadyOn (m (m l0 1) l3) l1 m) fun v7 m8 =>
if v7 = 0 then (
chk9 (iR (l3 + 1)) <|
X7_countReady_4 n l0 l1 l2 (l3 + 1) m8)
else
chk9 (iR (l2 + 1)) <|
chk9 (iR (l3 + 1)) <|
X7_countReady_4 n l0 l1 (l2 + 1) (l3 + 1) m8)
def X7_countReady_0 (l0 l1 : Int) (m : Mem) : Option R2 :=
X7_countReady_4 fuel9 l0 l1 0 0 m
def X7_countReady (a0 a1 : Int) (m : Mem) : Option R2 := X7_countReady_0 a0 a1 m
def X7_wakeActivities_2 : Nat → Int → Int → Int → Mem → Option R2
  | 0, _, _, _, _ => none
  | n + 1, l0, l1, l2, m => (
chk9 (0 < l0) <|
if m l0 3 ≤ l2 then (
some (0, m))
else
chk9 (0 < m l0 1 ∧ 0 ≤ l2 ∧ l2 < 80) <|
chk9 (0 < m (m l0 1) l2) <|
cal (X0_wake (m (m l0 1) l2) l1 m) fun _ m8 =>
chk9 (iR (l2 + 1)) <|
X7_wakeActivities_2 n l0 l1 (l2 + 1) m8)
def X7_wakeActivities_0 (l0 l1 : Int) (m : Mem) : Option R2 :=
X7_wakeActivities_2 fuel9 l0 l1 0 m
def X7_wakeActivities (a0 a1 : Int) (m : Mem) : Option R2 := X7_wakeActivities_0 a0 a1 m
def X7_addTimer_0 (l0 l1 : Int) (m : Mem) : Option R2 :=
chk9 (0 < l0) <|
if 80 ≤ m l0 4 then (
some (0, m))
else
chk9 (0 < m l0 2 ∧ 0 ≤ m l0 4 ∧ m l0 4 < 80) <|
st9 (upd9 m (m l0 2) (m l0 4) l1) fun m6 =>
chk9 (iR (m6 l0 4 + 1)) <|
st9 (upd9 m6 l0 4 (m6 l0 4 + 1)) fun m8 =>
some (0, m8)
def X7_addTimer (a0 a1 : Int) (m : Mem) : Option R2 := X7_addTimer_0 a0 a1 m
def X7_dropTimer_0 (l0 l1 : Int) (m : Mem) : Option R2 :=
if l1 < 0 then (
some (0, m))
else
chk9 (0 < l0) <|
if m l0 4 ≤ l1 then (
some (0, m))
else
chk9 (0 < m l0 2 ∧ 0 ≤ l1 ∧ l1 < 80) <|
st9 (upd9 m (m l0 2) l1 0) fun m7 =>
some (0, m7)
def X7_dropTimer (a0 a1 : Int) (m : Mem) : Option R2 := X7_dropTimer_0 a0 a1 m
def X7_fireTimers_2 : Nat → Int → Int → Int → Mem → Option R2
  | 0, _, _, _, _ => none
  | n + 1, l0, l1, l2, m => (
chk9 (0 < l0) <|
if m l0 4 ≤ l2 then (
some (0, m))
else
chk9 (0 < m l0 2 ∧ 0 ≤ l2 ∧ l2 < 80) <|
if m (m l0 2) l2 = l1 then (
chk9 (0 ≤ l2 ∧ l2 < 80) <|
st9 (upd9 m (m l0 2) l2 0) fun m10 =>
cal (X7_happen l0 3 l2 0 m10) fun v11 m12 =>
chk9 (iR (l2 + 1)) <|
X7_fireTimers_2 n l0 l1 (l2 + 1) m12)
else
chk9 (iR (l2 + 1)) <|
X7_fireTimers_2 n l0 l1 (l2 + 1) m)
def X7_fireTimers_0 (l0 l1 : Int) (m : Mem) : Option R2 :=
X7_fireTimers_2 fuel9 l0 l1 0 m
def X7_fireTimers (a0 a1 : Int) (m : Mem) : Option R2 := X7_fireTimers_0 a0 a1 m
def X9_init_0 (l0 : Int) (m : Mem) : Option R2 :=
chk9 (0 < l0) <|
st9 (upd9 m l0 0 1) fun m2 =>
some (0, m2)
def X9_init (a0 : Int) (m : Mem) : Option R2 := X9_init_0 a0 m
def X10_init_0 (l0 l1 l2 l3 l4 : Int) (m : Mem) : Option R2 :=
chk9 (0 < l0) <|
vl9 (l0 + 1) fun i2 =>
chk9 (0 < i2 ∧ m (-1) i2 = 0) <|
st9 (alo9 m i2 100002 2) fun m5 =>
st9 (upd9 m5 l0 3 i2) fun m6 =>
vl9 (l0 + 2) fun i7 =>
chk9 (0 < i7 ∧ m6 (-1) i7 = 0) <|
st9 (alo9 m6 i7 407009 9) fun m10 =>
st9 (upd9 m10 l0 4 i7) fun m11 =>
st9 (upd9 m11 l0 5 1) fun m12 =>
st9 (upd9 m12 l0 7 (-1)) fun m13 =>
st9 (upd9 m13 l0 8 (-1)) fun m14 =>
st9 (upd9 m14 l0 9 (-1)) fun m15 =>
st9 (upd9 m15 l0 0 l1) fun m16 =>
st9 (upd9 m16 l0 1 l2) fun m17 =>
st9 (upd9 m17 l0 2 l3) fun m18 =>
vl9 (l0 + 10000) fun i19 =>
chk9 (0 < i19 ∧ m18 (-1) i19 = 0) <|
st9 (alo9 m18 i19 17 11) fun m22 =>
cal (X7_init i19 l4 m22) fun _ m24 =>
st9 (upd9 m24 l0 6 i19) fun m26 =>
chk9 (0 < m26 l0 4 ∧ 0 < m26 l0 6) <|
st9 (upd9 m26 (m26 l0 4) 0 (m26 l0 6)) fun m29 =>
some (0, m29)
def X10_init (a0 a1 a2 a3 a4 : Int) (m : Mem) : Option R2 := X10_init_0 a0 a1 a2 a3 a4 m
def X10_beginRun_0 (l0 l1 : Int) (m : Mem) : Option R2 :=
chk9 (0 < l0) <|
if 9 ≤ m l0 5 then (
some (0, m))
else
vl9 (l0 + 10000 * (m l0 5 + 1)) fun i3 =>
chk9 (0 < i3 ∧ m (-1) i3 = 0) <|
st9 (alo9 m i3 17 11) fun m6 =>
cal (X7_init i3 l1 m6) fun _ m8 =>
st9 (upd9 m8 l0 6 i3) fun m10 =>
chk9 (0 < m10 l0 4 ∧ 0 ≤ m10 l0 5 ∧ m10 l0 5 < 9 ∧ 0 < m10 l0 6) <|
st9 (upd9 m10 (m10 l0 4) (m10 l0 5) (m10 l0 6)) fun m15 =>
chk9 (iR (m15 l0 5 + 1)) <|
st9 (upd9 m15 l0 5 (m15 l0 5 + 1)) fun m17 =>
some (0, m17)
def X10_beginRun (a0 a1 : Int) (m : Mem) : Option R2 := X10_beginRun_0 a0 a1 m
def X10_tell_0 (l0 l1 l2 : Int) (m : Mem) : Option R2 :=
if l1 < 0 then (
some (0, m))
else
if 2 ≤ l1 then (
some (0, m))
else
chk9 (0 < l0) <|
chk9 (0 < m l0 3 ∧ 0 ≤ l1 ∧ l1 < 2) <|
st9 (upd9 m (m l0 3) l1 l2) fun m7 =>
some (0, m7)
def X10_tell (a0 a1 a2 : Int) (m : Mem) : Option R2 := X10_tell_0 a0 a1 a2 m
def X11_init_102 : Nat → Int → Int → Mem → Option R2
  | 0, _, _, _ => none
  | n + 1, l0, l1, m => (
if 4 ≤ l1 then (
some (0, m))
else
chk9 (0 < l0) <|
vl9 (5100 + l1) fun i3 =>
chk9 (0 < i3 ∧ m (-1) i3 = 0) <|
st9 (alo9 m i3 19 2) fun m6 =>
cal (X9_init i3 m6) fun _ m8 =>
chk9 (0 < m l0 3 ∧ 0 ≤ l1 ∧ l1 < 4) <|
st9 (upd9 m8 (m l0 3) l1 i3) fun m13 =>
chk9 (iR (l1 + 1)) <|
X11_init_102 n l0 (l1 + 1) m13)
def X11_init_76 (k102 : Int → Int → Mem → Option R2) : Nat → Int → Int → Mem → Option R2
  | 0, _, _, _ => none
  | n + 1, l0, l1, m => (
if 2 ≤ l1 then (
k102 l0 0 m)
else
chk9 (0 < l0) <|
vl9 (5000 + 10 * l1) fun i3 =>
chk9 (0 < i3 ∧ m (-1) i3 = 0) <|
st9 (alo9 m i3 16 3) fun m6 =>
cal (X6_init i3 m6) fun _ m8 =>
chk9 (0 < m l0 2 ∧ 0 ≤ l1 ∧ l1 < 2) <|
st9 (upd9 m8 (m l0 2) l1 i3) fun m13 =>
chk9 (iR (l1 + 1)) <|
X11_init_76 k102 n l0 (l1 + 1) m13)
def X11_init_50 (k76 : Int → Int → Mem → Option R2) : Nat → Int → Int → Mem → Option R2
  | 0, _, _, _ => none
  | n + 1, l0, l1, m => (
if 3 ≤ l1 then (
k76 l0 0 m)
else
chk9 (0 < l0) <|
vl9 (1000 * (l1 + 1)) fun i3 =>
chk9 (0 < i3 ∧ m (-1) i3 = 0) <|
st9 (alo9 m i3 12 3) fun m6 =>
cal (X2_init i3 m6) fun _ m8 =>
chk9 (0 < m l0 0 ∧ 0 ≤ l1 ∧ l1 < 3) <|
st9 (upd9 m8 (m l0 0) l1 i3) fun m13 =>
chk9 (iR (l1 + 1)) <|
X11_init_50 k76 n l0 (l1 + 1) m13)
def X11_init_0 (l0 : Int) (m : Mem) : Option R2 :=
chk9 (0 < l0) <|
chk9 (m (-1) 2 = 0) <|
st9 (alo9 m 2 402003 3) fun m3 =>
st9 (upd9 m3 l0 0 2) fun m4 =>
chk9 (m4 (-1) 3 = 0) <|
st9 (alo9 m4 3 410010 10) fun m6 =>
st9 (upd9 m6 l0 1 3) fun m7 =>
chk9 (m7 (-1) 4 = 0) <|
st9 (alo9 m7 4 406002 2) fun m9 =>
st9 (upd9 m9 l0 2 4) fun m10 =>
chk9 (m10 (-1) 5 = 0) <|
st9 (alo9 m10 5 409004 4) fun m12 =>
st9 (upd9 m12 l0 3 5) fun m13 =>
chk9 (m13 (-1) 100 = 0) <|
st9 (alo9 m13 100 14 20) fun m15 =>
cal (X4_init 100 m15) fun _ m17 =>
st9 (upd9 m17 l0 4 100) fun m19 =>
X11_init_50 (X11_init_76 (X11_init_102 fuel9) fuel9) fuel9 l0 0 m19
def X11_init (a0 : Int) (m : Mem) : Option R2 := X11_init_0 a0 m
def X11_isWithin_0 (l0 l1 l2 : Int) (m : Mem) : Option R2 :=
if l0 < l1 then (
some (0, m))
else
if l2 < l0 then (
some (0, m))
else
some (1, m)
def X11_isWithin (a0 a1 a2 : Int) (m : Mem) : Option R2 := boolR (X11_isWithin_0 a0 a1 a2 m)
def X11_familyOf_0 (l0 l1 : Int) (m : Mem) : Option R3 :=
cal (X11_isWithin l1 0 2 m) fun v1 m2 =>
if v1 = 0 then (
some (1, 0, thr9 m2))
else
chk9 (0 < l0) <|
chk9 (0 < m2 l0 0 ∧ 0 ≤ l1 ∧ l1 < 3) <|
some (0, m2 (m2 l0 0) l1, m2)
def X11_familyOf (a0 a1 : Int) (m : Mem) : Option R3 := X11_familyOf_0 a0 a1 m
def X11_isStep_0 (l0 l1 l2 : Int) (m : Mem) : Option R2 :=
cal (X11_isWithin l0 0 15 m) fun v1 m2 =>
if v1 = 0 then (
some (0, m2))
else
chk9 (0 ≤ l0 ∧ l0 < 16 ∧ iR (sar9 1 (l0).toNat)) <|
chk9 (0 ≤ l0 ∧ l0 < 16 ∧ iR (sar9 2 (l0).toNat)) <|
cal (X11_isWithin l1 (sar9 1 (l0).toNat) (sar9 2 (l0).toNat) m2) fun v11 m12 =>
if v11 = 0 then (
some (0, m12))
else
chk9 (0 ≤ l0 ∧ l0 < 16 ∧ iR (sar9 3 (l0).toNat)) <|
chk9 (0 ≤ l0 ∧ l0 < 16 ∧ iR (sar9 4 (l0).toNat)) <|
cal (X11_isWithin l2 (sar9 3 (l0).toNat) (sar9 4 (l0).toNat) m12) fun v21 m22 =>
if v21 = 0 then (
some (0, m22))
else
some (1, m22)
def X11_isStep (a0 a1 a2 : Int) (m : Mem) : Option R2 := boolR (X11_isStep_0 a0 a1 a2 m)
def X11_step_0 (l0 l1 l2 l3 l4 : Int) (m : Mem) : Option R3 :=
chk9 (0 < l0) <|
calX (X11_familyOf l0 l1 m) fun v2 m3 =>
cal (X11_isStep l2 l3 l4 m3) fun v5 m6 =>
if v5 = 0 then (
some (2, 0, thr9 m6))
else
chk9 (0 < v2) <|
if 4 ≤ m6 v2 1 then (
some (3, 0, thr9 m6))
else
chk9 (0 < m6 v2 2) <|
if m6 (m6 v2 2) 3 < 12 then (
cal (X5_add (m6 v2 2) l2 l3 l4 m6) fun _ m14 =>
chk9 (0 < m14 v2 2) <|
some (0, m14 (m14 v2 2) 3, m14))
else
some (3, 0, thr9 m6)
def X11_step (a0 a1 a2 a3 a4 : Int) (m : Mem) : Option R3 := X11_step_0 a0 a1 a2 a3 a4 m
def X11_forget_0 (l0 l1 : Int) (m : Mem) : Option R3 :=
chk9 (0 < l0) <|
calX (X11_familyOf l0 l1 m) fun v2 m3 =>
chk9 (0 < v2) <|
chk9 (0 < m3 v2 2) <|
st9 (upd9 m3 (m3 v2 2) 3 0) fun m7 =>
some (0, m3 (m3 v2 2) 3, m7)
def X11_forget (a0 a1 : Int) (m : Mem) : Option R3 := X11_forget_0 a0 a1 m
def X11_release_0 (l0 l1 : Int) (m : Mem) : Option R3 :=
chk9 (0 < l0) <|
calX (X11_familyOf l0 l1 m) fun v2 m3 =>
chk9 (0 < v2) <|
chk9 (0 < m3 v2 2) <|
cal (X5_isWhole (m3 v2 2) m3) fun v7 m8 =>
if v7 = 0 then (
some (3, 0, thr9 m8))
else
cal (X2_releaseTold v2 m8) fun _ m12 =>
some (0, m12 v2 1, m12)
def X11_release (a0 a1 : Int) (m : Mem) : Option R3 := X11_release_0 a0 a1 m
def X11_versions_0 (l0 l1 : Int) (m : Mem) : Option R3 :=
chk9 (0 < l0) <|
calX (X11_familyOf l0 l1 m) fun v2 m3 =>
chk9 (0 < v2) <|
some (0, m3 v2 1, m3)
def X11_versions (a0 a1 : Int) (m : Mem) : Option R3 := X11_versions_0 a0 a1 m
def X11_addFlow_0 (l0 l1 : Int) (m : Mem) : Option R2 :=
chk9 (0 < l0) <|
if 10 ≤ m l0 5 then (
some (0, m))
else
chk9 (0 < m l0 1 ∧ 0 ≤ m l0 5 ∧ m l0 5 < 10 ∧ 0 < l1) <|
st9 (upd9 m (m l0 1) (m l0 5) l1) fun m7 =>
chk9 (iR (m7 l0 5 + 1)) <|
st9 (upd9 m7 l0 5 (m7 l0 5 + 1)) fun m9 =>
some (0, m9)
def X11_addFlow (a0 a1 : Int) (m : Mem) : Option R2 := X11_addFlow_0 a0 a1 m
def X11_start_0 (l0 l1 l2 l3 : Int) (m : Mem) : Option R3 :=
cal (X11_isWithin l1 0 2 m) fun v1 m2 =>
if v1 = 0 then (
some (1, 0, thr9 m2))
else
cal (X11_isWithin l2 0 2 m2) fun v5 m6 =>
if v5 = 0 then (
some (1, 0, thr9 m6))
else
cal (X11_isWithin l3 (-99) 99 m6) fun v9 m10 =>
if v9 = 0 then (
some (2, 0, thr9 m10))
else
chk9 (0 < l0) <|
if m10 l0 5 < 10 then (
vl9 (100000 * (m10 l0 5 + 1)) fun i15 =>
chk9 (0 < i15 ∧ m10 (-1) i15 = 0) <|
st9 (alo9 m10 i15 20 11) fun m18 =>
cal (X10_init i15 (m18 l0 5) l1 l2 l3 m18) fun _ m20 =>
cal (X11_addFlow l0 i15 m20) fun _ m23 =>
some (0, m23 i15 0, m23))
else
some (3, 0, thr9 m10)
def X11_start (a0 a1 a2 a3 : Int) (m : Mem) : Option R3 := X11_start_0 a0 a1 a2 a3 m
def X11_flowOf_0 (l0 l1 : Int) (m : Mem) : Option R3 :=
chk9 (0 < l0) <|
chk9 (iR (m l0 5 - 1)) <|
cal (X11_isWithin l1 0 (m l0 5 - 1) m) fun v3 m4 =>
if v3 = 0 then (
some (1, 0, thr9 m4))
else
chk9 (0 < m4 l0 1 ∧ 0 ≤ l1 ∧ l1 < 10) <|
some (0, m4 (m4 l0 1) l1, m4)
def X11_flowOf (a0 a1 : Int) (m : Mem) : Option R3 := X11_flowOf_0 a0 a1 m
def X11_signal_0 (l0 l1 l2 l3 : Int) (m : Mem) : Option R3 :=
chk9 (0 < l0) <|
calX (X11_flowOf l0 l1 m) fun v2 m3 =>
cal (X11_isWithin l2 0 2 m3) fun v5 m6 =>
if v5 = 0 then (
some (2, 0, thr9 m6))
else
cal (X11_isWithin l3 (-99) 99 m6) fun v9 m10 =>
if v9 = 0 then (
some (2, 0, thr9 m10))
else
chk9 (0 < v2) <|
chk9 (0 < m10 v2 6) <|
cal (X7_happen (m10 v2 6) 4 l2 l3 m10) fun v15 m16 =>
some (0, v15, m16)
def X11_signal (a0 a1 a2 a3 : Int) (m : Mem) : Option R3 := boolX (X11_signal_0 a0 a1 a2 a3 m)
def X11_cancel_0 (l0 l1 : Int) (m : Mem) : Option R3 :=
chk9 (0 < l0) <|
calX (X11_flowOf l0 l1 m) fun v2 m3 =>
chk9 (0 < v2) <|
chk9 (0 < m3 v2 6) <|
cal (X7_askCancel (m3 v2 6) m3) fun v7 m8 =>
some (0, v7, m8)
def X11_cancel (a0 a1 : Int) (m : Mem) : Option R3 := boolX (X11_cancel_0 a0 a1 m)
def X11_programOf_0 (l0 l1 l2 : Int) (m : Mem) : Option R3 :=
chk9 (0 < l1) <|
chk9 (0 < l0) <|
calX (X11_familyOf l0 (m l1 1) m) fun v3 m4 =>
chk9 (0 < v3) <|
cal (X11_isWithin l2 1 (m4 v3 1) m4) fun v7 m8 =>
if v7 = 0 then (
some (1, 0, thr9 m8))
else
chk9 (iR (l2 - 1)) <|
chk9 (0 < m8 v3 0 ∧ 0 ≤ (l2 - 1) ∧ (l2 - 1) < 4) <|
some (0, m8 (m8 v3 0) (l2 - 1), m8)
def X11_programOf (a0 a1 a2 : Int) (m : Mem) : Option R3 := X11_programOf_0 a0 a1 a2 m
def X11_freeHandsOf_2 : Nat → Int → Int → Int → Mem → Option R2
  | 0, _, _, _, _ => none
  | n + 1, l0, l1, l2, m => (
if 4 ≤ l2 then (
some (0, m))
else
chk9 (0 < l0) <|
chk9 (0 < m l0 3 ∧ 0 ≤ l2 ∧ l2 < 4) <|
chk9 (0 < m (m l0 3) l2) <|
if m (m (m l0 3) l2) 1 = l1 then (
chk9 (0 ≤ l2 ∧ l2 < 4) <|
st9 (upd9 m (m (m l0 3) l2) 1 0) fun m11 =>
chk9 (iR (l2 + 1)) <|
X11_freeHandsOf_2 n l0 l1 (l2 + 1) m11)
else
chk9 (iR (l2 + 1)) <|
X11_freeHandsOf_2 n l0 l1 (l2 + 1) m)
def X11_freeHandsOf_0 (l0 l1 : Int) (m : Mem) : Option R2 :=
X11_freeHandsOf_2 fuel9 l0 l1 0 m
def X11_freeHandsOf (a0 a1 : Int) (m : Mem) : Option R2 := X11_freeHandsOf_0 a0 a1 m
def X11_takeOff_0 (l0 l1 : Int) (m : Mem) : Option R2 :=
chk9 (0 < l1) <|
st9 (upd9 m l1 6 3) fun m2 =>
chk9 (0 < l0) <|
cal (X11_freeHandsOf l0 l1 m2) fun _ m5 =>
some (0, m5)
def X11_takeOff (a0 a1 : Int) (m : Mem) : Option R2 := X11_takeOff_0 a0 a1 m
def X11_makeChild_92 (l4 : Int) (m : Mem) : Option R2 :=
chk9 (0 < l4) <|
chk9 (iR (m l4 5 + 1)) <|
st9 (upd9 m l4 5 (m l4 5 + 1)) fun m3 =>
some (0, m3)
def X11_makeChild_0 (l0 l1 l2 l3 : Int) (m : Mem) : Option R2 :=
chk9 (0 < l1) <|
chk9 (0 < l0) <|
if 10 ≤ m l0 5 then (
chk9 (0 < m l1 6) <|
chk9 (iR (m (m l1 6) 6 + 1)) <|
st9 (upd9 m (m l1 6) 6 (m (m l1 6) 6 + 1)) fun m6 =>
X11_makeChild_92 (m l1 6) m6)
else
vl9 (100000 * (m l0 5 + 1)) fun i7 =>
chk9 (0 < i7 ∧ m (-1) i7 = 0) <|
st9 (alo9 m i7 20 11) fun m10 =>
chk9 (0 < m l1 6) <|
cal (X10_init i7 (m10 l0 5) l2 (m10 l1 2) (m10 (m l1 6) 8) m10) fun _ m13 =>
st9 (upd9 m13 i7 7 (m13 l1 0)) fun m15 =>
st9 (upd9 m15 i7 8 (m15 l1 5)) fun m16 =>
st9 (upd9 m16 i7 9 (m16 (m l1 6) 5)) fun m17 =>
st9 (upd9 m17 i7 10 l3) fun m18 =>
cal (X11_addFlow l0 i7 m18) fun _ m20 =>
X11_makeChild_92 (m l1 6) m20
def X11_makeChild (a0 a1 a2 a3 : Int) (m : Mem) : Option R2 := X11_makeChild_0 a0 a1 a2 a3 m
def X11_takeEffect_0 (l0 l1 l2 l3 l4 : Int) (m : Mem) : Option R2 :=
chk9 (0 < l1) <|
if l2 = 8 then (
vl9 (m l1 6 + 100 + m (m l1 6) 3) fun i3 =>
chk9 (0 < i3 ∧ m (-1) i3 = 0) <|
st9 (alo9 m i3 10 10) fun m6 =>
chk9 (0 < l0) <|
cal (X0_init i3 l1 l4 (m6 l0 6) (m6 l0 7) m6) fun _ m9 =>
chk9 (0 < m l1 6) <|
cal (X7_addActivity (m l1 6) i3 m9) fun _ m13 =>
chk9 (iR (m13 l0 6 + 1)) <|
st9 (upd9 m13 l0 6 (m13 l0 6 + 1)) fun m16 =>
some (0, m16))
else
if l2 = 9 then (
chk9 (0 < m l1 6) <|
chk9 (iR (m (m l1 6) 3 - 1)) <|
cal (X11_isWithin l3 0 (m (m l1 6) 3 - 1) m) fun v20 m21 =>
if v20 = 0 then (
some (0, m21))
else
chk9 (0 < m21 (m l1 6) 1 ∧ 0 ≤ l3 ∧ l3 < 80) <|
chk9 (0 < l0) <|
cal (X11_takeOff l0 (m21 (m21 (m l1 6) 1) l3) m21) fun _ m29 =>
some (0, m29))
else
if l2 = 10 then (
chk9 (0 < l0) <|
chk9 (iR (m l0 7 + l3)) <|
chk9 (0 < m l1 6) <|
cal (X7_addTimer (m l1 6) (m l0 7 + l3) m) fun _ m36 =>
some (0, m36))
else
if l2 = 11 then (
chk9 (0 < m l1 6) <|
cal (X7_dropTimer (m l1 6) l3 m) fun _ m41 =>
some (0, m41))
else
if l2 = 12 then (
chk9 (0 < l0) <|
cal (X11_makeChild l0 l1 l3 l4 m) fun _ m46 =>
some (0, m46))
else
if l2 = 13 then (
some (0, m))
else
if l2 = 14 then (
cal (X10_tell l1 l3 l4 m) fun _ m51 =>
some (0, m51))
else
if l2 = 15 then (
vl9 (m l1 6 + 100 + m (m l1 6) 3) fun i54 =>
chk9 (0 < i54 ∧ m (-1) i54 = 0) <|
st9 (alo9 m i54 10 10) fun m57 =>
chk9 (0 < l0) <|
cal (X0_init i54 l1 l4 (m57 l0 6) (m57 l0 7) m57) fun _ m60 =>
chk9 (0 < m l1 6) <|
cal (X7_addActivity (m l1 6) i54 m60) fun _ m64 =>
chk9 (iR (m64 l0 6 + 1)) <|
st9 (upd9 m64 l0 6 (m64 l0 6 + 1)) fun m67 =>
some (0, m67))
else
some (0, m)
def X11_takeEffect (a0 a1 a2 a3 a4 : Int) (m : Mem) : Option R2 := X11_takeEffect_0 a0 a1 a2 a3 a4 m
def X11_putDown_97 : Nat → Int → Int → Int → Int → Int → Mem → Option R2
  | 0, _, _, _, _, _, _ => none
  | n + 1, l0, l1, l3, l4, l6, m => (
chk9 (0 < l4) <|
if m l4 3 ≤ l6 then (
some (0, m))
else
if 80 ≤ l6 then (
some (0, m))
else
chk9 (0 < l3) <|
chk9 (0 < m l4 0 ∧ 0 ≤ l6 ∧ l6 < 80) <|
chk9 (0 < m l4 1 ∧ 0 ≤ l6 ∧ l6 < 80) <|
chk9 (0 < m l4 2 ∧ 0 ≤ l6 ∧ l6 < 80) <|
chk9 (0 < m l3 0) <|
cal (X3_put (m l3 0) (m (m l4 0) l6) (m (m l4 1) l6) (m (m l4 2) l6) m) fun _ m16 =>
chk9 (0 < m16 l4 0 ∧ 0 ≤ l6 ∧ l6 < 80) <|
chk9 (0 < m16 l4 1 ∧ 0 ≤ l6 ∧ l6 < 80) <|
chk9 (0 < m16 l4 2 ∧ 0 ≤ l6 ∧ l6 < 80) <|
chk9 (0 < l0) <|
cal (X11_takeEffect l0 l1 (m16 (m16 l4 0) l6) (m16 (m16 l4 1) l6) (m16 (m16 l4 2) l6) m16) fun _ m29 =>
chk9 (iR (l6 + 1)) <|
X11_putDown_97 n l0 l1 l3 l4 (l6 + 1) m29)
def X11_putDown_83 (l0 l1 l2 l3 l4 : Int) (m : Mem) : Option R2 :=
chk9 (0 < l3) <|
chk9 (0 < m l3 0) <|
cal (X3_put (m l3 0) 7 l2 0 m) fun _ m4 =>
X11_putDown_97 fuel9 l0 l1 l3 l4 0 m4
def X11_putDown_50 (l0 l1 l2 l3 l4 s0 s1 : Int) (m : Mem) : Option R2 :=
if s1 ≤ s0 then (
chk9 (0 < l0) <|
chk9 (0 < m l0 4) <|
chk9 (0 < l3) <|
st9 (upd9 m l3 8 (m (m l0 4) 2)) fun m5 =>
chk9 (0 < m5 l0 4) <|
cal (X4_waitingPlace (m5 l0 4) m5) fun v7 m8 =>
st9 (upd9 m8 l3 9 v7) fun m10 =>
X11_putDown_83 l0 l1 l2 l3 l4 m10)
else
chk9 (0 < l4) <|
cal (X1_failTooLong l4 m) fun _ m13 =>
X11_putDown_83 l0 l1 l2 l3 l4 m13
def X11_putDown_0 (l0 l1 l2 : Int) (m : Mem) : Option R2 :=
chk9 (0 < l1) <|
chk9 (0 < l0) <|
chk9 (0 < m l0 4) <|
chk9 (0 < m l1 6) <|
chk9 (0 < m (m l1 6) 0) <|
chk9 (iR (m (m (m l1 6) 0) 3 + 1)) <|
chk9 (0 < m (m l0 4) 0) <|
chk9 (iR ((m (m (m l1 6) 0) 3 + 1) + m (m (m l0 4) 0) 3)) <|
cal (X4_isOver (m l0 4) m) fun v9 m10 =>
if v9 = 0 then (
X11_putDown_50 l0 l1 l2 (m l1 6) (m (m l0 4) 0) 77 ((m (m (m l1 6) 0) 3 + 1) + m (m (m l0 4) 0) 3) m10)
else
X11_putDown_50 l0 l1 l2 (m l1 6) (m (m l0 4) 0) 80 ((m (m (m l1 6) 0) 3 + 1) + m (m (m l0 4) 0) 3) m10
def X11_putDown (a0 a1 a2 : Int) (m : Mem) : Option R2 := X11_putDown_0 a0 a1 a2 m
def X11_letGo_61 (kr : Int → Int → Int → Mem → Option R2) : Nat → Int → Int → Int → Int → Mem → Option R2
  | 0, _, _, _, _, _ => none
  | n + 1, l0, l1, l2, l4, m => (
chk9 (0 < l0) <|
if m l0 5 ≤ l4 then (
some (0, m))
else
chk9 (0 < m l0 1 ∧ 0 ≤ l4 ∧ l4 < 10) <|
chk9 (0 < m (m l0 1) l4) <|
chk9 (0 < l1) <|
if m (m (m l0 1) l4) 7 = m l1 0 then (
if m (m (m l0 1) l4) 8 = m l1 5 then (
chk9 (0 < m (m (m l0 1) l4) 6) <|
if m (m (m (m l0 1) l4) 6) 7 = 20 then (
cal (X11_leaveChild kr l0 (m (m l0 1) l4) l2 m) fun _ m16 =>
chk9 (iR (l4 + 1)) <|
X11_letGo_61 kr n l0 l1 l2 (l4 + 1) m16)
else
chk9 (iR (l4 + 1)) <|
X11_letGo_61 kr n l0 l1 l2 (l4 + 1) m)
else
chk9 (iR (l4 + 1)) <|
X11_letGo_61 kr n l0 l1 l2 (l4 + 1) m)
else
chk9 (iR (l4 + 1)) <|
X11_letGo_61 kr n l0 l1 l2 (l4 + 1) m)
def X11_letGo_37 (kr : Int → Int → Int → Mem → Option R2) (k61 : Int → Int → Int → Int → Mem → Option R2) : Nat → Int → Int → Int → Int → Int → Mem → Option R2
  | 0, _, _, _, _, _, _ => none
  | n + 1, l0, l1, l2, l3, l4, m => (
chk9 (0 < l3) <|
if m l3 4 ≤ l4 then (
k61 l0 l1 l2 0 m)
else
cal (X7_dropTimer l3 l4 m) fun _ m4 =>
chk9 (iR (l4 + 1)) <|
X11_letGo_37 kr k61 n l0 l1 l2 l3 (l4 + 1) m4)
def X11_letGo_8 (kr : Int → Int → Int → Mem → Option R2) (k37 : Int → Int → Int → Int → Int → Mem → Option R2) : Nat → Int → Int → Int → Int → Int → Mem → Option R2
  | 0, _, _, _, _, _, _ => none
  | n + 1, l0, l1, l2, l3, l4, m => (
chk9 (0 < l3) <|
if m l3 3 ≤ l4 then (
k37 l0 l1 l2 l3 0 m)
else
chk9 (0 < m l3 1 ∧ 0 ≤ l4 ∧ l4 < 80) <|
chk9 (0 < l0) <|
cal (X11_takeOff l0 (m (m l3 1) l4) m) fun _ m8 =>
chk9 (iR (l4 + 1)) <|
X11_letGo_8 kr k37 n l0 l1 l2 l3 (l4 + 1) m8)
def X11_letGo_0 (kr : Int → Int → Int → Mem → Option R2) (l0 l1 l2 : Int) (m : Mem) : Option R2 :=
chk9 (0 < l1) <|
X11_letGo_8 kr (X11_letGo_37 kr (X11_letGo_61 kr fuel9) fuel9) fuel9 l0 l1 l2 (m l1 6) 0 m
def X11_letGo : Nat → Int → Int → Int → Mem → Option R2
  | 0, _, _, _, _ => none
  | n + 1, a0, a1, a2, m => X11_letGo_0 (X11_letGo n) a0 a1 a2 m
def X11_beginAgain_94 (l1 l3 : Int) (m : Mem) : Option R2 :=
chk9 (0 < l3) <|
if m l3 10 = 0 then (
some (0, m))
else
chk9 (0 < l1) <|
chk9 (0 < m l1 6) <|
cal (X7_askCancel (m l1 6) m) fun v5 m6 =>
some (0, m6)
def X11_beginAgain_13 (k94 : Int → Int → Mem → Option R2) : Nat → Int → Int → Int → Int → Mem → Option R2
  | 0, _, _, _, _, _ => none
  | n + 1, l0, l1, l3, l4, m => (
chk9 (0 < l3) <|
chk9 (0 < m l3 0) <|
if m (m l3 0) 3 ≤ l4 then (
k94 l1 l3 m)
else
if 80 ≤ l4 then (
k94 l1 l3 m)
else
chk9 (0 < m (m l3 0) 0 ∧ 0 ≤ l4 ∧ l4 < 80) <|
if m (m (m l3 0) 0) l4 = 4 then (
chk9 (0 < l0) <|
chk9 (0 < m l0 4) <|
chk9 (0 < m (m l0 4) 1 ∧ 0 ≤ l4 ∧ l4 < 80) <|
if m (m (m l0 4) 1) l4 = 0 then (
chk9 (0 < l1) <|
chk9 (0 < m (m l3 0) 1 ∧ 0 ≤ l4 ∧ l4 < 80) <|
chk9 (0 < m (m l3 0) 2 ∧ 0 ≤ l4 ∧ l4 < 80) <|
chk9 (0 < m l1 6) <|
cal (X7_happen (m l1 6) 4 (m (m (m l3 0) 1) l4) (m (m (m l3 0) 2) l4) m) fun v25 m26 =>
chk9 (iR (l4 + 1)) <|
X11_beginAgain_13 k94 n l0 l1 l3 (l4 + 1) m26)
else
chk9 (iR (l4 + 1)) <|
X11_beginAgain_13 k94 n l0 l1 l3 (l4 + 1) m)
else
chk9 (iR (l4 + 1)) <|
X11_beginAgain_13 k94 n l0 l1 l3 (l4 + 1) m)
def X11_beginAgain_0 (l0 l1 l2 : Int) (m : Mem) : Option R2 :=
chk9 (0 < l1) <|
cal (X10_beginRun l1 l2 m) fun _ m3 =>
X11_beginAgain_13 (X11_beginAgain_94) fuel9 l0 l1 (m l1 6) 0 m3
def X11_beginAgain (a0 a1 a2 : Int) (m : Mem) : Option R2 := X11_beginAgain_0 a0 a1 a2 m
def X11_closeIfOver_151 (s0 s1 s2 s3 : Int) (m : Mem) : Option R2 :=
chk9 (0 < s3) <|
cal (X7_happen s3 s2 s1 s0 m) fun v2 m3 =>
some (0, m3)
def X11_closeIfOver_0 (l0 l1 : Int) (m : Mem) : Option R2 :=
chk9 (0 < l1) <|
chk9 (0 < m l1 6) <|
chk9 (0 < m (m l1 6) 0) <|
chk9 (iR (m (m (m l1 6) 0) 3 - 1)) <|
cal (X11_isWithin (m (m (m l1 6) 0) 3 - 1) 0 79 m) fun v5 m6 =>
if v5 = 0 then (
some (0, m6))
else
chk9 (0 < m6 (m (m l1 6) 0) 0 ∧ 0 ≤ (m (m (m l1 6) 0) 3 - 1) ∧ (m (m (m l1 6) 0) 3 - 1) < 80) <|
if m6 (m6 (m (m l1 6) 0) 0) (m (m (m l1 6) 0) 3 - 1) = 16 then (
chk9 (0 < m6 (m (m l1 6) 0) 1 ∧ 0 ≤ (m (m (m l1 6) 0) 3 - 1) ∧ (m (m (m l1 6) 0) 3 - 1) < 80) <|
chk9 (0 < m6 (m (m l1 6) 0) 2 ∧ 0 ≤ (m (m (m l1 6) 0) 3 - 1) ∧ (m (m (m l1 6) 0) 3 - 1) < 80) <|
chk9 (0 < m6 l1 6) <|
cal (X7_stop (m6 l1 6) (m6 (m6 (m (m l1 6) 0) 1) (m (m (m l1 6) 0) 3 - 1)) m6) fun _ m21 =>
chk9 (0 < l0) <|
cal (X11_letGo 20 l0 l1 0 m21) fun _ m25 =>
if m6 (m6 (m (m l1 6) 0) 1) (m (m (m l1 6) 0) 3 - 1) = 14 then (
cal (X11_beginAgain l0 l1 (m6 (m6 (m (m l1 6) 0) 2) (m (m (m l1 6) 0) 3 - 1)) m25) fun _ m42 =>
some (0, m42))
else
chk9 (iR (m25 l0 5 - 1)) <|
cal (X11_isWithin (m25 l1 7) 0 (m25 l0 5 - 1) m25) fun v29 m30 =>
if v29 = 0 then (
some (0, m30))
else
chk9 (0 < m30 l0 1 ∧ 0 ≤ m30 l1 7 ∧ m30 l1 7 < 10) <|
chk9 (0 < m30 (m30 l0 1) (m30 l1 7)) <|
if m30 (m30 (m30 l0 1) (m30 l1 7)) 5 = m30 l1 8 then (
chk9 (0 ≤ m30 l1 7 ∧ m30 l1 7 < 10) <|
if m6 (m6 (m (m l1 6) 0) 1) (m (m (m l1 6) 0) 3 - 1) = 21 then (
X11_closeIfOver_151 (m6 (m6 (m (m l1 6) 0) 2) (m (m (m l1 6) 0) 3 - 1)) (m30 l1 9) 5 (m30 (m30 (m30 l0 1) (m30 l1 7)) 6) m30)
else
X11_closeIfOver_151 (-1) (m30 l1 9) 5 (m30 (m30 (m30 l0 1) (m30 l1 7)) 6) m30)
else
some (0, m30))
else
some (0, m6)
def X11_closeIfOver (a0 a1 : Int) (m : Mem) : Option R2 := X11_closeIfOver_0 a0 a1 m
def X11_decide_0 (l0 l1 l2 : Int) (m : Mem) : Option R3 :=
chk9 (0 < l0) <|
calX (X11_flowOf l0 l1 m) fun v2 m3 =>
calX (X11_programOf l0 v2 l2 m3) fun v5 m6 =>
chk9 (0 < v2) <|
chk9 (0 < m6 v2 6) <|
if m6 (m6 v2 6) 7 = 20 then (
cal (X7_hasNews (m6 v2 6) m6) fun v11 m12 =>
if v11 = 0 then (
some (0, (-1), m12))
else
chk9 (0 < m12 l0 4) <|
cal (X4_play (m12 l0 4) v5 (m12 (m6 v2 6) 0) (m12 v2 5) 1 m12) fun v16 m17 =>
if v16 = 0 then (
some (0, (-2), m17))
else
cal (X11_putDown l0 v2 l2 m17) fun _ m21 =>
cal (X11_closeIfOver l0 v2 m21) fun _ m24 =>
cal (X7_tellUnmade (m6 v2 6) m24) fun _ m27 =>
chk9 (0 < m27 l0 4) <|
chk9 (0 < m27 (m27 l0 4) 0) <|
some (0, m27 (m27 (m27 l0 4) 0) 3, m27))
else
some (3, 0, thr9 m6)
def X11_decide (a0 a1 a2 : Int) (m : Mem) : Option R3 := X11_decide_0 a0 a1 a2 m
def X11_checkQueue_0 (l0 : Int) (m : Mem) : Option R3 :=
cal (X11_isWithin l0 0 1 m) fun v1 m2 =>
if v1 = 0 then (
some (1, 0, thr9 m2))
else
some (0, 0, m2)
def X11_checkQueue (a0 : Int) (m : Mem) : Option R3 := X11_checkQueue_0 a0 m
def X11_lineOf_0 (l0 l1 : Int) (m : Mem) : Option R3 :=
calX (X11_checkQueue l1 m) fun _ m2 =>
chk9 (0 < l0) <|
chk9 (0 < m2 l0 2 ∧ 0 ≤ l1 ∧ l1 < 2) <|
some (0, m2 (m2 l0 2) l1, m2)
def X11_lineOf (a0 a1 : Int) (m : Mem) : Option R3 := X11_lineOf_0 a0 a1 m
def X11_setRate_0 (l0 l1 l2 : Int) (m : Mem) : Option R3 :=
chk9 (0 < l0) <|
calX (X11_lineOf l0 l1 m) fun v2 m3 =>
cal (X11_isWithin l2 1 9 m3) fun v5 m6 =>
if v5 = 0 then (
some (2, 0, thr9 m6))
else
chk9 (0 < v2) <|
st9 (upd9 m6 v2 1 l2) fun m10 =>
some (0, m6 v2 1, m10)
def X11_setRate (a0 a1 a2 : Int) (m : Mem) : Option R3 := X11_setRate_0 a0 a1 a2 m
def X11_handOf_0 (l0 l1 : Int) (m : Mem) : Option R3 :=
cal (X11_isWithin l1 0 3 m) fun v1 m2 =>
if v1 = 0 then (
some (1, 0, thr9 m2))
else
chk9 (0 < l0) <|
chk9 (0 < m2 l0 3 ∧ 0 ≤ l1 ∧ l1 < 4) <|
some (0, m2 (m2 l0 3) l1, m2)
def X11_handOf (a0 a1 : Int) (m : Mem) : Option R3 := X11_handOf_0 a0 a1 m
def X11_nextOn_29 (k5 : Int → Int → Int → Int → Int → Mem → Option R2) : Nat → Int → Int → Int → Int → Int → Int → Int → Mem → Option R2
  | 0, _, _, _, _, _, _, _, _ => none
  | n + 1, l0, l1, l2, l3, l4, l5, l6, m => (
chk9 (0 < l5) <|
if m l5 3 ≤ l6 then (
chk9 (iR (l4 + 1)) <|
k5 l0 l1 l2 l3 (l4 + 1) m)
else
chk9 (0 < m l5 1 ∧ 0 ≤ l6 ∧ l6 < 80) <|
chk9 (0 < m (m l5 1) l6) <|
cal (X0_isReadyOn (m (m l5 1) l6) l2 m) fun v8 m9 =>
if v8 = 0 then (
chk9 (iR (l6 + 1)) <|
X11_nextOn_29 k5 n l0 l1 l2 l3 l4 l5 (l6 + 1) m9)
else
if l3 = 0 then (
chk9 (iR (l6 + 1)) <|
X11_nextOn_29 k5 n l0 l1 l2 (m (m l5 1) l6) l4 l5 (l6 + 1) m9)
else
chk9 (0 < l1) <|
cal (X6_prefers l1 (m (m l5 1) l6) l3 m9) fun v16 m17 =>
if v16 = 0 then (
chk9 (iR (l6 + 1)) <|
X11_nextOn_29 k5 n l0 l1 l2 l3 l4 l5 (l6 + 1) m17)
else
chk9 (iR (l6 + 1)) <|
X11_nextOn_29 k5 n l0 l1 l2 (m (m l5 1) l6) l4 l5 (l6 + 1) m17)
def X11_nextOn_5 : Nat → Int → Int → Int → Int → Int → Mem → Option R2
  | 0, _, _, _, _, _, _ => none
  | n + 1, l0, l1, l2, l3, l4, m => (
chk9 (0 < l0) <|
if m l0 5 ≤ l4 then (
some (l3, m))
else
chk9 (0 < m l0 1 ∧ 0 ≤ l4 ∧ l4 < 10) <|
chk9 (0 < m (m l0 1) l4) <|
X11_nextOn_29 (X11_nextOn_5 n) fuel9 l0 l1 l2 l3 l4 (m (m (m l0 1) l4) 6) 0 m)
def X11_nextOn_0 (l0 l1 l2 : Int) (m : Mem) : Option R2 :=
X11_nextOn_5 fuel9 l0 l1 l2 0 0 m
def X11_nextOn (a0 a1 a2 : Int) (m : Mem) : Option R2 := X11_nextOn_0 a0 a1 a2 m
def X11_take_0 (l0 l1 l2 : Int) (m : Mem) : Option R3 :=
chk9 (0 < l0) <|
calX (X11_handOf l0 l1 m) fun v2 m3 =>
calX (X11_lineOf l0 l2 m3) fun v5 m6 =>
chk9 (0 < v2) <|
if m6 v2 0 = 0 then (
some (3, 0, thr9 m6))
else
if m6 v2 1 = 0 then (
chk9 (0 < v5) <|
if m6 v5 2 < m6 v5 1 then (
cal (X11_nextOn l0 v5 l2 m6) fun v13 m14 =>
if v13 = 0 then (
some (0, (-1), m14))
else
chk9 (0 < v13) <|
cal (X6_countTaken v5 (m14 v13 3) m14) fun _ m19 =>
chk9 (iR (m19 l0 7 + 10)) <|
cal (X0_lease v13 (m19 l0 7 + 10) m19) fun _ m23 =>
st9 (upd9 m23 v2 1 v13) fun m25 =>
some (0, m25 v13 5, m25))
else
some (0, (-1), m6))
else
some (3, 0, thr9 m6)
def X11_take (a0 a1 a2 : Int) (m : Mem) : Option R3 := X11_take_0 a0 a1 a2 m
def X11_has_0 (l0 l1 : Int) (m : Mem) : Option R3 :=
chk9 (0 < l0) <|
calX (X11_handOf l0 l1 m) fun v2 m3 =>
chk9 (0 < v2) <|
if m3 v2 1 = 0 then (
some (0, (-1), m3))
else
chk9 (0 < m3 v2 1) <|
some (0, m3 (m3 v2 1) 5, m3)
def X11_has (a0 a1 : Int) (m : Mem) : Option R3 := X11_has_0 a0 a1 m
def X11_activityOf_0 (l0 : Int) (m : Mem) : Option R3 :=
chk9 (0 < l0) <|
if m l0 1 = 0 then (
some (3, 0, thr9 m))
else
some (0, m l0 1, m)
def X11_activityOf (a0 : Int) (m : Mem) : Option R3 := X11_activityOf_0 a0 m
def X11_beat_0 (l0 l1 : Int) (m : Mem) : Option R3 :=
chk9 (0 < l0) <|
calX (X11_handOf l0 l1 m) fun v2 m3 =>
calX (X11_activityOf v2 m3) fun v5 m6 =>
chk9 (iR (m6 l0 7 + 10)) <|
chk9 (0 < v5) <|
st9 (upd9 m6 v5 8 (m6 l0 7 + 10)) fun m10 =>
some (0, m10 v5 8, m10)
def X11_beat (a0 a1 : Int) (m : Mem) : Option R3 := X11_beat_0 a0 a1 m
def X11_end_0 (l0 l1 l2 : Int) (m : Mem) : Option R3 :=
chk9 (0 < l0) <|
calX (X11_handOf l0 l1 m) fun v2 m3 =>
cal (X11_isWithin l2 (-99) 99 m3) fun v5 m6 =>
if v5 = 0 then (
some (2, 0, thr9 m6))
else
calX (X11_activityOf v2 m6) fun v9 m10 =>
cal (X11_takeOff l0 v9 m10) fun _ m13 =>
chk9 (0 < v9) <|
chk9 (0 < m13 v9 0) <|
cal (X7_happen (m13 v9 0) 1 (m13 v9 1) l2 m13) fun v17 m18 =>
some (0, v17, m18)
def X11_end (a0 a1 a2 : Int) (m : Mem) : Option R3 := boolX (X11_end_0 a0 a1 a2 m)
def X11_loseTry_0 (l0 l1 : Int) (m : Mem) : Option R2 :=
chk9 (0 < l1) <|
if m l1 9 < 3 then (
chk9 (0 < l0) <|
cal (X11_freeHandsOf l0 l1 m) fun _ m5 =>
st9 (upd9 m5 l1 6 2) fun m7 =>
chk9 (iR (2 * m7 l1 9)) <|
chk9 (iR (m7 l0 7 + (2 * m7 l1 9))) <|
st9 (upd9 m7 l1 8 (m7 l0 7 + (2 * m7 l1 9))) fun m10 =>
some (0, m10))
else
chk9 (0 < l0) <|
cal (X11_takeOff l0 l1 m) fun _ m13 =>
chk9 (0 < m13 l1 0) <|
cal (X7_happen (m13 l1 0) 2 (m13 l1 1) 0 m13) fun v16 m17 =>
some (0, m17)
def X11_loseTry (a0 a1 : Int) (m : Mem) : Option R2 := X11_loseTry_0 a0 a1 m
def X11_fail_0 (l0 l1 : Int) (m : Mem) : Option R3 :=
chk9 (0 < l0) <|
calX (X11_handOf l0 l1 m) fun v2 m3 =>
calX (X11_activityOf v2 m3) fun v5 m6 =>
cal (X11_loseTry l0 v5 m6) fun _ m9 =>
chk9 (0 < v5) <|
some (0, m9 v5 9, m9)
def X11_fail (a0 a1 : Int) (m : Mem) : Option R3 := X11_fail_0 a0 a1 m
def X11_run_18 (l2 l3 s0 : Int) (m : Mem) : Option R3 :=
chk9 (0 < l3 ∧ (l2 = 0 ∨ l2 = 1)) <|
st9 (upd9 m l3 0 l2) fun m3 =>
if l2 = 0 then (
st9 (upd9 m3 l3 1 0) fun m5 =>
some (0, s0, m5))
else
some (0, s0, m3)
def X11_run_0 (l0 l1 l2 : Int) (m : Mem) : Option R3 :=
chk9 (0 < l0) <|
calX (X11_handOf l0 l1 m) fun v2 m3 =>
chk9 (0 < v2) <|
if m3 v2 1 = 0 then (
X11_run_18 l2 v2 0 m3)
else
X11_run_18 l2 v2 1 m3
def X11_run (a0 a1 a2 : Int) (m : Mem) : Option R3 := boolX (X11_run_0 a0 a1 a2 m)
def X11_ready_8 : Nat → Int → Int → Int → Int → Mem → Option R3
  | 0, _, _, _, _, _ => none
  | n + 1, l0, l1, l2, l3, m => (
chk9 (0 < l0) <|
if m l0 5 ≤ l3 then (
some (0, l2, m))
else
chk9 (0 < m l0 1 ∧ 0 ≤ l3 ∧ l3 < 10) <|
chk9 (0 < m (m l0 1) l3) <|
chk9 (0 < m (m (m l0 1) l3) 6) <|
cal (X7_countReady (m (m (m l0 1) l3) 6) l1 m) fun v8 m9 =>
chk9 (iR (l2 + v8)) <|
chk9 (iR (l3 + 1)) <|
X11_ready_8 n l0 l1 (l2 + v8) (l3 + 1) m9)
def X11_ready_0 (l0 l1 : Int) (m : Mem) : Option R3 :=
calX (X11_checkQueue l1 m) fun _ m2 =>
X11_ready_8 fuel9 l0 l1 0 0 m2
def X11_ready (a0 a1 : Int) (m : Mem) : Option R3 := X11_ready_0 a0 a1 m
def X11_taken_0 (l0 l1 l2 : Int) (m : Mem) : Option R3 :=
chk9 (0 < l0) <|
calX (X11_lineOf l0 l1 m) fun v2 m3 =>
cal (X11_isWithin l2 0 2 m3) fun v5 m6 =>
if v5 = 0 then (
some (1, 0, thr9 m6))
else
chk9 (0 < v2) <|
chk9 (0 < m6 v2 0 ∧ 0 ≤ l2 ∧ l2 < 3) <|
some (0, m6 (m6 v2 0) l2, m6)
def X11_taken (a0 a1 a2 : Int) (m : Mem) : Option R3 := X11_taken_0 a0 a1 a2 m
def X11_endLeases_2 : Nat → Int → Int → Int → Mem → Option R2
  | 0, _, _, _, _ => none
  | n + 1, l0, l1, l2, m => (
chk9 (0 < l1) <|
if m l1 3 ≤ l2 then (
some (0, m))
else
chk9 (0 < m l1 1 ∧ 0 ≤ l2 ∧ l2 < 80) <|
chk9 (0 < m (m l1 1) l2) <|
if m (m (m l1 1) l2) 6 = 1 then (
chk9 (0 < l0) <|
if m l0 7 < m (m (m l1 1) l2) 8 then (
chk9 (iR (l2 + 1)) <|
X11_endLeases_2 n l0 l1 (l2 + 1) m)
else
cal (X11_loseTry l0 (m (m l1 1) l2) m) fun _ m13 =>
chk9 (iR (l2 + 1)) <|
X11_endLeases_2 n l0 l1 (l2 + 1) m13)
else
chk9 (iR (l2 + 1)) <|
X11_endLeases_2 n l0 l1 (l2 + 1) m)
def X11_endLeases_0 (l0 l1 : Int) (m : Mem) : Option R2 :=
X11_endLeases_2 fuel9 l0 l1 0 m
def X11_endLeases (a0 a1 : Int) (m : Mem) : Option R2 := X11_endLeases_0 a0 a1 m
def X11_passTick_96 : Nat → Int → Int → Mem → Option R2
  | 0, _, _, _ => none
  | n + 1, l0, l1, m => (
chk9 (0 < l0) <|
if m l0 5 ≤ l1 then (
some (0, m))
else
chk9 (0 < m l0 1 ∧ 0 ≤ l1 ∧ l1 < 10) <|
chk9 (0 < m (m l0 1) l1) <|
chk9 (0 < m (m (m l0 1) l1) 6) <|
cal (X7_wakeActivities (m (m (m l0 1) l1) 6) (m l0 7) m) fun _ m9 =>
chk9 (iR (l1 + 1)) <|
X11_passTick_96 n l0 (l1 + 1) m9)
def X11_passTick_67 (k96 : Int → Int → Mem → Option R2) : Nat → Int → Int → Mem → Option R2
  | 0, _, _, _ => none
  | n + 1, l0, l1, m => (
chk9 (0 < l0) <|
if m l0 5 ≤ l1 then (
k96 l0 0 m)
else
chk9 (0 < m l0 1 ∧ 0 ≤ l1 ∧ l1 < 10) <|
chk9 (0 < m (m l0 1) l1) <|
cal (X11_endLeases l0 (m (m (m l0 1) l1) 6) m) fun _ m8 =>
chk9 (iR (l1 + 1)) <|
X11_passTick_67 k96 n l0 (l1 + 1) m8)
def X11_passTick_35 (k67 : Int → Int → Mem → Option R2) : Nat → Int → Int → Mem → Option R2
  | 0, _, _, _ => none
  | n + 1, l0, l1, m => (
chk9 (0 < l0) <|
if m l0 5 ≤ l1 then (
k67 l0 0 m)
else
chk9 (0 < m l0 1 ∧ 0 ≤ l1 ∧ l1 < 10) <|
chk9 (0 < m (m l0 1) l1) <|
chk9 (0 < m (m (m l0 1) l1) 6) <|
cal (X7_fireTimers (m (m (m l0 1) l1) 6) (m l0 7) m) fun _ m9 =>
chk9 (iR (l1 + 1)) <|
X11_passTick_35 k67 n l0 (l1 + 1) m9)
def X11_passTick_12 (k35 : Int → Int → Mem → Option R2) : Nat → Int → Int → Mem → Option R2
  | 0, _, _, _ => none
  | n + 1, l0, l1, m => (
if 2 ≤ l1 then (
k35 l0 0 m)
else
chk9 (0 < l0) <|
chk9 (0 < m l0 2 ∧ 0 ≤ l1 ∧ l1 < 2) <|
chk9 (0 < m (m l0 2) l1) <|
st9 (upd9 m (m (m l0 2) l1) 2 0) fun m7 =>
chk9 (iR (l1 + 1)) <|
X11_passTick_12 k35 n l0 (l1 + 1) m7)
def X11_passTick_0 (l0 : Int) (m : Mem) : Option R2 :=
chk9 (0 < l0) <|
chk9 (iR (m l0 7 + 1)) <|
st9 (upd9 m l0 7 (m l0 7 + 1)) fun m3 =>
X11_passTick_12 (X11_passTick_35 (X11_passTick_67 (X11_passTick_96 fuel9) fuel9) fuel9) fuel9 l0 0 m3
def X11_passTick (a0 : Int) (m : Mem) : Option R2 := X11_passTick_0 a0 m
def X11_tick_23 : Nat → Int → Int → Int → Mem → Option R3
  | 0, _, _, _, _ => none
  | n + 1, l0, l1, l2, m => (
if l1 ≤ l2 then (
chk9 (0 < l0) <|
some (0, m l0 7, m))
else
chk9 (0 < l0) <|
cal (X11_passTick l0 m) fun _ m5 =>
chk9 (iR (l2 + 1)) <|
X11_tick_23 n l0 l1 (l2 + 1) m5)
def X11_tick_0 (l0 l1 : Int) (m : Mem) : Option R3 :=
cal (X11_isWithin l1 1 50 m) fun v1 m2 =>
if v1 = 0 then (
some (2, 0, thr9 m2))
else
X11_tick_23 fuel9 l0 l1 0 m2
def X11_tick (a0 a1 : Int) (m : Mem) : Option R3 := X11_tick_0 a0 a1 m
def X11_clock_0 (l0 : Int) (m : Mem) : Option R2 :=
chk9 (0 < l0) <|
some (m l0 7, m)
def X11_clock (a0 : Int) (m : Mem) : Option R2 := X11_clock_0 a0 m
def X11_workflows_0 (l0 : Int) (m : Mem) : Option R2 :=
chk9 (0 < l0) <|
some (m l0 5, m)
def X11_workflows (a0 : Int) (m : Mem) : Option R2 := X11_workflows_0 a0 m
def X11_parent_0 (l0 l1 : Int) (m : Mem) : Option R3 :=
chk9 (0 < l0) <|
calX (X11_flowOf l0 l1 m) fun v2 m3 =>
chk9 (0 < v2) <|
some (0, m3 v2 7, m3)
def X11_parent (a0 a1 : Int) (m : Mem) : Option R3 := X11_parent_0 a0 a1 m
def X11_runs_0 (l0 l1 : Int) (m : Mem) : Option R3 :=
chk9 (0 < l0) <|
calX (X11_flowOf l0 l1 m) fun v2 m3 =>
chk9 (0 < v2) <|
some (0, m3 v2 5, m3)
def X11_runs (a0 a1 : Int) (m : Mem) : Option R3 := X11_runs_0 a0 a1 m
def X11_runOf_0 (l0 l1 l2 : Int) (m : Mem) : Option R3 :=
chk9 (0 < l0) <|
calX (X11_flowOf l0 l1 m) fun v2 m3 =>
chk9 (0 < v2) <|
cal (X11_isWithin l2 1 (m3 v2 5) m3) fun v6 m7 =>
if v6 = 0 then (
some (1, 0, thr9 m7))
else
chk9 (iR (l2 - 1)) <|
chk9 (0 < m7 v2 4 ∧ 0 ≤ (l2 - 1) ∧ (l2 - 1) < 9) <|
some (0, m7 (m7 v2 4) (l2 - 1), m7)
def X11_runOf (a0 a1 a2 : Int) (m : Mem) : Option R3 := X11_runOf_0 a0 a1 a2 m
def X11_state_0 (l0 l1 l2 : Int) (m : Mem) : Option R3 :=
chk9 (0 < l0) <|
calX (X11_runOf l0 l1 l2 m) fun v2 m3 =>
chk9 (0 < v2) <|
some (0, m3 v2 7, m3)
def X11_state (a0 a1 a2 : Int) (m : Mem) : Option R3 := X11_state_0 a0 a1 a2 m
def X11_events_0 (l0 l1 l2 : Int) (m : Mem) : Option R3 :=
chk9 (0 < l0) <|
calX (X11_runOf l0 l1 l2 m) fun v2 m3 =>
chk9 (0 < v2) <|
chk9 (0 < m3 v2 0) <|
some (0, m3 (m3 v2 0) 3, m3)
def X11_events (a0 a1 a2 : Int) (m : Mem) : Option R3 := X11_events_0 a0 a1 a2 m
def X11_historyWith_0 (l0 l1 l2 l3 : Int) (m : Mem) : Option R3 :=
chk9 (0 < l0) <|
calX (X11_runOf l0 l1 l2 m) fun v2 m3 =>
chk9 (0 < v2) <|
chk9 (0 < m3 v2 0) <|
chk9 (iR (m3 (m3 v2 0) 3 - 1)) <|
cal (X11_isWithin l3 0 (m3 (m3 v2 0) 3 - 1) m3) fun v8 m9 =>
if v8 = 0 then (
some (1, 0, thr9 m9))
else
some (0, m3 v2 0, m9)
def X11_historyWith (a0 a1 a2 a3 : Int) (m : Mem) : Option R3 := X11_historyWith_0 a0 a1 a2 a3 m
def X11_eventKind_0 (l0 l1 l2 l3 : Int) (m : Mem) : Option R3 :=
chk9 (0 < l0) <|
calX (X11_historyWith l0 l1 l2 l3 m) fun v2 m3 =>
chk9 (0 < v2) <|
chk9 (0 < m3 v2 0 ∧ 0 ≤ l3 ∧ l3 < 80) <|
some (0, m3 (m3 v2 0) l3, m3)
def X11_eventKind (a0 a1 a2 a3 : Int) (m : Mem) : Option R3 := X11_eventKind_0 a0 a1 a2 a3 m
def X11_eventNumber_0 (l0 l1 l2 l3 l4 : Int) (m : Mem) : Option R3 :=
chk9 (0 < l0) <|
calX (X11_historyWith l0 l1 l2 l3 m) fun v2 m3 =>
if l4 = 0 then (
chk9 (0 < v2) <|
chk9 (0 < m3 v2 2 ∧ 0 ≤ l3 ∧ l3 < 80) <|
some (0, m3 (m3 v2 2) l3, m3))
else
chk9 (0 < v2) <|
chk9 (0 < m3 v2 1 ∧ 0 ≤ l3 ∧ l3 < 80) <|
some (0, m3 (m3 v2 1) l3, m3)
def X11_eventNumber (a0 a1 a2 a3 a4 : Int) (m : Mem) : Option R3 := X11_eventNumber_0 a0 a1 a2 a3 a4 m
def X11_checkProperty_0 (l0 : Int) (m : Mem) : Option R3 :=
cal (X11_isWithin l0 0 1 m) fun v1 m2 =>
if v1 = 0 then (
some (2, 0, thr9 m2))
else
some (0, 0, m2)
def X11_checkProperty (a0 : Int) (m : Mem) : Option R3 := X11_checkProperty_0 a0 m
def X11_property_0 (l0 l1 l2 : Int) (m : Mem) : Option R3 :=
chk9 (0 < l0) <|
calX (X11_flowOf l0 l1 m) fun v2 m3 =>
calX (X11_checkProperty l2 m3) fun _ m6 =>
chk9 (0 < v2) <|
chk9 (0 < m6 v2 3 ∧ 0 ≤ l2 ∧ l2 < 2) <|
some (0, m6 (m6 v2 3) l2, m6)
def X11_property (a0 a1 a2 : Int) (m : Mem) : Option R3 := X11_property_0 a0 a1 a2 m
def X11_found_26 : Nat → Int → Int → Int → Int → Int → Int → Mem → Option R3
  | 0, _, _, _, _, _, _, _ => none
  | n + 1, l0, l1, l2, l3, l4, l5, m => (
chk9 (0 < l0) <|
if m l0 5 ≤ l5 then (
some (0, l4, m))
else
chk9 (0 < m l0 1 ∧ 0 ≤ l5 ∧ l5 < 10) <|
chk9 (0 < m (m l0 1) l5) <|
chk9 (0 < m (m (m l0 1) l5) 6) <|
if m (m (m (m l0 1) l5) 6) 7 = 20 then (
chk9 (0 ≤ l5 ∧ l5 < 10) <|
chk9 (0 < m (m (m l0 1) l5) 3 ∧ 0 ≤ l1 ∧ l1 < 2) <|
cal (X11_isWithin (m (m (m (m l0 1) l5) 3) l1) l2 l3 m) fun v15 m16 =>
if v15 = 0 then (
chk9 (iR (l5 + 1)) <|
X11_found_26 n l0 l1 l2 l3 l4 (l5 + 1) m16)
else
chk9 (iR (l4 + 1)) <|
chk9 (iR (l5 + 1)) <|
X11_found_26 n l0 l1 l2 l3 (l4 + 1) (l5 + 1) m16)
else
chk9 (iR (l5 + 1)) <|
X11_found_26 n l0 l1 l2 l3 l4 (l5 + 1) m)
def X11_found_0 (l0 l1 l2 l3 : Int) (m : Mem) : Option R3 :=
calX (X11_checkProperty l1 m) fun _ m2 =>
if l2 ≤ l3 then (
X11_found_26 fuel9 l0 l1 l2 l3 0 0 m2)
else
some (2, 0, thr9 m2)
def X11_found (a0 a1 a2 a3 : Int) (m : Mem) : Option R3 := X11_found_0 a0 a1 a2 a3 m
def X11_isDue_0 (l0 l1 : Int) (m : Mem) : Option R3 :=
chk9 (0 < l0) <|
calX (X11_flowOf l0 l1 m) fun v2 m3 =>
chk9 (0 < v2) <|
chk9 (0 < m3 v2 6) <|
if m3 (m3 v2 6) 7 = 20 then (
cal (X7_hasNews (m3 v2 6) m3) fun v8 m9 =>
if v8 = 0 then (
some (0, 0, m9))
else
some (0, 1, m9))
else
some (0, 0, m3)
def X11_isDue (a0 a1 : Int) (m : Mem) : Option R3 := boolX (X11_isDue_0 a0 a1 m)
def X11_register_0 (l0 l1 : Int) (m : Mem) : Option R3 :=
chk9 (0 < l0) <|
calX (X11_flowOf l0 l1 m) fun v2 m3 =>
chk9 (0 < v2) <|
chk9 (0 < m3 v2 6) <|
some (0, m3 (m3 v2 6) 8, m3)
def X11_register (a0 a1 : Int) (m : Mem) : Option R3 := X11_register_0 a0 a1 m
def X11_place_0 (l0 l1 : Int) (m : Mem) : Option R3 :=
chk9 (0 < l0) <|
calX (X11_flowOf l0 l1 m) fun v2 m3 =>
chk9 (0 < v2) <|
chk9 (0 < m3 v2 6) <|
some (0, m3 (m3 v2 6) 9, m3)
def X11_place (a0 a1 : Int) (m : Mem) : Option R3 := X11_place_0 a0 a1 m
def X11_registerAnew_0 (l0 l1 l2 : Int) (m : Mem) : Option R3 :=
chk9 (0 < l0) <|
calX (X11_flowOf l0 l1 m) fun v2 m3 =>
calX (X11_programOf l0 v2 l2 m3) fun v5 m6 =>
chk9 (0 < v2) <|
chk9 (0 < m6 v2 6) <|
chk9 (0 < m6 l0 4) <|
cal (X4_play (m6 l0 4) v5 (m6 (m6 v2 6) 0) (m6 v2 5) 0 m6) fun v11 m12 =>
if v11 = 0 then (
some (0, (-2000), m12))
else
chk9 (0 < m12 l0 4) <|
some (0, m12 (m12 l0 4) 2, m12)
def X11_registerAnew (a0 a1 a2 : Int) (m : Mem) : Option R3 := X11_registerAnew_0 a0 a1 a2 m
def X12_init_467 : Nat → Int → Int → Mem → Option R2
  | 0, _, _, _ => none
  | n + 1, l0, l1, m => (
if 4 ≤ l1 then (
some (0, m))
else
chk9 (0 < l0) <|
chk9 (0 < m l0 38 ∧ 0 ≤ l1 ∧ l1 < 4) <|
st9 (upd9 m (m l0 38) l1 1) fun m6 =>
chk9 (0 < m6 l0 39 ∧ 0 ≤ l1 ∧ l1 < 4) <|
st9 (upd9 m6 (m6 l0 39) l1 (-1)) fun m10 =>
chk9 (iR (l1 + 1)) <|
X12_init_467 n l0 (l1 + 1) m10)
def X12_init_446 (k467 : Int → Int → Mem → Option R2) : Nat → Int → Int → Mem → Option R2
  | 0, _, _, _ => none
  | n + 1, l0, l1, m => (
if 2 ≤ l1 then (
k467 l0 0 m)
else
chk9 (0 < l0) <|
chk9 (0 < m l0 35 ∧ 0 ≤ l1 ∧ l1 < 2) <|
st9 (upd9 m (m l0 35) l1 9) fun m6 =>
chk9 (iR (l1 + 1)) <|
X12_init_446 k467 n l0 (l1 + 1) m6)
def X12_init_0 (l0 : Int) (m : Mem) : Option R2 :=
chk9 (0 < l0) <|
vl9 (l0 + 2) fun i2 =>
chk9 (0 < i2 ∧ m (-1) i2 = 0) <|
st9 (alo9 m i2 100180 180) fun m5 =>
st9 (upd9 m5 l0 2 i2) fun m6 =>
vl9 (l0 + 3) fun i7 =>
chk9 (0 < i7 ∧ m6 (-1) i7 = 0) <|
st9 (alo9 m6 i7 100180 180) fun m10 =>
st9 (upd9 m10 l0 3 i7) fun m11 =>
vl9 (l0 + 4) fun i12 =>
chk9 (0 < i12 ∧ m11 (-1) i12 = 0) <|
st9 (alo9 m11 i12 100180 180) fun m15 =>
st9 (upd9 m15 l0 4 i12) fun m16 =>
vl9 (l0 + 5) fun i17 =>
chk9 (0 < i17 ∧ m16 (-1) i17 = 0) <|
st9 (alo9 m16 i17 100015 15) fun m20 =>
st9 (upd9 m20 l0 5 i17) fun m21 =>
vl9 (l0 + 6) fun i22 =>
chk9 (0 < i22 ∧ m21 (-1) i22 = 0) <|
st9 (alo9 m21 i22 100003 3) fun m25 =>
st9 (upd9 m25 l0 6 i22) fun m26 =>
vl9 (l0 + 7) fun i27 =>
chk9 (0 < i27 ∧ m26 (-1) i27 = 0) <|
st9 (alo9 m26 i27 100010 10) fun m30 =>
st9 (upd9 m30 l0 7 i27) fun m31 =>
vl9 (l0 + 8) fun i32 =>
chk9 (0 < i32 ∧ m31 (-1) i32 = 0) <|
st9 (alo9 m31 i32 100010 10) fun m35 =>
st9 (upd9 m35 l0 8 i32) fun m36 =>
vl9 (l0 + 9) fun i37 =>
chk9 (0 < i37 ∧ m36 (-1) i37 = 0) <|
st9 (alo9 m36 i37 100010 10) fun m40 =>
st9 (upd9 m40 l0 9 i37) fun m41 =>
vl9 (l0 + 10) fun i42 =>
chk9 (0 < i42 ∧ m41 (-1) i42 = 0) <|
st9 (alo9 m41 i42 100010 10) fun m45 =>
st9 (upd9 m45 l0 10 i42) fun m46 =>
vl9 (l0 + 11) fun i47 =>
chk9 (0 < i47 ∧ m46 (-1) i47 = 0) <|
st9 (alo9 m46 i47 100010 10) fun m50 =>
st9 (upd9 m50 l0 11 i47) fun m51 =>
vl9 (l0 + 12) fun i52 =>
chk9 (0 < i52 ∧ m51 (-1) i52 = 0) <|
st9 (alo9 m51 i52 100010 10) fun m55 =>
st9 (upd9 m55 l0 12 i52) fun m56 =>
vl9 (l0 + 13) fun i57 =>
chk9 (0 < i57 ∧ m56 (-1) i57 = 0) <|
st9 (alo9 m56 i57 100020 20) fun m60 =>
st9 (upd9 m60 l0 13 i57) fun m61 =>
vl9 (l0 + 14) fun i62 =>
chk9 (0 < i62 ∧ m61 (-1) i62 = 0) <|
st9 (alo9 m61 i62 100010 10) fun m65 =>
st9 (upd9 m65 l0 14 i62) fun m66 =>
vl9 (l0 + 15) fun i67 =>
chk9 (0 < i67 ∧ m66 (-1) i67 = 0) <|
st9 (alo9 m66 i67 100010 10) fun m70 =>
st9 (upd9 m70 l0 15 i67) fun m71 =>
vl9 (l0 + 17) fun i72 =>
chk9 (0 < i72 ∧ m71 (-1) i72 = 0) <|
st9 (alo9 m71 i72 100090 90) fun m75 =>
st9 (upd9 m75 l0 17 i72) fun m76 =>
vl9 (l0 + 18) fun i77 =>
chk9 (0 < i77 ∧ m76 (-1) i77 = 0) <|
st9 (alo9 m76 i77 100090 90) fun m80 =>
st9 (upd9 m80 l0 18 i77) fun m81 =>
vl9 (l0 + 19) fun i82 =>
chk9 (0 < i82 ∧ m81 (-1) i82 = 0) <|
st9 (alo9 m81 i82 107200 7200) fun m85 =>
st9 (upd9 m85 l0 19 i82) fun m86 =>
vl9 (l0 + 20) fun i87 =>
chk9 (0 < i87 ∧ m86 (-1) i87 = 0) <|
st9 (alo9 m86 i87 107200 7200) fun m90 =>
st9 (upd9 m90 l0 20 i87) fun m91 =>
vl9 (l0 + 21) fun i92 =>
chk9 (0 < i92 ∧ m91 (-1) i92 = 0) <|
st9 (alo9 m91 i92 107200 7200) fun m95 =>
st9 (upd9 m95 l0 21 i92) fun m96 =>
vl9 (l0 + 22) fun i97 =>
chk9 (0 < i97 ∧ m96 (-1) i97 = 0) <|
st9 (alo9 m96 i97 100010 10) fun m100 =>
st9 (upd9 m100 l0 22 i97) fun m101 =>
vl9 (l0 + 23) fun i102 =>
chk9 (0 < i102 ∧ m101 (-1) i102 = 0) <|
st9 (alo9 m101 i102 100800 800) fun m105 =>
st9 (upd9 m105 l0 23 i102) fun m106 =>
vl9 (l0 + 24) fun i107 =>
chk9 (0 < i107 ∧ m106 (-1) i107 = 0) <|
st9 (alo9 m106 i107 100800 800) fun m110 =>
st9 (upd9 m110 l0 24 i107) fun m111 =>
vl9 (l0 + 25) fun i112 =>
chk9 (0 < i112 ∧ m111 (-1) i112 = 0) <|
st9 (alo9 m111 i112 100800 800) fun m115 =>
st9 (upd9 m115 l0 25 i112) fun m116 =>
vl9 (l0 + 26) fun i117 =>
chk9 (0 < i117 ∧ m116 (-1) i117 = 0) <|
st9 (alo9 m116 i117 100800 800) fun m120 =>
st9 (upd9 m120 l0 26 i117) fun m121 =>
vl9 (l0 + 27) fun i122 =>
chk9 (0 < i122 ∧ m121 (-1) i122 = 0) <|
st9 (alo9 m121 i122 100800 800) fun m125 =>
st9 (upd9 m125 l0 27 i122) fun m126 =>
vl9 (l0 + 28) fun i127 =>
chk9 (0 < i127 ∧ m126 (-1) i127 = 0) <|
st9 (alo9 m126 i127 100800 800) fun m130 =>
st9 (upd9 m130 l0 28 i127) fun m131 =>
vl9 (l0 + 30) fun i132 =>
chk9 (0 < i132 ∧ m131 (-1) i132 = 0) <|
st9 (alo9 m131 i132 100010 10) fun m135 =>
st9 (upd9 m135 l0 30 i132) fun m136 =>
vl9 (l0 + 31) fun i137 =>
chk9 (0 < i137 ∧ m136 (-1) i137 = 0) <|
st9 (alo9 m136 i137 100800 800) fun m140 =>
st9 (upd9 m140 l0 31 i137) fun m141 =>
vl9 (l0 + 32) fun i142 =>
chk9 (0 < i142 ∧ m141 (-1) i142 = 0) <|
st9 (alo9 m141 i142 100010 10) fun m145 =>
st9 (upd9 m145 l0 32 i142) fun m146 =>
vl9 (l0 + 33) fun i147 =>
chk9 (0 < i147 ∧ m146 (-1) i147 = 0) <|
st9 (alo9 m146 i147 100800 800) fun m150 =>
st9 (upd9 m150 l0 33 i147) fun m151 =>
vl9 (l0 + 34) fun i152 =>
chk9 (0 < i152 ∧ m151 (-1) i152 = 0) <|
st9 (alo9 m151 i152 100800 800) fun m155 =>
st9 (upd9 m155 l0 34 i152) fun m156 =>
vl9 (l0 + 35) fun i157 =>
chk9 (0 < i157 ∧ m156 (-1) i157 = 0) <|
st9 (alo9 m156 i157 100002 2) fun m160 =>
st9 (upd9 m160 l0 35 i157) fun m161 =>
vl9 (l0 + 36) fun i162 =>
chk9 (0 < i162 ∧ m161 (-1) i162 = 0) <|
st9 (alo9 m161 i162 100002 2) fun m165 =>
st9 (upd9 m165 l0 36 i162) fun m166 =>
vl9 (l0 + 37) fun i167 =>
chk9 (0 < i167 ∧ m166 (-1) i167 = 0) <|
st9 (alo9 m166 i167 100006 6) fun m170 =>
st9 (upd9 m170 l0 37 i167) fun m171 =>
vl9 (l0 + 38) fun i172 =>
chk9 (0 < i172 ∧ m171 (-1) i172 = 0) <|
st9 (alo9 m171 i172 200004 4) fun m175 =>
st9 (upd9 m175 l0 38 i172) fun m176 =>
vl9 (l0 + 39) fun i177 =>
chk9 (0 < i177 ∧ m176 (-1) i177 = 0) <|
st9 (alo9 m176 i177 100004 4) fun m180 =>
st9 (upd9 m180 l0 39 i177) fun m181 =>
vl9 (l0 + 56) fun i182 =>
chk9 (0 < i182 ∧ m181 (-1) i182 = 0) <|
st9 (alo9 m181 i182 100003 3) fun m185 =>
st9 (upd9 m185 l0 56 i182) fun m186 =>
vl9 (l0 + 57) fun i187 =>
chk9 (0 < i187 ∧ m186 (-1) i187 = 0) <|
st9 (alo9 m186 i187 100003 3) fun m190 =>
st9 (upd9 m190 l0 57 i187) fun m191 =>
vl9 (l0 + 58) fun i192 =>
chk9 (0 < i192 ∧ m191 (-1) i192 = 0) <|
st9 (alo9 m191 i192 100003 3) fun m195 =>
st9 (upd9 m195 l0 58 i192) fun m196 =>
vl9 (l0 + 59) fun i197 =>
chk9 (0 < i197 ∧ m196 (-1) i197 = 0) <|
st9 (alo9 m196 i197 100003 3) fun m200 =>
st9 (upd9 m200 l0 59 i197) fun m201 =>
vl9 (l0 + 60) fun i202 =>
chk9 (0 < i202 ∧ m201 (-1) i202 = 0) <|
st9 (alo9 m201 i202 200003 3) fun m205 =>
st9 (upd9 m205 l0 60 i202) fun m206 =>
vl9 (l0 + 61) fun i207 =>
chk9 (0 < i207 ∧ m206 (-1) i207 = 0) <|
st9 (alo9 m206 i207 200003 3) fun m210 =>
st9 (upd9 m210 l0 61 i207) fun m211 =>
vl9 (l0 + 62) fun i212 =>
chk9 (0 < i212 ∧ m211 (-1) i212 = 0) <|
st9 (alo9 m211 i212 100003 3) fun m215 =>
st9 (upd9 m215 l0 62 i212) fun m216 =>
vl9 (l0 + 63) fun i217 =>
chk9 (0 < i217 ∧ m216 (-1) i217 = 0) <|
st9 (alo9 m216 i217 200003 3) fun m220 =>
st9 (upd9 m220 l0 63 i217) fun m221 =>
vl9 (l0 + 65) fun i222 =>
chk9 (0 < i222 ∧ m221 (-1) i222 = 0) <|
st9 (alo9 m221 i222 100080 80) fun m225 =>
st9 (upd9 m225 l0 65 i222) fun m226 =>
vl9 (l0 + 66) fun i227 =>
chk9 (0 < i227 ∧ m226 (-1) i227 = 0) <|
st9 (alo9 m226 i227 100080 80) fun m230 =>
st9 (upd9 m230 l0 66 i227) fun m231 =>
vl9 (l0 + 67) fun i232 =>
chk9 (0 < i232 ∧ m231 (-1) i232 = 0) <|
st9 (alo9 m231 i232 200080 80) fun m235 =>
st9 (upd9 m235 l0 67 i232) fun m236 =>
vl9 (l0 + 69) fun i237 =>
chk9 (0 < i237 ∧ m236 (-1) i237 = 0) <|
st9 (alo9 m236 i237 105200 5200) fun m240 =>
st9 (upd9 m240 l0 69 i237) fun m241 =>
vl9 (l0 + 70) fun i242 =>
chk9 (0 < i242 ∧ m241 (-1) i242 = 0) <|
st9 (alo9 m241 i242 105200 5200) fun m245 =>
st9 (upd9 m245 l0 70 i242) fun m246 =>
vl9 (l0 + 72) fun i247 =>
chk9 (0 < i247 ∧ m246 (-1) i247 = 0) <|
st9 (alo9 m246 i247 105200 5200) fun m250 =>
st9 (upd9 m250 l0 72 i247) fun m251 =>
vl9 (l0 + 73) fun i252 =>
chk9 (0 < i252 ∧ m251 (-1) i252 = 0) <|
st9 (alo9 m251 i252 105200 5200) fun m255 =>
st9 (upd9 m255 l0 73 i252) fun m256 =>
vl9 (l0 + 74) fun i257 =>
chk9 (0 < i257 ∧ m256 (-1) i257 = 0) <|
st9 (alo9 m256 i257 105200 5200) fun m260 =>
st9 (upd9 m260 l0 74 i257) fun m261 =>
vl9 (l0 + 75) fun i262 =>
chk9 (0 < i262 ∧ m261 (-1) i262 = 0) <|
st9 (alo9 m261 i262 105200 5200) fun m265 =>
st9 (upd9 m265 l0 75 i262) fun m266 =>
vl9 (l0 + 81) fun i267 =>
chk9 (0 < i267 ∧ m266 (-1) i267 = 0) <|
st9 (alo9 m266 i267 100016 16) fun m270 =>
st9 (upd9 m270 l0 81 i267) fun m271 =>
X12_init_446 (X12_init_467 fuel9) fuel9 l0 0 m271
def X12_init (a0 : Int) (m : Mem) : Option R2 := X12_init_0 a0 m
def X12_thrown_0 (l0 : Int) (m : Mem) : Option R2 :=
chk9 (0 < l0) <|
some (m l0 0, m)
def X12_thrown (a0 : Int) (m : Mem) : Option R2 := X12_thrown_0 a0 m
def X12_isFine_0 (l0 l1 : Int) (m : Mem) : Option R2 :=
chk9 (0 < l0) <|
st9 (upd9 m l0 0 l1) fun m2 =>
if l1 = 0 then (
some (1, m2))
else
some (0, m2)
def X12_isFine (a0 a1 : Int) (m : Mem) : Option R2 := boolR (X12_isFine_0 a0 a1 m)
def X12_isIn_0 (l0 l1 l2 : Int) (m : Mem) : Option R2 :=
if l0 < l1 then (
some (0, m))
else
if l2 < l0 then (
some (0, m))
else
some (1, m)
def X12_isIn (a0 a1 a2 : Int) (m : Mem) : Option R2 := boolR (X12_isIn_0 a0 a1 a2 m)
def X12_isType_0 (l0 : Int) (m : Mem) : Option R2 :=
cal (X12_isIn l0 0 2 m) fun v1 m2 =>
some (v1, m2)
def X12_isType (a0 : Int) (m : Mem) : Option R2 := boolR (X12_isType_0 a0 m)
def X12_isFlow_0 (l0 l1 : Int) (m : Mem) : Option R2 :=
chk9 (0 < l0) <|
chk9 (iR (m l0 16 - 1)) <|
cal (X12_isIn l1 0 (m l0 16 - 1) m) fun v3 m4 =>
some (v3, m4)
def X12_isFlow (a0 a1 : Int) (m : Mem) : Option R2 := boolR (X12_isFlow_0 a0 a1 m)
def X12_isQueue_0 (l0 : Int) (m : Mem) : Option R2 :=
cal (X12_isIn l0 0 1 m) fun v1 m2 =>
some (v1, m2)
def X12_isQueue (a0 : Int) (m : Mem) : Option R2 := boolR (X12_isQueue_0 a0 m)
def X12_isWorker_0 (l0 : Int) (m : Mem) : Option R2 :=
cal (X12_isIn l0 0 3 m) fun v1 m2 =>
some (v1, m2)
def X12_isWorker (a0 : Int) (m : Mem) : Option R2 := boolR (X12_isWorker_0 a0 m)
def X12_rowOf_0 (l0 l1 : Int) (m : Mem) : Option R2 :=
chk9 (iR (5 * l0)) <|
chk9 (iR ((5 * l0) + l1)) <|
chk9 (iR (((5 * l0) + l1) - 1)) <|
some ((((5 * l0) + l1) - 1), m)
def X12_rowOf (a0 a1 : Int) (m : Mem) : Option R2 := X12_rowOf_0 a0 a1 m
def X12_isValue_0 (l0 : Int) (m : Mem) : Option R2 :=
cal (X12_isIn l0 (-99) 99 m) fun v1 m2 =>
some (v1, m2)
def X12_isValue (a0 : Int) (m : Mem) : Option R2 := boolR (X12_isValue_0 a0 m)
def X12_isStep_0 (l0 l1 l2 : Int) (m : Mem) : Option R2 :=
if l0 = 0 then (
cal (X12_isIn l1 0 5 m) fun v2 m3 =>
if v2 = 0 then (
some (0, m3))
else
cal (X12_isIn l2 0 1 m3) fun v6 m7 =>
if v6 = 0 then (
some (0, m7))
else
some (1, m7))
else
if l0 = 1 then (
cal (X12_isIn l1 1 50 m) fun v11 m12 =>
if v11 = 0 then (
some (0, m12))
else
if l2 = 0 then (
some (1, m12))
else
some (0, m12))
else
if l0 = 2 then (
cal (X12_isIn l1 0 2 m) fun v17 m18 =>
if v17 = 0 then (
some (0, m18))
else
cal (X12_isIn l2 0 50 m18) fun v21 m22 =>
if v21 = 0 then (
some (0, m22))
else
some (1, m22))
else
if l0 = 3 then (
cal (X12_isIn l1 0 2 m) fun v26 m27 =>
if v26 = 0 then (
some (0, m27))
else
cal (X12_isIn l2 0 2 m27) fun v30 m31 =>
if v30 = 0 then (
some (0, m31))
else
some (1, m31))
else
if l0 = 4 then (
cal (X12_isIn l1 1 3 m) fun v35 m36 =>
if v35 = 0 then (
some (0, m36))
else
if l2 = 0 then (
some (1, m36))
else
some (0, m36))
else
if l0 = 5 then (
cal (X12_isValue l1 m) fun v41 m42 =>
if v41 = 0 then (
some (0, m42))
else
cal (X12_isIn l2 1 11 m42) fun v45 m46 =>
if v45 = 0 then (
some (0, m46))
else
some (1, m46))
else
if l0 = 6 then (
cal (X12_isValue l1 m) fun v50 m51 =>
if v50 = 0 then (
some (0, m51))
else
cal (X12_isIn l2 1 11 m51) fun v54 m55 =>
if v54 = 0 then (
some (0, m55))
else
some (1, m55))
else
if l0 = 7 then (
cal (X12_isValue l1 m) fun v59 m60 =>
if v59 = 0 then (
some (0, m60))
else
if l2 = 0 then (
some (1, m60))
else
some (0, m60))
else
if l0 = 8 then (
cal (X12_isValue l1 m) fun v65 m66 =>
if v65 = 0 then (
some (0, m66))
else
if l2 = 0 then (
some (1, m66))
else
some (0, m66))
else
if l0 = 9 then (
cal (X12_isIn l1 0 5 m) fun v71 m72 =>
if v71 = 0 then (
some (0, m72))
else
cal (X12_isIn l2 0 1 m72) fun v75 m76 =>
if v75 = 0 then (
some (0, m76))
else
some (1, m76))
else
if l0 = 10 then (
cal (X12_isIn l1 0 3 m) fun v80 m81 =>
if v80 = 0 then (
some (0, m81))
else
cal (X12_isIn l2 1 11 m81) fun v84 m85 =>
if v84 = 0 then (
some (0, m85))
else
some (1, m85))
else
if l0 = 11 then (
cal (X12_isIn l1 1 11 m) fun v89 m90 =>
if v89 = 0 then (
some (0, m90))
else
if l2 = 0 then (
some (1, m90))
else
some (0, m90))
else
if l0 = 12 then (
cal (X12_isIn l1 0 1 m) fun v95 m96 =>
if v95 = 0 then (
some (0, m96))
else
cal (X12_isIn l2 (-99) 100 m96) fun v99 m100 =>
if v99 = 0 then (
some (0, m100))
else
some (1, m100))
else
if l0 = 13 then (
cal (X12_isIn l1 1 9 m) fun v104 m105 =>
if v104 = 0 then (
some (0, m105))
else
if l2 = 0 then (
some (1, m105))
else
some (0, m105))
else
cal (X12_isIn l0 14 15 m) fun v109 m110 =>
if v109 = 0 then (
some (0, m110))
else
if l1 = 0 then (
if l2 = 0 then (
some (1, m110))
else
some (0, m110))
else
some (0, m110)
def X12_isStep (a0 a1 a2 : Int) (m : Mem) : Option R2 := boolR (X12_isStep_0 a0 a1 a2 m)
def X12_step_73 (l0 l2 l3 l4 l6 s0 s1 : Int) (m : Mem) : Option R2 :=
chk9 (0 < s1) <|
cal (X12_isFine s1 s0 m) fun v2 m3 =>
if v2 = 0 then (
some (0, m3))
else
chk9 (0 < l0) <|
chk9 (iR (12 * l6)) <|
chk9 (0 < m3 l0 5 ∧ 0 ≤ l6 ∧ l6 < 15) <|
chk9 (iR ((12 * l6) + m3 (m3 l0 5) l6)) <|
chk9 (0 < m3 l0 2 ∧ 0 ≤ ((12 * l6) + m3 (m3 l0 5) l6) ∧ ((12 * l6) + m3 (m3 l0 5) l6) < 180) <|
st9 (upd9 m3 (m3 l0 2) ((12 * l6) + m3 (m3 l0 5) l6) l2) fun m15 =>
chk9 (iR (12 * l6)) <|
chk9 (0 < m15 l0 5 ∧ 0 ≤ l6 ∧ l6 < 15) <|
chk9 (iR ((12 * l6) + m15 (m15 l0 5) l6)) <|
chk9 (0 < m15 l0 3 ∧ 0 ≤ ((12 * l6) + m15 (m15 l0 5) l6) ∧ ((12 * l6) + m15 (m15 l0 5) l6) < 180) <|
st9 (upd9 m15 (m15 l0 3) ((12 * l6) + m15 (m15 l0 5) l6) l3) fun m24 =>
chk9 (iR (12 * l6)) <|
chk9 (0 < m24 l0 5 ∧ 0 ≤ l6 ∧ l6 < 15) <|
chk9 (iR ((12 * l6) + m24 (m24 l0 5) l6)) <|
chk9 (0 < m24 l0 4 ∧ 0 ≤ ((12 * l6) + m24 (m24 l0 5) l6) ∧ ((12 * l6) + m24 (m24 l0 5) l6) < 180) <|
st9 (upd9 m24 (m24 l0 4) ((12 * l6) + m24 (m24 l0 5) l6) l4) fun m33 =>
chk9 (0 < m33 l0 5 ∧ 0 ≤ l6 ∧ l6 < 15) <|
chk9 (iR (m33 (m33 l0 5) l6 + 1)) <|
chk9 (0 ≤ l6 ∧ l6 < 15) <|
st9 (upd9 m33 (m33 l0 5) l6 (m33 (m33 l0 5) l6 + 1)) fun m40 =>
chk9 (0 < m40 l0 5 ∧ 0 ≤ l6 ∧ l6 < 15) <|
some (m40 (m40 l0 5) l6, m40)
def X12_step_20 (l0 l1 l2 l3 l4 l5 s0 : Int) (m : Mem) : Option R2 :=
if l5 = 0 then (
X12_step_73 l0 l2 l3 l4 s0 1 l0 m)
else
cal (X12_isStep l2 l3 l4 m) fun v2 m3 =>
if v2 = 0 then (
X12_step_73 l0 l2 l3 l4 s0 2 l0 m3)
else
chk9 (0 < l0) <|
chk9 (0 < m3 l0 5 ∧ 0 ≤ s0 ∧ s0 < 15) <|
if m3 (m3 l0 5) s0 = 12 then (
X12_step_73 l0 l2 l3 l4 s0 3 l0 m3)
else
chk9 (0 < m3 l0 6 ∧ 0 ≤ l1 ∧ l1 < 3) <|
if m3 (m3 l0 6) l1 = 4 then (
X12_step_73 l0 l2 l3 l4 s0 3 l0 m3)
else
X12_step_73 l0 l2 l3 l4 s0 0 l0 m3
def X12_step_0 (l0 l1 l2 l3 l4 : Int) (m : Mem) : Option R2 :=
cal (X12_isType l1 m) fun v1 m2 =>
if v1 = 0 then (
X12_step_20 l0 l1 l2 l3 l4 v1 0 m2)
else
cal (X12_rowOf l1 5 m2) fun v5 m6 =>
X12_step_20 l0 l1 l2 l3 l4 v1 v5 m6
def X12_step (a0 a1 a2 a3 a4 : Int) (m : Mem) : Option R2 := X12_step_0 a0 a1 a2 a3 a4 m
def X12_forget_13 (l0 l1 s0 s1 : Int) (m : Mem) : Option R2 :=
chk9 (0 < s1) <|
cal (X12_isFine s1 s0 m) fun v2 m3 =>
if v2 = 0 then (
some (0, m3))
else
chk9 (0 < l0) <|
cal (X12_rowOf l1 5 m3) fun v7 m8 =>
chk9 (0 < m3 l0 5 ∧ 0 ≤ v7 ∧ v7 < 15) <|
cal (X12_rowOf l1 5 m8) fun v13 m14 =>
chk9 (0 < m8 l0 5 ∧ 0 ≤ v13 ∧ v13 < 15) <|
st9 (upd9 m14 (m8 l0 5) v13 0) fun m19 =>
some (m8 (m3 l0 5) v7, m19)
def X12_forget_0 (l0 l1 : Int) (m : Mem) : Option R2 :=
cal (X12_isType l1 m) fun v1 m2 =>
if v1 = 0 then (
X12_forget_13 l0 l1 1 l0 m2)
else
X12_forget_13 l0 l1 0 l0 m2
def X12_forget (a0 a1 : Int) (m : Mem) : Option R2 := X12_forget_0 a0 a1 m
def X12_leads_91 : Nat → Int → Int → Int → Int → Int → Int → Mem → Option R2
  | 0, _, _, _, _, _, _, _ => none
  | n + 1, l0, l1, l2, l3, l4, l5, m => (
chk9 (0 < l0) <|
chk9 (0 < m l0 2 ∧ 0 ≤ l3 ∧ l3 < 180) <|
if m (m l0 2) l3 = 4 then (
chk9 (0 < m l0 3 ∧ 0 ≤ l3 ∧ l3 < 180) <|
if m (m l0 3) l3 < l5 then (
some (l4, m))
else
if l4 = 0 then (
some (l4, m))
else
chk9 (iR (l2 + l5)) <|
chk9 (0 < m l0 5 ∧ 0 ≤ l1 ∧ l1 < 15) <|
if m (m l0 5) l1 ≤ (l2 + l5) then (
chk9 (iR (l5 + 1)) <|
X12_leads_91 n l0 l1 l2 l3 0 (l5 + 1) m)
else
chk9 (iR (l3 + l5)) <|
chk9 (0 ≤ (l3 + l5) ∧ (l3 + l5) < 180) <|
if 3 < m (m l0 2) (l3 + l5) then (
chk9 (iR (l5 + 1)) <|
X12_leads_91 n l0 l1 l2 l3 0 (l5 + 1) m)
else
chk9 (iR (l5 + 1)) <|
X12_leads_91 n l0 l1 l2 l3 1 (l5 + 1) m)
else
some (l4, m))
def X12_leads_62 (l0 l1 l2 l3 : Int) (m : Mem) : Option R2 :=
chk9 (iR (l2 + 1)) <|
chk9 (0 < l0) <|
chk9 (0 < m l0 4 ∧ 0 ≤ l3 ∧ l3 < 180) <|
chk9 (iR ((l2 + 1) + m (m l0 4) l3)) <|
chk9 (0 < m l0 5 ∧ 0 ≤ l1 ∧ l1 < 15) <|
if m (m l0 5) l1 < ((l2 + 1) + m (m l0 4) l3) then (
X12_leads_91 fuel9 l0 l1 l2 l3 0 1 m)
else
X12_leads_91 fuel9 l0 l1 l2 l3 1 1 m
def X12_leads_34 (l0 l1 l2 l3 s0 : Int) (m : Mem) : Option R2 :=
if s0 = 0 then (
X12_leads_91 fuel9 l0 l1 l2 l3 0 1 m)
else
chk9 (0 < l0) <|
chk9 (0 < m l0 2 ∧ 0 ≤ l3 ∧ l3 < 180) <|
if m (m l0 2) l3 = 5 then (
X12_leads_62 l0 l1 l2 l3 m)
else
chk9 (0 ≤ l3 ∧ l3 < 180) <|
if m (m l0 2) l3 = 10 then (
X12_leads_62 l0 l1 l2 l3 m)
else
X12_leads_91 fuel9 l0 l1 l2 l3 1 1 m
def X12_leads_0 (l0 l1 l2 : Int) (m : Mem) : Option R2 :=
chk9 (iR (12 * l1)) <|
chk9 (iR ((12 * l1) + l2)) <|
chk9 (0 < l0) <|
chk9 (0 < m l0 2 ∧ 0 ≤ ((12 * l1) + l2) ∧ ((12 * l1) + l2) < 180) <|
if m (m l0 2) ((12 * l1) + l2) = 6 then (
chk9 (0 < m l0 4 ∧ 0 ≤ ((12 * l1) + l2) ∧ ((12 * l1) + l2) < 180) <|
chk9 (iR (l2 - m (m l0 4) ((12 * l1) + l2))) <|
if (l2 - m (m l0 4) ((12 * l1) + l2)) < 0 then (
X12_leads_34 l0 l1 l2 ((12 * l1) + l2) 0 m)
else
X12_leads_34 l0 l1 l2 ((12 * l1) + l2) 1 m)
else
X12_leads_34 l0 l1 l2 ((12 * l1) + l2) 1 m
def X12_leads (a0 a1 a2 : Int) (m : Mem) : Option R2 := boolR (X12_leads_0 a0 a1 a2 m)
def X12_release_217 (l0 l1 l4 l5 : Int) (m : Mem) : Option R2 :=
chk9 (0 < l0) <|
chk9 (0 < m l0 5 ∧ 0 ≤ l4 ∧ l4 < 15) <|
chk9 (0 ≤ l5 ∧ l5 < 15) <|
st9 (upd9 m (m l0 5) l5 (m (m l0 5) l4)) fun m7 =>
chk9 (0 < m7 l0 5 ∧ 0 ≤ l4 ∧ l4 < 15) <|
st9 (upd9 m7 (m7 l0 5) l4 0) fun m11 =>
chk9 (0 < m11 l0 6 ∧ 0 ≤ l1 ∧ l1 < 3) <|
some (m11 (m11 l0 6) l1, m11)
def X12_release_126 (k217 : Int → Int → Int → Int → Mem → Option R2) : Nat → Int → Int → Int → Int → Int → Mem → Option R2
  | 0, _, _, _, _, _, _ => none
  | n + 1, l0, l1, l4, l5, l6, m => (
if 12 ≤ l6 then (
k217 l0 l1 l4 l5 m)
else
chk9 (0 < l0) <|
chk9 (iR (12 * l5)) <|
chk9 (iR ((12 * l5) + l6)) <|
chk9 (iR (12 * l4)) <|
chk9 (iR ((12 * l4) + l6)) <|
chk9 (0 < m l0 2 ∧ 0 ≤ ((12 * l4) + l6) ∧ ((12 * l4) + l6) < 180) <|
chk9 (0 ≤ ((12 * l5) + l6) ∧ ((12 * l5) + l6) < 180) <|
st9 (upd9 m (m l0 2) ((12 * l5) + l6) (m (m l0 2) ((12 * l4) + l6))) fun m12 =>
chk9 (iR (12 * l5)) <|
chk9 (iR ((12 * l5) + l6)) <|
chk9 (iR (12 * l4)) <|
chk9 (iR ((12 * l4) + l6)) <|
chk9 (0 < m12 l0 3 ∧ 0 ≤ ((12 * l4) + l6) ∧ ((12 * l4) + l6) < 180) <|
chk9 (0 ≤ ((12 * l5) + l6) ∧ ((12 * l5) + l6) < 180) <|
st9 (upd9 m12 (m12 l0 3) ((12 * l5) + l6) (m12 (m12 l0 3) ((12 * l4) + l6))) fun m22 =>
chk9 (iR (12 * l5)) <|
chk9 (iR ((12 * l5) + l6)) <|
chk9 (iR (12 * l4)) <|
chk9 (iR ((12 * l4) + l6)) <|
chk9 (0 < m22 l0 4 ∧ 0 ≤ ((12 * l4) + l6) ∧ ((12 * l4) + l6) < 180) <|
chk9 (0 ≤ ((12 * l5) + l6) ∧ ((12 * l5) + l6) < 180) <|
st9 (upd9 m22 (m22 l0 4) ((12 * l5) + l6) (m22 (m22 l0 4) ((12 * l4) + l6))) fun m32 =>
chk9 (iR (l6 + 1)) <|
X12_release_126 k217 n l0 l1 l4 l5 (l6 + 1) m32)
def X12_release_86 (l0 l1 s0 s1 : Int) (m : Mem) : Option R2 :=
chk9 (0 < s1) <|
cal (X12_isFine s1 s0 m) fun v2 m3 =>
if v2 = 0 then (
some (0, m3))
else
chk9 (0 < l0) <|
chk9 (0 < m3 l0 6 ∧ 0 ≤ l1 ∧ l1 < 3) <|
chk9 (iR (m3 (m3 l0 6) l1 + 1)) <|
chk9 (0 ≤ l1 ∧ l1 < 3) <|
st9 (upd9 m3 (m3 l0 6) l1 (m3 (m3 l0 6) l1 + 1)) fun m13 =>
cal (X12_rowOf l1 5 m13) fun v14 m15 =>
chk9 (0 < m15 l0 6 ∧ 0 ≤ l1 ∧ l1 < 3) <|
cal (X12_rowOf l1 (m15 (m15 l0 6) l1) m15) fun v20 m21 =>
X12_release_126 (X12_release_217) fuel9 l0 l1 v14 v20 0 m21
def X12_release_68 (l0 l1 l2 l3 : Int) (m : Mem) : Option R2 :=
if l2 = 0 then (
X12_release_86 l0 l1 1 l0 m)
else
if l3 = 0 then (
X12_release_86 l0 l1 2 l0 m)
else
X12_release_86 l0 l1 0 l0 m
def X12_release_31 (k68 : Int → Int → Int → Int → Mem → Option R2) : Nat → Int → Int → Int → Int → Int → Mem → Option R2
  | 0, _, _, _, _, _, _ => none
  | n + 1, l0, l1, l2, l3, l4, m => (
if l3 = 0 then (
k68 l0 l1 l2 l3 m)
else
chk9 (0 < l0) <|
cal (X12_rowOf l1 5 m) fun v3 m4 =>
chk9 (0 < m l0 5 ∧ 0 ≤ v3 ∧ v3 < 15) <|
if m4 (m l0 5) v3 ≤ l4 then (
k68 l0 l1 l2 l3 m4)
else
cal (X12_rowOf l1 5 m4) fun v10 m11 =>
cal (X12_leads l0 v10 l4 m11) fun v13 m14 =>
chk9 (iR (l4 + 1)) <|
X12_release_31 k68 n l0 l1 l2 v13 (l4 + 1) m14)
def X12_release_0 (l0 l1 : Int) (m : Mem) : Option R2 :=
cal (X12_isType l1 m) fun v1 m2 =>
if v1 = 0 then (
X12_release_31 (X12_release_68) fuel9 l0 l1 v1 0 0 m2)
else
chk9 (0 < l0) <|
cal (X12_rowOf l1 5 m2) fun v6 m7 =>
chk9 (0 < m2 l0 5 ∧ 0 ≤ v6 ∧ v6 < 15) <|
if m7 (m2 l0 5) v6 ≤ 0 then (
X12_release_31 (X12_release_68) fuel9 l0 l1 v1 0 0 m7)
else
X12_release_31 (X12_release_68) fuel9 l0 l1 v1 1 0 m7
def X12_release (a0 a1 : Int) (m : Mem) : Option R2 := X12_release_0 a0 a1 m
def X12_versions_13 (l0 l1 s0 s1 : Int) (m : Mem) : Option R2 :=
chk9 (0 < s1) <|
cal (X12_isFine s1 s0 m) fun v2 m3 =>
if v2 = 0 then (
some (0, m3))
else
chk9 (0 < l0) <|
chk9 (0 < m3 l0 6 ∧ 0 ≤ l1 ∧ l1 < 3) <|
some (m3 (m3 l0 6) l1, m3)
def X12_versions_0 (l0 l1 : Int) (m : Mem) : Option R2 :=
cal (X12_isType l1 m) fun v1 m2 =>
if v1 = 0 then (
X12_versions_13 l0 l1 1 l0 m2)
else
X12_versions_13 l0 l1 0 l0 m2
def X12_versions (a0 a1 : Int) (m : Mem) : Option R2 := X12_versions_0 a0 a1 m
def X12_rowOfRun_0 (l0 l1 : Int) (m : Mem) : Option R2 :=
chk9 (iR (9 * l1)) <|
chk9 (0 < l0) <|
chk9 (0 < m l0 12 ∧ 0 ≤ l1 ∧ l1 < 10) <|
chk9 (iR ((9 * l1) + m (m l0 12) l1)) <|
chk9 (iR (((9 * l1) + m (m l0 12) l1) - 1)) <|
some ((((9 * l1) + m (m l0 12) l1) - 1), m)
def X12_rowOfRun (a0 a1 : Int) (m : Mem) : Option R2 := X12_rowOfRun_0 a0 a1 m
def X12_isRunning_0 (l0 l1 : Int) (m : Mem) : Option R2 :=
chk9 (0 < l0) <|
cal (X12_rowOfRun l0 l1 m) fun v2 m3 =>
chk9 (0 < m l0 17 ∧ 0 ≤ v2 ∧ v2 < 90) <|
if m3 (m l0 17) v2 = 20 then (
some (1, m3))
else
some (0, m3)
def X12_isRunning (a0 a1 : Int) (m : Mem) : Option R2 := boolR (X12_isRunning_0 a0 a1 m)
def X12_writes_0 (l0 l1 l2 l3 l4 : Int) (m : Mem) : Option R2 :=
chk9 (0 < l0) <|
cal (X12_rowOfRun l0 l1 m) fun v2 m3 =>
chk9 (iR (80 * v2)) <|
chk9 (0 < m3 l0 18 ∧ 0 ≤ v2 ∧ v2 < 90) <|
chk9 (iR ((80 * v2) + m3 (m3 l0 18) v2)) <|
chk9 (0 < m3 l0 19 ∧ 0 ≤ ((80 * v2) + m3 (m3 l0 18) v2) ∧ ((80 * v2) + m3 (m3 l0 18) v2) < 7200) <|
st9 (upd9 m3 (m3 l0 19) ((80 * v2) + m3 (m3 l0 18) v2) l2) fun m13 =>
chk9 (iR (80 * v2)) <|
chk9 (0 < m13 l0 18 ∧ 0 ≤ v2 ∧ v2 < 90) <|
chk9 (iR ((80 * v2) + m13 (m13 l0 18) v2)) <|
chk9 (0 < m13 l0 20 ∧ 0 ≤ ((80 * v2) + m13 (m13 l0 18) v2) ∧ ((80 * v2) + m13 (m13 l0 18) v2) < 7200) <|
st9 (upd9 m13 (m13 l0 20) ((80 * v2) + m13 (m13 l0 18) v2) l3) fun m22 =>
chk9 (iR (80 * v2)) <|
chk9 (0 < m22 l0 18 ∧ 0 ≤ v2 ∧ v2 < 90) <|
chk9 (iR ((80 * v2) + m22 (m22 l0 18) v2)) <|
chk9 (0 < m22 l0 21 ∧ 0 ≤ ((80 * v2) + m22 (m22 l0 18) v2) ∧ ((80 * v2) + m22 (m22 l0 18) v2) < 7200) <|
st9 (upd9 m22 (m22 l0 21) ((80 * v2) + m22 (m22 l0 18) v2) l4) fun m31 =>
chk9 (0 < m31 l0 18 ∧ 0 ≤ v2 ∧ v2 < 90) <|
chk9 (iR (m31 (m31 l0 18) v2 + 1)) <|
chk9 (0 ≤ v2 ∧ v2 < 90) <|
st9 (upd9 m31 (m31 l0 18) v2 (m31 (m31 l0 18) v2 + 1)) fun m38 =>
some (0, m38)
def X12_writes (a0 a1 a2 a3 a4 : Int) (m : Mem) : Option R2 := X12_writes_0 a0 a1 a2 a3 a4 m
def X12_happens_28 (l0 l1 l2 l3 l4 s0 : Int) (m : Mem) : Option R2 :=
if s0 = 0 then (
some (s0, m))
else
chk9 (0 < l0) <|
cal (X12_writes l0 l1 l2 l3 l4 m) fun _ m4 =>
some (s0, m4)
def X12_happens_0 (l0 l1 l2 l3 l4 : Int) (m : Mem) : Option R2 :=
chk9 (0 < l0) <|
cal (X12_isRunning l0 l1 m) fun v2 m3 =>
if v2 = 0 then (
X12_happens_28 l0 l1 l2 l3 l4 0 m3)
else
cal (X12_rowOfRun l0 l1 m3) fun v6 m7 =>
chk9 (0 < m3 l0 18 ∧ 0 ≤ v6 ∧ v6 < 90) <|
if 78 ≤ m7 (m3 l0 18) v6 then (
X12_happens_28 l0 l1 l2 l3 l4 0 m7)
else
X12_happens_28 l0 l1 l2 l3 l4 1 m7
def X12_happens (a0 a1 a2 a3 a4 : Int) (m : Mem) : Option R2 := boolR (X12_happens_0 a0 a1 a2 a3 a4 m)
def X12_beginsRun_0 (l0 l1 l2 : Int) (m : Mem) : Option R2 :=
chk9 (0 < l0) <|
chk9 (0 < m l0 12 ∧ 0 ≤ l1 ∧ l1 < 10) <|
chk9 (iR (m (m l0 12) l1 + 1)) <|
chk9 (0 ≤ l1 ∧ l1 < 10) <|
st9 (upd9 m (m l0 12) l1 (m (m l0 12) l1 + 1)) fun m8 =>
cal (X12_rowOfRun l0 l1 m8) fun v9 m10 =>
chk9 (0 < m8 l0 17 ∧ 0 ≤ v9 ∧ v9 < 90) <|
st9 (upd9 m10 (m8 l0 17) v9 20) fun m15 =>
chk9 (0 < m15 l0 14 ∧ 0 ≤ l1 ∧ l1 < 10) <|
st9 (upd9 m15 (m15 l0 14) l1 0) fun m19 =>
chk9 (0 < m19 l0 15 ∧ 0 ≤ l1 ∧ l1 < 10) <|
st9 (upd9 m19 (m19 l0 15) l1 (-1)) fun m23 =>
chk9 (0 < m23 l0 22 ∧ 0 ≤ l1 ∧ l1 < 10) <|
st9 (upd9 m23 (m23 l0 22) l1 0) fun m27 =>
chk9 (0 < m27 l0 30 ∧ 0 ≤ l1 ∧ l1 < 10) <|
st9 (upd9 m27 (m27 l0 30) l1 0) fun m31 =>
chk9 (0 < m31 l0 32 ∧ 0 ≤ l1 ∧ l1 < 10) <|
st9 (upd9 m31 (m31 l0 32) l1 0) fun m35 =>
cal (X12_writes l0 l1 0 l2 0 m35) fun _ m37 =>
some (0, m37)
def X12_beginsRun (a0 a1 a2 : Int) (m : Mem) : Option R2 := X12_beginsRun_0 a0 a1 a2 m
def X12_makesFlow_61 (l0 l4 l5 l6 s0 s1 s2 : Int) (m : Mem) : Option R2 :=
chk9 (0 < s2 ∧ 0 ≤ s1 ∧ s1 < 10) <|
st9 (upd9 m s2 s1 s0) fun m4 =>
chk9 (0 < l0) <|
chk9 (0 < m4 l0 11 ∧ 0 ≤ l6 ∧ l6 < 10) <|
st9 (upd9 m4 (m4 l0 11) l6 l4) fun m9 =>
cal (X12_beginsRun l0 l6 l5 m9) fun _ m11 =>
some (l6, m11)
def X12_makesFlow_0 (l0 l1 l2 l3 l4 l5 : Int) (m : Mem) : Option R2 :=
chk9 (0 < l0) <|
chk9 (iR (m l0 16 + 1)) <|
st9 (upd9 m l0 16 (m l0 16 + 1)) fun m3 =>
chk9 (0 < m3 l0 7 ∧ 0 ≤ m l0 16 ∧ m l0 16 < 10) <|
st9 (upd9 m3 (m3 l0 7) (m l0 16) l1) fun m7 =>
chk9 (0 < m7 l0 8 ∧ 0 ≤ m l0 16 ∧ m l0 16 < 10) <|
st9 (upd9 m7 (m7 l0 8) (m l0 16) l2) fun m11 =>
chk9 (0 < m11 l0 9 ∧ 0 ≤ m l0 16 ∧ m l0 16 < 10) <|
st9 (upd9 m11 (m11 l0 9) (m l0 16) l3) fun m15 =>
if l3 = (-1) then (
X12_makesFlow_61 l0 l4 l5 (m l0 16) 0 (m l0 16) (m15 l0 10) m15)
else
chk9 (0 < m15 l0 12 ∧ 0 ≤ l3 ∧ l3 < 10) <|
X12_makesFlow_61 l0 l4 l5 (m l0 16) (m15 (m15 l0 12) l3) (m l0 16) (m15 l0 10) m15
def X12_makesFlow (a0 a1 a2 a3 a4 a5 : Int) (m : Mem) : Option R2 := X12_makesFlow_0 a0 a1 a2 a3 a4 a5 m
def X12_start_58 (l0 l1 l2 l3 s0 s1 : Int) (m : Mem) : Option R2 :=
chk9 (0 < s1) <|
cal (X12_isFine s1 s0 m) fun v2 m3 =>
if v2 = 0 then (
some (0, m3))
else
chk9 (0 < l0) <|
cal (X12_makesFlow l0 l1 l2 (-1) 0 l3 m3) fun v7 m8 =>
some (v7, m8)
def X12_start_21 (l0 l1 l2 l3 s0 : Int) (m : Mem) : Option R2 :=
if s0 = 0 then (
X12_start_58 l0 l1 l2 l3 1 l0 m)
else
cal (X12_isValue l3 m) fun v2 m3 =>
if v2 = 0 then (
X12_start_58 l0 l1 l2 l3 2 l0 m3)
else
chk9 (0 < l0) <|
if m3 l0 16 = 10 then (
X12_start_58 l0 l1 l2 l3 3 l0 m3)
else
X12_start_58 l0 l1 l2 l3 0 l0 m3
def X12_start_0 (l0 l1 l2 l3 : Int) (m : Mem) : Option R2 :=
cal (X12_isType l1 m) fun v1 m2 =>
if v1 = 0 then (
X12_start_21 l0 l1 l2 l3 0 m2)
else
cal (X12_isIn l2 0 2 m2) fun v5 m6 =>
if v5 = 0 then (
X12_start_21 l0 l1 l2 l3 0 m6)
else
X12_start_21 l0 l1 l2 l3 1 m6
def X12_start (a0 a1 a2 a3 : Int) (m : Mem) : Option R2 := X12_start_0 a0 a1 a2 a3 m
def X12_signal_38 (l0 l1 l2 l3 s0 s1 : Int) (m : Mem) : Option R2 :=
chk9 (0 < s1) <|
cal (X12_isFine s1 s0 m) fun v2 m3 =>
if v2 = 0 then (
some (0, m3))
else
chk9 (0 < l0) <|
cal (X12_happens l0 l1 4 l2 l3 m3) fun v7 m8 =>
if v7 = 0 then (
some (0, m8))
else
some (1, m8)
def X12_signal_0 (l0 l1 l2 l3 : Int) (m : Mem) : Option R2 :=
chk9 (0 < l0) <|
cal (X12_isFlow l0 l1 m) fun v2 m3 =>
if v2 = 0 then (
X12_signal_38 l0 l1 l2 l3 1 l0 m3)
else
cal (X12_isIn l2 0 2 m3) fun v6 m7 =>
if v6 = 0 then (
X12_signal_38 l0 l1 l2 l3 2 l0 m7)
else
cal (X12_isValue l3 m7) fun v10 m11 =>
if v10 = 0 then (
X12_signal_38 l0 l1 l2 l3 2 l0 m11)
else
X12_signal_38 l0 l1 l2 l3 0 l0 m11
def X12_signal (a0 a1 a2 a3 : Int) (m : Mem) : Option R2 := boolR (X12_signal_0 a0 a1 a2 a3 m)
def X12_cancels_54 (l0 l1 l2 : Int) (m : Mem) : Option R2 :=
if l2 = 0 then (
chk9 (0 < l0) <|
cal (X12_happens l0 l1 6 0 0 m) fun v3 m4 =>
if v3 = 0 then (
some (0, m4))
else
some (1, m4))
else
some (0, m)
def X12_cancels_4 (k54 : Int → Int → Int → Mem → Option R2) : Nat → Int → Int → Int → Int → Mem → Option R2
  | 0, _, _, _, _, _ => none
  | n + 1, l0, l1, l2, l3, m => (
chk9 (0 < l0) <|
cal (X12_rowOfRun l0 l1 m) fun v2 m3 =>
chk9 (0 < m l0 18 ∧ 0 ≤ v2 ∧ v2 < 90) <|
if m3 (m l0 18) v2 ≤ l3 then (
k54 l0 l1 l2 m3)
else
if l2 = 0 then (
cal (X12_rowOfRun l0 l1 m3) fun v11 m12 =>
chk9 (iR (80 * v11)) <|
chk9 (iR ((80 * v11) + l3)) <|
chk9 (0 < m3 l0 19 ∧ 0 ≤ ((80 * v11) + l3) ∧ ((80 * v11) + l3) < 7200) <|
if m12 (m3 l0 19) ((80 * v11) + l3) = 6 then (
chk9 (iR (l3 + 1)) <|
X12_cancels_4 k54 n l0 l1 1 (l3 + 1) m12)
else
chk9 (iR (l3 + 1)) <|
X12_cancels_4 k54 n l0 l1 0 (l3 + 1) m12)
else
chk9 (iR (l3 + 1)) <|
X12_cancels_4 k54 n l0 l1 1 (l3 + 1) m3)
def X12_cancels_0 (l0 l1 : Int) (m : Mem) : Option R2 :=
X12_cancels_4 (X12_cancels_54) fuel9 l0 l1 0 0 m
def X12_cancels (a0 a1 : Int) (m : Mem) : Option R2 := boolR (X12_cancels_0 a0 a1 m)
def X12_cancel_14 (l0 l1 s0 s1 : Int) (m : Mem) : Option R2 :=
chk9 (0 < s1) <|
cal (X12_isFine s1 s0 m) fun v2 m3 =>
if v2 = 0 then (
some (0, m3))
else
chk9 (0 < l0) <|
cal (X12_cancels l0 l1 m3) fun v7 m8 =>
if v7 = 0 then (
some (0, m8))
else
some (1, m8)
def X12_cancel_0 (l0 l1 : Int) (m : Mem) : Option R2 :=
chk9 (0 < l0) <|
cal (X12_isFlow l0 l1 m) fun v2 m3 =>
if v2 = 0 then (
X12_cancel_14 l0 l1 1 l0 m3)
else
X12_cancel_14 l0 l1 0 l0 m3
def X12_cancel (a0 a1 : Int) (m : Mem) : Option R2 := boolR (X12_cancel_0 a0 a1 m)
def X12_stepAt_0 (l0 l1 : Int) (m : Mem) : Option R2 :=
chk9 (0 < l0) <|
chk9 (iR (12 * m l0 77)) <|
chk9 (iR ((12 * m l0 77) + l1)) <|
some (((12 * m l0 77) + l1), m)
def X12_stepAt (a0 a1 : Int) (m : Mem) : Option R2 := X12_stepAt_0 a0 a1 m
def X12_begins_0 (l0 l1 : Int) (m : Mem) : Option R2 :=
chk9 (0 < l0) <|
st9 (upd9 m l0 77 l1) fun m2 =>
st9 (upd9 m2 l0 40 0) fun m3 =>
st9 (upd9 m3 l0 41 0) fun m4 =>
st9 (upd9 m4 l0 42 0) fun m5 =>
st9 (upd9 m5 l0 43 0) fun m6 =>
st9 (upd9 m6 l0 44 0) fun m7 =>
st9 (upd9 m7 l0 45 0) fun m8 =>
st9 (upd9 m8 l0 46 0) fun m9 =>
st9 (upd9 m9 l0 47 0) fun m10 =>
st9 (upd9 m10 l0 48 0) fun m11 =>
st9 (upd9 m11 l0 51 0) fun m12 =>
st9 (upd9 m12 l0 52 0) fun m13 =>
st9 (upd9 m13 l0 53 0) fun m14 =>
st9 (upd9 m14 l0 55 0) fun m15 =>
st9 (upd9 m15 l0 68 0) fun m16 =>
st9 (upd9 m16 l0 71 0) fun m17 =>
some (0, m17)
def X12_begins (a0 a1 : Int) (m : Mem) : Option R2 := X12_begins_0 a0 a1 m
def X12_decides_0 (l0 l1 l2 l3 : Int) (m : Mem) : Option R2 :=
chk9 (0 < l0) <|
chk9 (0 < m l0 72 ∧ 0 ≤ m l0 76 ∧ m l0 76 < 5200) <|
st9 (upd9 m (m l0 72) (m l0 76) l1) fun m5 =>
chk9 (0 < m5 l0 73 ∧ 0 ≤ m5 l0 76 ∧ m5 l0 76 < 5200) <|
st9 (upd9 m5 (m5 l0 73) (m5 l0 76) l2) fun m9 =>
chk9 (0 < m9 l0 74 ∧ 0 ≤ m9 l0 76 ∧ m9 l0 76 < 5200) <|
st9 (upd9 m9 (m9 l0 74) (m9 l0 76) l3) fun m13 =>
chk9 (0 < m13 l0 75 ∧ 0 ≤ m13 l0 76 ∧ m13 l0 76 < 5200) <|
st9 (upd9 m13 (m13 l0 75) (m13 l0 76) (m13 l0 41)) fun m17 =>
chk9 (iR (m17 l0 76 + 1)) <|
st9 (upd9 m17 l0 76 (m17 l0 76 + 1)) fun m19 =>
some (0, m19)
def X12_decides (a0 a1 a2 a3 : Int) (m : Mem) : Option R2 := X12_decides_0 a0 a1 a2 a3 m
def X12_ends_0 (l0 l1 l2 : Int) (m : Mem) : Option R2 :=
chk9 (0 < l0) <|
st9 (upd9 m l0 42 2) fun m2 =>
st9 (upd9 m2 l0 49 l1) fun m3 =>
st9 (upd9 m3 l0 50 l2) fun m4 =>
cal (X12_decides l0 16 l1 l2 m4) fun _ m6 =>
some (0, m6)
def X12_ends (a0 a1 a2 : Int) (m : Mem) : Option R2 := X12_ends_0 a0 a1 a2 m
def X12_undoesNext_0 (l0 : Int) (m : Mem) : Option R2 :=
chk9 (0 < l0) <|
if m l0 71 ≤ 0 then (
if m l0 43 = (-1) then (
cal (X12_ends l0 23 0 m) fun _ m8 =>
some (0, m8))
else
cal (X12_ends l0 22 (m l0 43) m) fun _ m5 =>
some (0, m5))
else
chk9 (iR (m l0 71 - 1)) <|
st9 (upd9 m l0 71 (m l0 71 - 1)) fun m11 =>
st9 (upd9 m11 l0 54 (m11 l0 51)) fun m12 =>
chk9 (iR (m12 l0 51 + 1)) <|
st9 (upd9 m12 l0 51 (m12 l0 51 + 1)) fun m14 =>
chk9 (0 < m14 l0 69 ∧ 0 ≤ m14 l0 71 ∧ m14 l0 71 < 5200) <|
chk9 (0 < m14 l0 70 ∧ 0 ≤ m14 l0 71 ∧ m14 l0 71 < 5200) <|
cal (X12_decides l0 15 (m14 (m14 l0 69) (m14 l0 71)) (m14 (m14 l0 70) (m14 l0 71)) m14) fun _ m22 =>
some (0, m22)
def X12_undoesNext (a0 : Int) (m : Mem) : Option R2 := X12_undoesNext_0 a0 m
def X12_fails_0 (l0 l1 : Int) (m : Mem) : Option R2 :=
chk9 (0 < l0) <|
st9 (upd9 m l0 42 1) fun m2 =>
st9 (upd9 m2 l0 43 l1) fun m3 =>
st9 (upd9 m3 l0 55 0) fun m4 =>
cal (X12_undoesNext l0 m4) fun _ m6 =>
some (0, m6)
def X12_fails (a0 a1 : Int) (m : Mem) : Option R2 := X12_fails_0 a0 a1 m
def X12_cuts_127 (l0 : Int) (m : Mem) : Option R2 :=
chk9 (0 < l0) <|
cal (X12_fails l0 (-1) m) fun _ m3 =>
some (0, m3)
def X12_cuts_80 (k70 : Int → Int → Mem → Option R2) : Nat → Int → Int → Int → Mem → Option R2
  | 0, _, _, _, _ => none
  | n + 1, l0, l1, l2, m => (
chk9 (0 < l0) <|
if m l0 55 ≤ l2 then (
chk9 (iR (l1 + 1)) <|
k70 l0 (l1 + 1) m)
else
chk9 (0 < m l0 60 ∧ 0 ≤ l2 ∧ l2 < 3) <|
if m (m l0 60) l2 = 0 then (
chk9 (0 < m l0 59 ∧ 0 ≤ l2 ∧ l2 < 3) <|
if m (m l0 59) l2 = l1 then (
cal (X12_decides l0 11 l1 0 m) fun _ m15 =>
chk9 (iR (l2 + 1)) <|
X12_cuts_80 k70 n l0 l1 (l2 + 1) m15)
else
chk9 (iR (l2 + 1)) <|
X12_cuts_80 k70 n l0 l1 (l2 + 1) m)
else
chk9 (iR (l2 + 1)) <|
X12_cuts_80 k70 n l0 l1 (l2 + 1) m)
def X12_cuts_70 (k127 : Int → Mem → Option R2) : Nat → Int → Int → Mem → Option R2
  | 0, _, _, _ => none
  | n + 1, l0, l1, m => (
chk9 (0 < l0) <|
if m l0 52 ≤ l1 then (
k127 l0 m)
else
X12_cuts_80 (X12_cuts_70 k127 n) fuel9 l0 l1 0 m)
def X12_cuts_12 (k2 : Int → Int → Mem → Option R2) : Nat → Int → Int → Int → Mem → Option R2
  | 0, _, _, _, _ => none
  | n + 1, l0, l1, l2, m => (
chk9 (0 < l0) <|
if m l0 55 ≤ l2 then (
chk9 (iR (l1 + 1)) <|
k2 l0 (l1 + 1) m)
else
chk9 (0 < m l0 56 ∧ 0 ≤ l2 ∧ l2 < 3) <|
if m (m l0 56) l2 = 0 then (
chk9 (0 < m l0 60 ∧ 0 ≤ l2 ∧ l2 < 3) <|
if m (m l0 60) l2 = 0 then (
chk9 (0 < m l0 58 ∧ 0 ≤ l2 ∧ l2 < 3) <|
if m (m l0 58) l2 = l1 then (
cal (X12_decides l0 9 l1 0 m) fun _ m20 =>
chk9 (iR (l2 + 1)) <|
X12_cuts_12 k2 n l0 l1 (l2 + 1) m20)
else
chk9 (iR (l2 + 1)) <|
X12_cuts_12 k2 n l0 l1 (l2 + 1) m)
else
chk9 (iR (l2 + 1)) <|
X12_cuts_12 k2 n l0 l1 (l2 + 1) m)
else
chk9 (iR (l2 + 1)) <|
X12_cuts_12 k2 n l0 l1 (l2 + 1) m)
def X12_cuts_2 (k70 : Int → Int → Mem → Option R2) : Nat → Int → Int → Mem → Option R2
  | 0, _, _, _ => none
  | n + 1, l0, l1, m => (
chk9 (0 < l0) <|
if m l0 51 ≤ l1 then (
k70 l0 0 m)
else
X12_cuts_12 (X12_cuts_2 k70 n) fuel9 l0 l1 0 m)
def X12_cuts_0 (l0 : Int) (m : Mem) : Option R2 :=
X12_cuts_2 (X12_cuts_70 (X12_cuts_127) fuel9) fuel9 l0 0 m
def X12_cuts (a0 : Int) (m : Mem) : Option R2 := X12_cuts_0 a0 m
def X12_untaken_9 : Nat → Int → Int → Int → Int → Mem → Option R2
  | 0, _, _, _, _, _ => none
  | n + 1, l0, l1, l2, l3, m => (
if l3 < 0 then (
some (l2, m))
else
chk9 (0 < l0) <|
chk9 (0 < m l0 65 ∧ 0 ≤ l3 ∧ l3 < 80) <|
if m (m l0 65) l3 = l1 then (
chk9 (0 < m l0 67 ∧ 0 ≤ l3 ∧ l3 < 80) <|
if m (m l0 67) l3 = 0 then (
chk9 (iR (l3 + (-1))) <|
X12_untaken_9 n l0 l1 l3 (l3 + (-1)) m)
else
chk9 (iR (l3 + (-1))) <|
X12_untaken_9 n l0 l1 l2 (l3 + (-1)) m)
else
chk9 (iR (l3 + (-1))) <|
X12_untaken_9 n l0 l1 l2 (l3 + (-1)) m)
def X12_untaken_0 (l0 l1 : Int) (m : Mem) : Option R2 :=
chk9 (0 < l0) <|
chk9 (iR (m l0 68 - 1)) <|
X12_untaken_9 fuel9 l0 l1 (-1) (m l0 68 - 1) m
def X12_untaken (a0 a1 : Int) (m : Mem) : Option R2 := X12_untaken_0 a0 a1 m
def X12_gets_0 (l0 l1 l2 : Int) (m : Mem) : Option R2 :=
chk9 (0 < l0) <|
chk9 (0 < m l0 60 ∧ 0 ≤ l1 ∧ l1 < 3) <|
st9 (upd9 m (m l0 60) l1 1) fun m5 =>
chk9 (0 < m5 l0 62 ∧ 0 ≤ l1 ∧ l1 < 3) <|
st9 (upd9 m5 (m5 l0 62) l1 l2) fun m9 =>
chk9 (0 < m9 l0 63 ∧ 0 ≤ l1 ∧ l1 < 3) <|
st9 (upd9 m9 (m9 l0 63) l1 1) fun m13 =>
some (0, m13)
def X12_gets (a0 a1 a2 : Int) (m : Mem) : Option R2 := X12_gets_0 a0 a1 a2 m
def X12_setsTimer_0 (l0 l1 l2 : Int) (m : Mem) : Option R2 :=
chk9 (0 < l0) <|
chk9 (0 < m l0 59 ∧ 0 ≤ l1 ∧ l1 < 3) <|
st9 (upd9 m (m l0 59) l1 (m l0 52)) fun m5 =>
chk9 (iR (m5 l0 52 + 1)) <|
st9 (upd9 m5 l0 52 (m5 l0 52 + 1)) fun m7 =>
cal (X12_decides l0 10 l2 0 m7) fun _ m9 =>
some (0, m9)
def X12_setsTimer (a0 a1 a2 : Int) (m : Mem) : Option R2 := X12_setsTimer_0 a0 a1 a2 m
def X12_waitsFor_0 (l0 l1 : Int) (m : Mem) : Option R2 :=
chk9 (0 < l0) <|
cal (X12_stepAt l0 l1 m) fun v2 m3 =>
chk9 (iR (m3 l0 55 + 1)) <|
st9 (upd9 m3 l0 55 (m3 l0 55 + 1)) fun m6 =>
chk9 (0 < m6 l0 2 ∧ 0 ≤ v2 ∧ v2 < 180) <|
chk9 (0 < m6 l0 56 ∧ 0 ≤ m l0 55 ∧ m l0 55 < 3) <|
st9 (upd9 m6 (m6 l0 56) (m l0 55) (m6 (m6 l0 2) v2)) fun m13 =>
chk9 (0 < m13 l0 59 ∧ 0 ≤ m l0 55 ∧ m l0 55 < 3) <|
st9 (upd9 m13 (m13 l0 59) (m l0 55) (-1)) fun m17 =>
chk9 (0 < m17 l0 58 ∧ 0 ≤ m l0 55 ∧ m l0 55 < 3) <|
st9 (upd9 m17 (m17 l0 58) (m l0 55) (-1)) fun m21 =>
chk9 (0 < m21 l0 3 ∧ 0 ≤ v2 ∧ v2 < 180) <|
chk9 (0 < m21 l0 57 ∧ 0 ≤ m l0 55 ∧ m l0 55 < 3) <|
st9 (upd9 m21 (m21 l0 57) (m l0 55) (m21 (m21 l0 3) v2)) fun m28 =>
chk9 (0 < m28 l0 60 ∧ 0 ≤ m l0 55 ∧ m l0 55 < 3) <|
st9 (upd9 m28 (m28 l0 60) (m l0 55) 0) fun m32 =>
chk9 (0 < m32 l0 61 ∧ 0 ≤ m l0 55 ∧ m l0 55 < 3) <|
st9 (upd9 m32 (m32 l0 61) (m l0 55) 0) fun m36 =>
chk9 (0 < m36 l0 63 ∧ 0 ≤ m l0 55 ∧ m l0 55 < 3) <|
st9 (upd9 m36 (m36 l0 63) (m l0 55) 0) fun m40 =>
chk9 (0 < m40 l0 2 ∧ 0 ≤ v2 ∧ v2 < 180) <|
if m40 (m40 l0 2) v2 = 0 then (
chk9 (0 < m40 l0 58 ∧ 0 ≤ m l0 55 ∧ m l0 55 < 3) <|
st9 (upd9 m40 (m40 l0 58) (m l0 55) (m40 l0 51)) fun m48 =>
chk9 (iR (m48 l0 51 + 1)) <|
st9 (upd9 m48 l0 51 (m48 l0 51 + 1)) fun m50 =>
chk9 (0 < m50 l0 3 ∧ 0 ≤ v2 ∧ v2 < 180) <|
chk9 (0 < m50 l0 4 ∧ 0 ≤ v2 ∧ v2 < 180) <|
cal (X12_decides l0 8 (m50 (m50 l0 3) v2) (m50 (m50 l0 4) v2) m50) fun _ m58 =>
some (0, m58))
else
if m40 (m40 l0 2) v2 = 1 then (
chk9 (0 < m40 l0 3 ∧ 0 ≤ v2 ∧ v2 < 180) <|
cal (X12_setsTimer l0 (m l0 55) (m40 (m40 l0 3) v2) m40) fun _ m65 =>
some (0, m65))
else
if m40 (m40 l0 2) v2 = 2 then (
chk9 (0 < m40 l0 3 ∧ 0 ≤ v2 ∧ v2 < 180) <|
cal (X12_untaken l0 (m40 (m40 l0 3) v2) m40) fun v71 m72 =>
if v71 = (-1) then (
chk9 (0 < m72 l0 4 ∧ 0 ≤ v2 ∧ v2 < 180) <|
if m72 (m72 l0 4) v2 ≤ 0 then (
some (0, m72))
else
chk9 (0 ≤ v2 ∧ v2 < 180) <|
cal (X12_setsTimer l0 (m l0 55) (m72 (m72 l0 4) v2) m72) fun _ m82 =>
some (0, m82))
else
chk9 (0 < m72 l0 67 ∧ 0 ≤ v71 ∧ v71 < 80) <|
st9 (upd9 m72 (m72 l0 67) v71 1) fun m87 =>
chk9 (0 < m87 l0 66 ∧ 0 ≤ v71 ∧ v71 < 80) <|
cal (X12_gets l0 (m l0 55) (m87 (m87 l0 66) v71) m87) fun _ m92 =>
some (0, m92))
else
if m40 (m40 l0 2) v2 = 3 then (
chk9 (0 < m40 l0 58 ∧ 0 ≤ m l0 55 ∧ m l0 55 < 3) <|
st9 (upd9 m40 (m40 l0 58) (m l0 55) (m40 l0 53)) fun m98 =>
chk9 (iR (m98 l0 53 + 1)) <|
st9 (upd9 m98 l0 53 (m98 l0 53 + 1)) fun m100 =>
chk9 (0 < m100 l0 3 ∧ 0 ≤ v2 ∧ v2 < 180) <|
chk9 (0 < m100 l0 4 ∧ 0 ≤ v2 ∧ v2 < 180) <|
cal (X12_decides l0 12 (m100 (m100 l0 3) v2) (m100 (m100 l0 4) v2) m100) fun _ m108 =>
some (0, m108))
else
chk9 (0 < m40 l0 3 ∧ 0 ≤ v2 ∧ v2 < 180) <|
cal (X12_untaken l0 (m40 (m40 l0 3) v2) m40) fun v113 m114 =>
if v113 = (-1) then (
chk9 (0 < m114 l0 4 ∧ 0 ≤ v2 ∧ v2 < 180) <|
if m114 (m114 l0 4) v2 ≤ 0 then (
some (0, m114))
else
chk9 (0 ≤ v2 ∧ v2 < 180) <|
cal (X12_setsTimer l0 (m l0 55) (m114 (m114 l0 4) v2) m114) fun _ m124 =>
some (0, m124))
else
chk9 (0 < m114 l0 67 ∧ 0 ≤ v113 ∧ v113 < 80) <|
st9 (upd9 m114 (m114 l0 67) v113 1) fun m129 =>
chk9 (0 < m129 l0 66 ∧ 0 ≤ v113 ∧ v113 < 80) <|
cal (X12_gets l0 (m l0 55) (m129 (m129 l0 66) v113) m129) fun _ m134 =>
some (0, m134)
def X12_waitsFor (a0 a1 : Int) (m : Mem) : Option R2 := X12_waitsFor_0 a0 a1 m
def X12_areDone_4 : Nat → Int → Int → Int → Mem → Option R2
  | 0, _, _, _, _ => none
  | n + 1, l0, l1, l2, m => (
chk9 (0 < l0) <|
if m l0 55 ≤ l2 then (
some (l1, m))
else
if l1 = 0 then (
chk9 (iR (l2 + 1)) <|
X12_areDone_4 n l0 0 (l2 + 1) m)
else
chk9 (0 < m l0 60 ∧ 0 ≤ l2 ∧ l2 < 3) <|
if m (m l0 60) l2 = 0 then (
chk9 (iR (l2 + 1)) <|
X12_areDone_4 n l0 0 (l2 + 1) m)
else
chk9 (iR (l2 + 1)) <|
X12_areDone_4 n l0 1 (l2 + 1) m)
def X12_areDone_0 (l0 : Int) (m : Mem) : Option R2 :=
X12_areDone_4 fuel9 l0 1 0 m
def X12_areDone (a0 : Int) (m : Mem) : Option R2 := boolR (X12_areDone_0 a0 m)
def X12_finishes_63 (l0 l1 : Int) (m : Mem) : Option R2 :=
chk9 (0 < l0) <|
st9 (upd9 m l0 55 0) fun m2 =>
st9 (upd9 m2 l0 40 (m2 l0 64)) fun m3 =>
if l1 = 0 then (
some (0, m3))
else
cal (X12_fails l0 1 m3) fun _ m6 =>
some (0, m6)
def X12_finishes_35 (k4 : Int → Int → Int → Mem → Option R2) (l0 l1 l2 s0 s1 : Int) (m : Mem) : Option R2 :=
chk9 (0 < s1) <|
st9 (upd9 m s1 41 s0) fun m2 =>
if l1 = 0 then (
chk9 (0 < l0) <|
chk9 (0 < m2 l0 61 ∧ 0 ≤ l2 ∧ l2 < 3) <|
if m2 (m2 l0 61) l2 = 0 then (
chk9 (iR (l2 + 1)) <|
k4 l0 0 (l2 + 1) m2)
else
chk9 (iR (l2 + 1)) <|
k4 l0 1 (l2 + 1) m2)
else
chk9 (iR (l2 + 1)) <|
k4 l0 1 (l2 + 1) m2
def X12_finishes_4 (k63 : Int → Int → Mem → Option R2) : Nat → Int → Int → Int → Mem → Option R2
  | 0, _, _, _, _ => none
  | n + 1, l0, l1, l2, m => (
chk9 (0 < l0) <|
if m l0 55 ≤ l2 then (
k63 l0 l1 m)
else
chk9 (0 < m l0 63 ∧ 0 ≤ l2 ∧ l2 < 3) <|
if m (m l0 63) l2 = 0 then (
X12_finishes_35 (X12_finishes_4 k63 n) l0 l1 l2 (m l0 41) l0 m)
else
chk9 (0 < m l0 62 ∧ 0 ≤ l2 ∧ l2 < 3) <|
X12_finishes_35 (X12_finishes_4 k63 n) l0 l1 l2 (m (m l0 62) l2) l0 m)
def X12_finishes_0 (l0 : Int) (m : Mem) : Option R2 :=
X12_finishes_4 (X12_finishes_63) fuel9 l0 0 0 m
def X12_finishes (a0 : Int) (m : Mem) : Option R2 := X12_finishes_0 a0 m
def X12_waitsAt_62 (l0 l1 l2 : Int) (m : Mem) : Option R2 :=
chk9 (iR (l1 + l2)) <|
chk9 (iR ((l1 + l2) + 1)) <|
chk9 (0 < l0) <|
st9 (upd9 m l0 64 ((l1 + l2) + 1)) fun m4 =>
cal (X12_areDone l0 m4) fun v5 m6 =>
if v5 = 0 then (
some (0, m6))
else
cal (X12_finishes l0 m6) fun _ m10 =>
some (0, m10)
def X12_waitsAt_44 (k62 : Int → Int → Int → Mem → Option R2) : Nat → Int → Int → Int → Int → Mem → Option R2
  | 0, _, _, _, _, _ => none
  | n + 1, l0, l1, l2, l3, m => (
if l2 < l3 then (
k62 l0 l1 l2 m)
else
chk9 (iR (l1 + l3)) <|
chk9 (0 < l0) <|
cal (X12_waitsFor l0 (l1 + l3) m) fun _ m5 =>
chk9 (iR (l3 + 1)) <|
X12_waitsAt_44 k62 n l0 l1 l2 (l3 + 1) m5)
def X12_waitsAt_28 (l0 l1 s0 : Int) (m : Mem) : Option R2 :=
chk9 (0 < l0) <|
st9 (upd9 m l0 55 0) fun m2 =>
if s0 ≤ 0 then (
X12_waitsAt_44 (X12_waitsAt_62) fuel9 l0 l1 s0 0 m2)
else
X12_waitsAt_44 (X12_waitsAt_62) fuel9 l0 l1 s0 1 m2
def X12_waitsAt_0 (l0 l1 : Int) (m : Mem) : Option R2 :=
chk9 (0 < l0) <|
cal (X12_stepAt l0 l1 m) fun v2 m3 =>
chk9 (0 < m l0 2 ∧ 0 ≤ v2 ∧ v2 < 180) <|
if m3 (m l0 2) v2 = 4 then (
cal (X12_stepAt l0 l1 m3) fun v9 m10 =>
chk9 (0 < m3 l0 3 ∧ 0 ≤ v9 ∧ v9 < 180) <|
X12_waitsAt_28 l0 l1 (m10 (m3 l0 3) v9) m10)
else
X12_waitsAt_28 l0 l1 0 m3
def X12_waitsAt (a0 a1 : Int) (m : Mem) : Option R2 := X12_waitsAt_0 a0 a1 m
def X12_isMarked_65 (l0 l1 s0 : Int) (m : Mem) : Option R2 :=
if s0 = 0 then (
some (s0, m))
else
chk9 (0 < l0) <|
st9 (upd9 m l0 48 ((Int32.ofInt (m l0 48) ||| Int32.ofInt ((Int32.ofInt 1 <<< (Int32.ofInt l1 &&& 31)).toInt)).toInt)) fun m3 =>
cal (X12_decides l0 13 l1 0 m3) fun _ m5 =>
some (s0, m5)
def X12_isMarked_0 (l0 l1 : Int) (m : Mem) : Option R2 :=
chk9 (0 < l0) <|
if (Int32.ofInt ((Int32.ofInt (m l0 48) >>> (Int32.ofInt l1 &&& 31)).toInt) &&& Int32.ofInt 1).toInt = 1 then (
some (1, m))
else
chk9 (iR (m l0 78 + m l0 76)) <|
if m l0 80 = 0 then (
if m l0 79 ≤ (m l0 78 + m l0 76) then (
X12_isMarked_65 l0 l1 0 m)
else
chk9 (0 < m l0 19 ∧ 0 ≤ (m l0 78 + m l0 76) ∧ (m l0 78 + m l0 76) < 7200) <|
if m (m l0 19) (m l0 78 + m l0 76) = 13 then (
chk9 (0 < m l0 20 ∧ 0 ≤ (m l0 78 + m l0 76) ∧ (m l0 78 + m l0 76) < 7200) <|
if m (m l0 20) (m l0 78 + m l0 76) = l1 then (
X12_isMarked_65 l0 l1 1 m)
else
X12_isMarked_65 l0 l1 0 m)
else
X12_isMarked_65 l0 l1 0 m)
else
X12_isMarked_65 l0 l1 1 m
def X12_isMarked (a0 a1 : Int) (m : Mem) : Option R2 := boolR (X12_isMarked_0 a0 a1 m)
def X12_held_0 (l0 : Int) (m : Mem) : Option R2 :=
if l0 ≤ 999 then (
if (-999) ≤ l0 then (
some (l0, m))
else
some ((-999), m))
else
some (999, m)
def X12_held (a0 : Int) (m : Mem) : Option R2 := X12_held_0 a0 m
def X12_againOrFails_0 (l0 : Int) (m : Mem) : Option R2 :=
chk9 (0 < l0) <|
if m l0 83 = 9 then (
cal (X12_fails l0 7 m) fun _ m7 =>
some (0, m7))
else
cal (X12_ends l0 14 (m l0 41) m) fun _ m4 =>
some (0, m4)
def X12_againOrFails (a0 : Int) (m : Mem) : Option R2 := X12_againOrFails_0 a0 m
def X12_passes_324 (s0 s1 s2 s3 : Int) (m : Mem) : Option R2 :=
chk9 (0 < s3) <|
cal (X12_decides s3 s2 s1 s0 m) fun _ m3 =>
some (0, m3)
def X12_passes_0 (l0 l1 : Int) (m : Mem) : Option R2 :=
chk9 (0 < l0) <|
cal (X12_stepAt l0 l1 m) fun v2 m3 =>
chk9 (iR (l1 + 1)) <|
st9 (upd9 m3 l0 40 (l1 + 1)) fun m6 =>
chk9 (0 < m6 l0 2 ∧ 0 ≤ v2 ∧ v2 < 180) <|
if m6 (m6 l0 2) v2 = 5 then (
chk9 (0 < m6 l0 3 ∧ 0 ≤ v2 ∧ v2 < 180) <|
if m6 (m6 l0 3) v2 ≤ m6 l0 41 then (
chk9 (iR (m6 l0 40 + 0)) <|
st9 (upd9 m6 l0 40 (m6 l0 40 + 0)) fun m16 =>
some (0, m16))
else
chk9 (0 < m6 l0 4 ∧ 0 ≤ v2 ∧ v2 < 180) <|
chk9 (iR (m6 l0 40 + m6 (m6 l0 4) v2)) <|
st9 (upd9 m6 l0 40 (m6 l0 40 + m6 (m6 l0 4) v2)) fun m21 =>
some (0, m21))
else
if m6 (m6 l0 2) v2 = 6 then (
chk9 (0 < m6 l0 3 ∧ 0 ≤ v2 ∧ v2 < 180) <|
if m6 (m6 l0 3) v2 ≤ m6 l0 41 then (
st9 (upd9 m6 l0 40 (m6 l0 40)) fun m27 =>
some (0, m27))
else
chk9 (0 < m6 l0 4 ∧ 0 ≤ v2 ∧ v2 < 180) <|
chk9 (iR (l1 - m6 (m6 l0 4) v2)) <|
st9 (upd9 m6 l0 40 (l1 - m6 (m6 l0 4) v2)) fun m32 =>
some (0, m32))
else
if m6 (m6 l0 2) v2 = 7 then (
chk9 (0 < m6 l0 3 ∧ 0 ≤ v2 ∧ v2 < 180) <|
st9 (upd9 m6 l0 41 (m6 (m6 l0 3) v2)) fun m37 =>
some (0, m37))
else
if m6 (m6 l0 2) v2 = 8 then (
chk9 (0 < m6 l0 3 ∧ 0 ≤ v2 ∧ v2 < 180) <|
chk9 (iR (m6 l0 41 + m6 (m6 l0 3) v2)) <|
cal (X12_held (m6 l0 41 + m6 (m6 l0 3) v2) m6) fun v43 m44 =>
st9 (upd9 m44 l0 41 v43) fun m46 =>
some (0, m46))
else
if m6 (m6 l0 2) v2 = 9 then (
chk9 (0 < m6 l0 3 ∧ 0 ≤ v2 ∧ v2 < 180) <|
chk9 (0 < m6 l0 69 ∧ 0 ≤ m6 l0 71 ∧ m6 l0 71 < 5200) <|
st9 (upd9 m6 (m6 l0 69) (m6 l0 71) (m6 (m6 l0 3) v2)) fun m54 =>
chk9 (0 < m54 l0 4 ∧ 0 ≤ v2 ∧ v2 < 180) <|
chk9 (0 < m54 l0 70 ∧ 0 ≤ m54 l0 71 ∧ m54 l0 71 < 5200) <|
st9 (upd9 m54 (m54 l0 70) (m54 l0 71) (m54 (m54 l0 4) v2)) fun m61 =>
chk9 (iR (m61 l0 71 + 1)) <|
st9 (upd9 m61 l0 71 (m61 l0 71 + 1)) fun m63 =>
some (0, m63))
else
if m6 (m6 l0 2) v2 = 10 then (
chk9 (0 < m6 l0 3 ∧ 0 ≤ v2 ∧ v2 < 180) <|
cal (X12_isMarked l0 (m6 (m6 l0 3) v2) m6) fun v68 m69 =>
if v68 = 0 then (
chk9 (0 < m69 l0 4 ∧ 0 ≤ v2 ∧ v2 < 180) <|
chk9 (iR (m6 l0 40 + m69 (m69 l0 4) v2)) <|
st9 (upd9 m69 l0 40 (m6 l0 40 + m69 (m69 l0 4) v2)) fun m76 =>
some (0, m76))
else
chk9 (iR (m6 l0 40 + 0)) <|
st9 (upd9 m69 l0 40 (m6 l0 40 + 0)) fun m78 =>
some (0, m78))
else
if m6 (m6 l0 2) v2 = 11 then (
chk9 (0 < m6 l0 3 ∧ 0 ≤ v2 ∧ v2 < 180) <|
if m6 (m6 l0 3) v2 ≤ m6 l0 45 then (
st9 (upd9 m6 l0 45 (m6 l0 45)) fun m84 =>
some (0, m84))
else
chk9 (0 ≤ v2 ∧ v2 < 180) <|
st9 (upd9 m6 l0 45 (m6 (m6 l0 3) v2)) fun m87 =>
some (0, m87))
else
if m6 (m6 l0 2) v2 = 12 then (
chk9 (0 < m6 l0 3 ∧ 0 ≤ v2 ∧ v2 < 180) <|
chk9 (0 < m6 l0 4 ∧ 0 ≤ v2 ∧ v2 < 180) <|
if m6 (m6 l0 4) v2 = 100 then (
X12_passes_324 (m6 l0 41) (m6 (m6 l0 3) v2) 14 l0 m6)
else
chk9 (0 ≤ v2 ∧ v2 < 180) <|
X12_passes_324 (m6 (m6 l0 4) v2) (m6 (m6 l0 3) v2) 14 l0 m6)
else
if m6 (m6 l0 2) v2 = 13 then (
chk9 (0 < m6 l0 3 ∧ 0 ≤ v2 ∧ v2 < 180) <|
cal (X12_fails l0 (m6 (m6 l0 3) v2) m6) fun _ m103 =>
some (0, m103))
else
if m6 (m6 l0 2) v2 = 14 then (
cal (X12_againOrFails l0 m6) fun _ m107 =>
some (0, m107))
else
if m6 (m6 l0 2) v2 = 15 then (
cal (X12_ends l0 21 (m6 l0 41) m6) fun _ m111 =>
some (0, m111))
else
st9 (upd9 m6 l0 40 l1) fun m113 =>
cal (X12_waitsAt l0 l1 m113) fun _ m115 =>
some (0, m115)
def X12_passes (a0 a1 : Int) (m : Mem) : Option R2 := X12_passes_0 a0 a1 m
def X12_goesOn_126 (k0 : Int → Mem → Option R2) (l0 s0 s1 s2 : Int) (m : Mem) : Option R2 :=
chk9 (iR (s1 - s0)) <|
chk9 (0 < s2) <|
st9 (upd9 m s2 45 (s1 - s0)) fun m3 =>
chk9 (0 < l0) <|
cal (X12_passes l0 (m3 l0 40) m3) fun _ m6 =>
k0 l0 m6
def X12_goesOn_106 (k0 : Int → Mem → Option R2) (l0 s0 s1 : Int) (m : Mem) : Option R2 :=
chk9 (0 < s1 ∧ (s0 = 0 ∨ s0 = 1)) <|
st9 (upd9 m s1 46 s0) fun m3 =>
chk9 (0 < l0) <|
if m3 l0 46 = 0 then (
X12_goesOn_126 k0 l0 0 (m3 l0 45) l0 m3)
else
X12_goesOn_126 k0 l0 1 (m3 l0 45) l0 m3
def X12_goesOn_36 (k0 : Int → Mem → Option R2) (l0 : Int) (m : Mem) : Option R2 :=
chk9 (0 < l0) <|
chk9 (0 < m l0 5 ∧ 0 ≤ m l0 77 ∧ m l0 77 < 15) <|
if m l0 40 = m (m l0 5) (m l0 77) then (
cal (X12_ends l0 21 (m l0 41) m) fun _ m14 =>
k0 l0 m14)
else
if m l0 44 = 60 then (
cal (X12_fails l0 9 m) fun _ m11 =>
k0 l0 m11)
else
chk9 (iR (m l0 44 + 1)) <|
st9 (upd9 m l0 44 (m l0 44 + 1)) fun m8 =>
if m8 l0 45 ≤ 0 then (
X12_goesOn_106 k0 l0 0 l0 m8)
else
X12_goesOn_106 k0 l0 1 l0 m8
def X12_goesOn_0 : Nat → Int → Mem → Option R2
  | 0, _, _ => none
  | n + 1, l0, m => (
chk9 (0 < l0) <|
if m l0 42 = 0 then (
if m l0 55 = 0 then (
if m l0 47 = 0 then (
X12_goesOn_36 (X12_goesOn_0 n) l0 m)
else
if m l0 45 = 0 then (
cal (X12_fails l0 (-1) m) fun _ m7 =>
X12_goesOn_0 n l0 m7)
else
X12_goesOn_36 (X12_goesOn_0 n) l0 m)
else
some (0, m))
else
some (0, m))
def X12_goesOn (a0 : Int) (m : Mem) : Option R2 := X12_goesOn_0 fuel9 a0 m
def X12_waiting_5 : Nat → Int → Int → Int → Int → Int → Mem → Option R2
  | 0, _, _, _, _, _, _ => none
  | n + 1, l0, l1, l2, l3, l4, m => (
chk9 (0 < l0) <|
if m l0 55 ≤ l4 then (
some (l3, m))
else
chk9 (0 < m l0 56 ∧ 0 ≤ l4 ∧ l4 < 3) <|
if m (m l0 56) l4 = l1 then (
chk9 (0 < m l0 58 ∧ 0 ≤ l4 ∧ l4 < 3) <|
if m (m l0 58) l4 = l2 then (
chk9 (0 < m l0 60 ∧ 0 ≤ l4 ∧ l4 < 3) <|
if m (m l0 60) l4 = 0 then (
chk9 (iR (l4 + 1)) <|
X12_waiting_5 n l0 l1 l2 l4 (l4 + 1) m)
else
chk9 (iR (l4 + 1)) <|
X12_waiting_5 n l0 l1 l2 l3 (l4 + 1) m)
else
chk9 (iR (l4 + 1)) <|
X12_waiting_5 n l0 l1 l2 l3 (l4 + 1) m)
else
chk9 (iR (l4 + 1)) <|
X12_waiting_5 n l0 l1 l2 l3 (l4 + 1) m)
def X12_waiting_0 (l0 l1 l2 : Int) (m : Mem) : Option R2 :=
X12_waiting_5 fuel9 l0 l1 l2 (-1) 0 m
def X12_waiting (a0 a1 a2 : Int) (m : Mem) : Option R2 := X12_waiting_0 a0 a1 a2 m
def X12_waitingTimer_4 : Nat → Int → Int → Int → Int → Mem → Option R2
  | 0, _, _, _, _, _ => none
  | n + 1, l0, l1, l2, l3, m => (
chk9 (0 < l0) <|
if m l0 55 ≤ l3 then (
some (l2, m))
else
chk9 (0 < m l0 59 ∧ 0 ≤ l3 ∧ l3 < 3) <|
if m (m l0 59) l3 = l1 then (
chk9 (0 < m l0 60 ∧ 0 ≤ l3 ∧ l3 < 3) <|
if m (m l0 60) l3 = 0 then (
chk9 (iR (l3 + 1)) <|
X12_waitingTimer_4 n l0 l1 l3 (l3 + 1) m)
else
chk9 (iR (l3 + 1)) <|
X12_waitingTimer_4 n l0 l1 l2 (l3 + 1) m)
else
chk9 (iR (l3 + 1)) <|
X12_waitingTimer_4 n l0 l1 l2 (l3 + 1) m)
def X12_waitingTimer_0 (l0 l1 : Int) (m : Mem) : Option R2 :=
X12_waitingTimer_4 fuel9 l0 l1 (-1) 0 m
def X12_waitingTimer (a0 a1 : Int) (m : Mem) : Option R2 := X12_waitingTimer_0 a0 a1 m
def X12_waitingSignal_9 : Nat → Int → Int → Int → Int → Mem → Option R2
  | 0, _, _, _, _, _ => none
  | n + 1, l0, l1, l2, l3, m => (
if l3 < 0 then (
some (l2, m))
else
chk9 (0 < l0) <|
chk9 (0 < m l0 56 ∧ 0 ≤ l3 ∧ l3 < 3) <|
if m (m l0 56) l3 = 2 then (
chk9 (0 < m l0 57 ∧ 0 ≤ l3 ∧ l3 < 3) <|
if m (m l0 57) l3 = l1 then (
chk9 (0 < m l0 60 ∧ 0 ≤ l3 ∧ l3 < 3) <|
if m (m l0 60) l3 = 0 then (
chk9 (iR (l3 + (-1))) <|
X12_waitingSignal_9 n l0 l1 l3 (l3 + (-1)) m)
else
chk9 (iR (l3 + (-1))) <|
X12_waitingSignal_9 n l0 l1 l2 (l3 + (-1)) m)
else
chk9 (iR (l3 + (-1))) <|
X12_waitingSignal_9 n l0 l1 l2 (l3 + (-1)) m)
else
chk9 (iR (l3 + (-1))) <|
X12_waitingSignal_9 n l0 l1 l2 (l3 + (-1)) m)
def X12_waitingSignal_0 (l0 l1 : Int) (m : Mem) : Option R2 :=
chk9 (0 < l0) <|
chk9 (iR (m l0 55 - 1)) <|
X12_waitingSignal_9 fuel9 l0 l1 (-1) (m l0 55 - 1) m
def X12_waitingSignal (a0 a1 : Int) (m : Mem) : Option R2 := X12_waitingSignal_0 a0 a1 m
def X12_takesSignal_97 (l0 l2 l3 : Int) (m : Mem) : Option R2 :=
chk9 (0 < l0) <|
cal (X12_gets l0 l3 l2 m) fun _ m3 =>
some (0, m3)
def X12_takesSignal_56 (l0 l2 s0 : Int) (m : Mem) : Option R2 :=
if s0 = (-1) then (
some (0, m))
else
chk9 (0 < l0) <|
chk9 (iR (m l0 68 - 1)) <|
chk9 (0 < m l0 67 ∧ 0 ≤ (m l0 68 - 1) ∧ (m l0 68 - 1) < 80) <|
st9 (upd9 m (m l0 67) (m l0 68 - 1) 1) fun m7 =>
chk9 (0 < m7 l0 59 ∧ 0 ≤ s0 ∧ s0 < 3) <|
if m7 (m7 l0 59) s0 = (-1) then (
X12_takesSignal_97 l0 l2 s0 m7)
else
chk9 (0 ≤ s0 ∧ s0 < 3) <|
cal (X12_decides l0 11 (m7 (m7 l0 59) s0) 0 m7) fun _ m15 =>
X12_takesSignal_97 l0 l2 s0 m15
def X12_takesSignal_0 (l0 l1 l2 : Int) (m : Mem) : Option R2 :=
chk9 (0 < l0) <|
chk9 (0 < m l0 65 ∧ 0 ≤ m l0 68 ∧ m l0 68 < 80) <|
st9 (upd9 m (m l0 65) (m l0 68) l1) fun m5 =>
chk9 (0 < m5 l0 66 ∧ 0 ≤ m5 l0 68 ∧ m5 l0 68 < 80) <|
st9 (upd9 m5 (m5 l0 66) (m5 l0 68) l2) fun m9 =>
chk9 (0 < m9 l0 67 ∧ 0 ≤ m9 l0 68 ∧ m9 l0 68 < 80) <|
st9 (upd9 m9 (m9 l0 67) (m9 l0 68) 0) fun m13 =>
chk9 (iR (m13 l0 68 + 1)) <|
st9 (upd9 m13 l0 68 (m13 l0 68 + 1)) fun m15 =>
if m15 l0 42 = 0 then (
cal (X12_waitingSignal l0 l1 m15) fun v17 m18 =>
X12_takesSignal_56 l0 l2 v17 m18)
else
X12_takesSignal_56 l0 l2 (-1) m15
def X12_takesSignal (a0 a1 a2 : Int) (m : Mem) : Option R2 := X12_takesSignal_0 a0 a1 a2 m
def X12_takesOver_28 (l0 l1 l3 s0 : Int) (m : Mem) : Option R2 :=
if s0 = (-1) then (
some (0, m))
else
if l1 = 2 then (
chk9 (0 < l0) <|
chk9 (0 < m l0 60 ∧ 0 ≤ s0 ∧ s0 < 3) <|
st9 (upd9 m (m l0 60) s0 1) fun m24 =>
chk9 (0 < m24 l0 61 ∧ 0 ≤ s0 ∧ s0 < 3) <|
st9 (upd9 m24 (m24 l0 61) s0 1) fun m28 =>
some (0, m28))
else
if l1 = 3 then (
chk9 (0 < l0) <|
chk9 (0 < m l0 56 ∧ 0 ≤ s0 ∧ s0 < 3) <|
if m (m l0 56) s0 = 2 then (
cal (X12_gets l0 s0 (-1) m) fun _ m14 =>
some (0, m14))
else
chk9 (0 < m l0 60 ∧ 0 ≤ s0 ∧ s0 < 3) <|
st9 (upd9 m (m l0 60) s0 1) fun m12 =>
some (0, m12))
else
chk9 (0 < l0) <|
cal (X12_gets l0 s0 l3 m) fun _ m18 =>
some (0, m18)
def X12_takesOver_24 (l0 l1 l2 l3 s0 s1 : Int) (m : Mem) : Option R2 :=
chk9 (0 < s1) <|
cal (X12_waiting s1 s0 l2 m) fun v2 m3 =>
X12_takesOver_28 l0 l1 l3 v2 m3
def X12_takesOver_0 (l0 l1 l2 l3 : Int) (m : Mem) : Option R2 :=
if l1 = 3 then (
chk9 (0 < l0) <|
cal (X12_waitingTimer l0 l2 m) fun v4 m5 =>
X12_takesOver_28 l0 l1 l3 v4 m5)
else
if l1 = 5 then (
X12_takesOver_24 l0 l1 l2 l3 3 l0 m)
else
X12_takesOver_24 l0 l1 l2 l3 0 l0 m
def X12_takesOver (a0 a1 a2 a3 : Int) (m : Mem) : Option R2 := X12_takesOver_0 a0 a1 a2 a3 m
def X12_takes_142 (l0 : Int) (m : Mem) : Option R2 :=
chk9 (0 < l0) <|
cal (X12_goesOn l0 m) fun _ m3 =>
some (0, m3)
def X12_takes_117 (l0 : Int) (m : Mem) : Option R2 :=
chk9 (0 < l0) <|
if m l0 42 = 0 then (
if m l0 55 ≤ 0 then (
X12_takes_142 l0 m)
else
cal (X12_areDone l0 m) fun v4 m5 =>
if v4 = 0 then (
X12_takes_142 l0 m5)
else
cal (X12_finishes l0 m5) fun _ m9 =>
X12_takes_142 l0 m9)
else
X12_takes_142 l0 m
def X12_takes_103 (l0 l1 l2 l3 : Int) (m : Mem) : Option R2 :=
chk9 (0 < l0) <|
if m l0 42 = 0 then (
cal (X12_takesOver l0 l1 l2 l3 m) fun _ m4 =>
X12_takes_117 l0 m4)
else
X12_takes_117 l0 m
def X12_takes_88 (l0 l1 l2 l3 : Int) (m : Mem) : Option R2 :=
chk9 (0 < l0) <|
if l2 = m l0 54 then (
cal (X12_undoesNext l0 m) fun _ m4 =>
X12_takes_117 l0 m4)
else
X12_takes_103 l0 l1 l2 l3 m
def X12_takes_0 (l0 l1 l2 l3 : Int) (m : Mem) : Option R2 :=
chk9 (0 < l0) <|
st9 (upd9 m l0 44 0) fun m2 =>
if l1 = 0 then (
st9 (upd9 m2 l0 41 l2) fun m19 =>
X12_takes_117 l0 m19)
else
if l1 = 4 then (
cal (X12_takesSignal l0 l2 l3 m2) fun _ m17 =>
X12_takes_117 l0 m17)
else
if l1 = 6 then (
st9 (upd9 m2 l0 47 1) fun m9 =>
if m9 l0 42 = 0 then (
if m9 l0 55 ≤ 0 then (
X12_takes_117 l0 m9)
else
if m9 l0 46 = 0 then (
cal (X12_cuts l0 m9) fun _ m14 =>
X12_takes_117 l0 m14)
else
X12_takes_117 l0 m9)
else
X12_takes_117 l0 m9)
else
if m2 l0 42 = 1 then (
if l1 = 1 then (
X12_takes_88 l0 l1 l2 l3 m2)
else
if l1 = 2 then (
X12_takes_88 l0 l1 l2 l3 m2)
else
X12_takes_103 l0 l1 l2 l3 m2)
else
X12_takes_103 l0 l1 l2 l3 m2
def X12_takes (a0 a1 a2 a3 : Int) (m : Mem) : Option R2 := X12_takes_0 a0 a1 a2 a3 m
def X12_takesAll_7 : Nat → Int → Int → Int → Mem → Option R2
  | 0, _, _, _, _ => none
  | n + 1, l0, l2, l3, m => (
if l2 ≤ l3 then (
some (0, m))
else
chk9 (0 < l0) <|
chk9 (0 < m l0 19 ∧ 0 ≤ l3 ∧ l3 < 7200) <|
if 7 ≤ m (m l0 19) l3 then (
chk9 (iR (l3 + 1)) <|
X12_takesAll_7 n l0 l2 (l3 + 1) m)
else
chk9 (0 ≤ l3 ∧ l3 < 7200) <|
chk9 (0 < m l0 20 ∧ 0 ≤ l3 ∧ l3 < 7200) <|
chk9 (0 < m l0 21 ∧ 0 ≤ l3 ∧ l3 < 7200) <|
cal (X12_takes l0 (m (m l0 19) l3) (m (m l0 20) l3) (m (m l0 21) l3) m) fun _ m17 =>
chk9 (iR (l3 + 1)) <|
X12_takesAll_7 n l0 l2 (l3 + 1) m17)
def X12_takesAll_0 (l0 l1 l2 : Int) (m : Mem) : Option R2 :=
chk9 (0 < l0) <|
st9 (upd9 m l0 76 0) fun m2 =>
X12_takesAll_7 fuel9 l0 l2 l1 m2
def X12_takesAll (a0 a1 a2 : Int) (m : Mem) : Option R2 := X12_takesAll_0 a0 a1 a2 m
def X12_endOf_4 : Nat → Int → Int → Int → Mem → Option R2
  | 0, _, _, _, _ => none
  | n + 1, l0, l2, l3, m => (
if l2 ≤ l3 then (
some (l3, m))
else
chk9 (0 < l0) <|
chk9 (0 < m l0 19 ∧ 0 ≤ l3 ∧ l3 < 7200) <|
if m (m l0 19) l3 ≤ 7 then (
some (l3, m))
else
chk9 (iR (l3 + 1)) <|
X12_endOf_4 n l0 l2 (l3 + 1) m)
def X12_endOf_0 (l0 l1 l2 : Int) (m : Mem) : Option R2 :=
chk9 (iR (l1 + 1)) <|
X12_endOf_4 fuel9 l0 l2 (l1 + 1) m
def X12_endOf (a0 a1 a2 : Int) (m : Mem) : Option R2 := X12_endOf_0 a0 a1 a2 m
def X12_isAsTold_24 : Nat → Int → Int → Int → Mem → Option R2
  | 0, _, _, _, _ => none
  | n + 1, l0, l1, l2, m => (
chk9 (0 < l0) <|
if m l0 76 ≤ l2 then (
some (l1, m))
else
if l1 = 0 then (
some (l1, m))
else
chk9 (0 < m l0 72 ∧ 0 ≤ l2 ∧ l2 < 5200) <|
chk9 (iR (m l0 78 + l2)) <|
chk9 (0 < m l0 19 ∧ 0 ≤ (m l0 78 + l2) ∧ (m l0 78 + l2) < 7200) <|
if m (m l0 72) l2 = m (m l0 19) (m l0 78 + l2) then (
chk9 (0 < m l0 73 ∧ 0 ≤ l2 ∧ l2 < 5200) <|
chk9 (iR (m l0 78 + l2)) <|
chk9 (0 < m l0 20 ∧ 0 ≤ (m l0 78 + l2) ∧ (m l0 78 + l2) < 7200) <|
if m (m l0 73) l2 = m (m l0 20) (m l0 78 + l2) then (
chk9 (0 < m l0 74 ∧ 0 ≤ l2 ∧ l2 < 5200) <|
chk9 (iR (m l0 78 + l2)) <|
chk9 (0 < m l0 21 ∧ 0 ≤ (m l0 78 + l2) ∧ (m l0 78 + l2) < 7200) <|
if m (m l0 74) l2 = m (m l0 21) (m l0 78 + l2) then (
chk9 (iR (l2 + 1)) <|
X12_isAsTold_24 n l0 1 (l2 + 1) m)
else
chk9 (iR (l2 + 1)) <|
X12_isAsTold_24 n l0 0 (l2 + 1) m)
else
chk9 (iR (l2 + 1)) <|
X12_isAsTold_24 n l0 0 (l2 + 1) m)
else
chk9 (iR (l2 + 1)) <|
X12_isAsTold_24 n l0 0 (l2 + 1) m)
def X12_isAsTold_0 (l0 : Int) (m : Mem) : Option R2 :=
chk9 (0 < l0) <|
chk9 (iR (m l0 79 - m l0 78)) <|
if m l0 76 = (m l0 79 - m l0 78) then (
X12_isAsTold_24 fuel9 l0 1 0 m)
else
X12_isAsTold_24 fuel9 l0 0 0 m
def X12_isAsTold (a0 : Int) (m : Mem) : Option R2 := boolR (X12_isAsTold_0 a0 m)
def X12_plays_58 : Nat → Int → Int → Int → Int → Mem → Option R2
  | 0, _, _, _, _, _ => none
  | n + 1, l0, l4, l5, l6, m => (
if l4 ≤ l6 then (
some (l5, m))
else
chk9 (0 < l0) <|
chk9 (0 < m l0 19 ∧ 0 ≤ l6 ∧ l6 < 7200) <|
if m (m l0 19) l6 = 7 then (
chk9 (iR (l6 + 1)) <|
st9 (upd9 m l0 78 (l6 + 1)) fun m9 =>
cal (X12_endOf l0 l6 l4 m9) fun v10 m11 =>
st9 (upd9 m11 l0 79 v10) fun m13 =>
cal (X12_takesAll l0 l5 l6 m13) fun _ m15 =>
cal (X12_isAsTold l0 m15) fun v17 m18 =>
if v17 = 0 then (
some ((-1), m18))
else
chk9 (iR (l6 + 1)) <|
X12_plays_58 n l0 l4 (m18 l0 79) (l6 + 1) m18)
else
chk9 (iR (l6 + 1)) <|
X12_plays_58 n l0 l4 l5 (l6 + 1) m)
def X12_plays_0 (l0 l1 l2 : Int) (m : Mem) : Option R2 :=
chk9 (0 < l0) <|
cal (X12_rowOfRun l0 l1 m) fun v2 m3 =>
chk9 (iR (80 * v2)) <|
chk9 (0 < m3 l0 18 ∧ 0 ≤ v2 ∧ v2 < 90) <|
chk9 (iR ((80 * v2) + m3 (m3 l0 18) v2)) <|
chk9 (iR (80 * v2)) <|
chk9 (0 < m3 l0 7 ∧ 0 ≤ l1 ∧ l1 < 10) <|
cal (X12_rowOf (m3 (m3 l0 7) l1) l2 m3) fun v14 m15 =>
cal (X12_begins l0 v14 m15) fun _ m18 =>
chk9 (0 < m18 l0 12 ∧ 0 ≤ l1 ∧ l1 < 10) <|
st9 (upd9 m18 l0 83 (m18 (m18 l0 12) l1)) fun m23 =>
st9 (upd9 m23 l0 80 0) fun m24 =>
X12_plays_58 fuel9 l0 ((80 * v2) + m3 (m3 l0 18) v2) (80 * v2) (80 * v2) m24
def X12_plays (a0 a1 a2 : Int) (m : Mem) : Option R2 := X12_plays_0 a0 a1 a2 m
def X12_isAny_11 : Nat → Int → Int → Int → Int → Mem → Option R2
  | 0, _, _, _, _, _ => none
  | n + 1, l0, l2, l3, l4, m => (
chk9 (0 < l0) <|
chk9 (0 < m l0 18 ∧ 0 ≤ l3 ∧ l3 < 90) <|
if m (m l0 18) l3 ≤ l4 then (
some (l2, m))
else
if l2 = 0 then (
chk9 (iR (80 * l3)) <|
chk9 (iR ((80 * l3) + l4)) <|
chk9 (0 < m l0 19 ∧ 0 ≤ ((80 * l3) + l4) ∧ ((80 * l3) + l4) < 7200) <|
if m (m l0 19) ((80 * l3) + l4) = 7 then (
chk9 (iR (l4 + 1)) <|
X12_isAny_11 n l0 1 l3 (l4 + 1) m)
else
chk9 (iR (l4 + 1)) <|
X12_isAny_11 n l0 0 l3 (l4 + 1) m)
else
chk9 (iR (l4 + 1)) <|
X12_isAny_11 n l0 1 l3 (l4 + 1) m)
def X12_isAny_0 (l0 l1 : Int) (m : Mem) : Option R2 :=
chk9 (0 < l0) <|
cal (X12_rowOfRun l0 l1 m) fun v2 m3 =>
X12_isAny_11 fuel9 l0 0 v2 0 m3
def X12_isAny (a0 a1 : Int) (m : Mem) : Option R2 := boolR (X12_isAny_0 a0 a1 m)
def X12_isDueNow_0 (l0 l1 : Int) (m : Mem) : Option R2 :=
chk9 (0 < l0) <|
cal (X12_rowOfRun l0 l1 m) fun v2 m3 =>
cal (X12_isRunning l0 l1 m3) fun v5 m6 =>
if v5 = 0 then (
some (0, m6))
else
chk9 (iR (80 * v2)) <|
chk9 (0 < m6 l0 18 ∧ 0 ≤ v2 ∧ v2 < 90) <|
chk9 (iR ((80 * v2) + m6 (m6 l0 18) v2)) <|
chk9 (iR (((80 * v2) + m6 (m6 l0 18) v2) - 1)) <|
chk9 (0 < m6 l0 19 ∧ 0 ≤ (((80 * v2) + m6 (m6 l0 18) v2) - 1) ∧ (((80 * v2) + m6 (m6 l0 18) v2) - 1) < 7200) <|
if 7 ≤ m6 (m6 l0 19) (((80 * v2) + m6 (m6 l0 18) v2) - 1) then (
some (0, m6))
else
some (1, m6)
def X12_isDueNow (a0 a1 : Int) (m : Mem) : Option R2 := boolR (X12_isDueNow_0 a0 a1 m)
def X12_takesOff_14 : Nat → Int → Int → Int → Int → Mem → Option R2
  | 0, _, _, _, _, _ => none
  | n + 1, l0, l1, l2, l3, m => (
if 4 ≤ l3 then (
some (0, m))
else
chk9 (0 < l0) <|
chk9 (0 < m l0 39 ∧ 0 ≤ l3 ∧ l3 < 4) <|
chk9 (iR (80 * l1)) <|
chk9 (iR ((80 * l1) + l2)) <|
if m (m l0 39) l3 = ((80 * l1) + l2) then (
chk9 (0 ≤ l3 ∧ l3 < 4) <|
st9 (upd9 m (m l0 39) l3 (-1)) fun m17 =>
chk9 (iR (l3 + 1)) <|
X12_takesOff_14 n l0 l1 l2 (l3 + 1) m17)
else
chk9 (0 ≤ l3 ∧ l3 < 4) <|
chk9 (0 ≤ l3 ∧ l3 < 4) <|
st9 (upd9 m (m l0 39) l3 (m (m l0 39) l3)) fun m13 =>
chk9 (iR (l3 + 1)) <|
X12_takesOff_14 n l0 l1 l2 (l3 + 1) m13)
def X12_takesOff_0 (l0 l1 l2 : Int) (m : Mem) : Option R2 :=
chk9 (0 < l0) <|
chk9 (iR (80 * l1)) <|
chk9 (iR ((80 * l1) + l2)) <|
chk9 (0 < m l0 23 ∧ 0 ≤ ((80 * l1) + l2) ∧ ((80 * l1) + l2) < 800) <|
st9 (upd9 m (m l0 23) ((80 * l1) + l2) 0) fun m7 =>
X12_takesOff_14 fuel9 l0 l1 l2 0 m7
def X12_takesOff (a0 a1 a2 : Int) (m : Mem) : Option R2 := X12_takesOff_0 a0 a1 a2 m
def X12_putsActivity_0 (l0 l1 l2 : Int) (m : Mem) : Option R2 :=
chk9 (iR (80 * l1)) <|
chk9 (0 < l0) <|
chk9 (0 < m l0 22 ∧ 0 ≤ l1 ∧ l1 < 10) <|
chk9 (iR ((80 * l1) + m (m l0 22) l1)) <|
chk9 (0 < m l0 23 ∧ 0 ≤ ((80 * l1) + m (m l0 22) l1) ∧ ((80 * l1) + m (m l0 22) l1) < 800) <|
st9 (upd9 m (m l0 23) ((80 * l1) + m (m l0 22) l1) 1) fun m10 =>
chk9 (0 < m10 l0 24 ∧ 0 ≤ ((80 * l1) + m (m l0 22) l1) ∧ ((80 * l1) + m (m l0 22) l1) < 800) <|
st9 (upd9 m10 (m10 l0 24) ((80 * l1) + m (m l0 22) l1) l2) fun m14 =>
chk9 (0 < m14 l0 25 ∧ 0 ≤ ((80 * l1) + m (m l0 22) l1) ∧ ((80 * l1) + m (m l0 22) l1) < 800) <|
st9 (upd9 m14 (m14 l0 25) ((80 * l1) + m (m l0 22) l1) 0) fun m18 =>
chk9 (0 < m18 l0 26 ∧ 0 ≤ ((80 * l1) + m (m l0 22) l1) ∧ ((80 * l1) + m (m l0 22) l1) < 800) <|
st9 (upd9 m18 (m18 l0 26) ((80 * l1) + m (m l0 22) l1) (m18 l0 1)) fun m22 =>
chk9 (0 < m22 l0 28 ∧ 0 ≤ ((80 * l1) + m (m l0 22) l1) ∧ ((80 * l1) + m (m l0 22) l1) < 800) <|
st9 (upd9 m22 (m22 l0 28) ((80 * l1) + m (m l0 22) l1) (m22 l0 29)) fun m26 =>
chk9 (iR (m26 l0 29 + 1)) <|
st9 (upd9 m26 l0 29 (m26 l0 29 + 1)) fun m28 =>
chk9 (0 < m28 l0 22 ∧ 0 ≤ l1 ∧ l1 < 10) <|
chk9 (iR (m28 (m28 l0 22) l1 + 1)) <|
chk9 (0 ≤ l1 ∧ l1 < 10) <|
st9 (upd9 m28 (m28 l0 22) l1 (m28 (m28 l0 22) l1 + 1)) fun m35 =>
some (0, m35)
def X12_putsActivity (a0 a1 a2 : Int) (m : Mem) : Option R2 := X12_putsActivity_0 a0 a1 a2 m
def X12_setsTimer__0 (l0 l1 l2 l3 : Int) (m : Mem) : Option R2 :=
if l3 = 0 then (
chk9 (0 < l0) <|
chk9 (iR (80 * l1)) <|
chk9 (iR ((80 * l1) + l2)) <|
chk9 (0 < m l0 31 ∧ 0 ≤ ((80 * l1) + l2) ∧ ((80 * l1) + l2) < 800) <|
st9 (upd9 m (m l0 31) ((80 * l1) + l2) 0) fun m8 =>
some (0, m8))
else
chk9 (0 < l0) <|
chk9 (iR (80 * l1)) <|
chk9 (0 < m l0 30 ∧ 0 ≤ l1 ∧ l1 < 10) <|
chk9 (iR ((80 * l1) + m (m l0 30) l1)) <|
chk9 (iR (m l0 1 + l2)) <|
chk9 (0 < m l0 31 ∧ 0 ≤ ((80 * l1) + m (m l0 30) l1) ∧ ((80 * l1) + m (m l0 30) l1) < 800) <|
st9 (upd9 m (m l0 31) ((80 * l1) + m (m l0 30) l1) (m l0 1 + l2)) fun m19 =>
chk9 (0 < m19 l0 30 ∧ 0 ≤ l1 ∧ l1 < 10) <|
chk9 (iR (m19 (m19 l0 30) l1 + 1)) <|
chk9 (0 ≤ l1 ∧ l1 < 10) <|
st9 (upd9 m19 (m19 l0 30) l1 (m19 (m19 l0 30) l1 + 1)) fun m26 =>
some (0, m26)
def X12_setsTimer_ (a0 a1 a2 a3 : Int) (m : Mem) : Option R2 := X12_setsTimer__0 a0 a1 a2 a3 m
def X12_makesChild_71 (l0 l1 s0 s1 s2 : Int) (m : Mem) : Option R2 :=
chk9 (0 < s2 ∧ 0 ≤ s1 ∧ s1 < 800) <|
st9 (upd9 m s2 s1 s0) fun m4 =>
chk9 (0 < l0) <|
chk9 (0 < m4 l0 32 ∧ 0 ≤ l1 ∧ l1 < 10) <|
chk9 (iR (m4 (m4 l0 32) l1 + 1)) <|
chk9 (0 ≤ l1 ∧ l1 < 10) <|
st9 (upd9 m4 (m4 l0 32) l1 (m4 (m4 l0 32) l1 + 1)) fun m12 =>
some (0, m12)
def X12_makesChild_0 (l0 l1 l2 : Int) (m : Mem) : Option R2 :=
chk9 (iR (80 * l1)) <|
chk9 (0 < l0) <|
chk9 (0 < m l0 32 ∧ 0 ≤ l1 ∧ l1 < 10) <|
chk9 (iR ((80 * l1) + m (m l0 32) l1)) <|
chk9 (0 < m l0 74 ∧ 0 ≤ l2 ∧ l2 < 5200) <|
chk9 (0 < m l0 34 ∧ 0 ≤ ((80 * l1) + m (m l0 32) l1) ∧ ((80 * l1) + m (m l0 32) l1) < 800) <|
st9 (upd9 m (m l0 34) ((80 * l1) + m (m l0 32) l1) (m (m l0 74) l2)) fun m13 =>
if m13 l0 16 = 10 then (
X12_makesChild_71 l0 l1 (-1) ((80 * l1) + m (m l0 32) l1) (m13 l0 33) m13)
else
chk9 (0 < m13 l0 73 ∧ 0 ≤ l2 ∧ l2 < 5200) <|
chk9 (0 < m13 l0 8 ∧ 0 ≤ l1 ∧ l1 < 10) <|
chk9 (0 < m13 l0 32 ∧ 0 ≤ l1 ∧ l1 < 10) <|
chk9 (0 < m13 l0 75 ∧ 0 ≤ l2 ∧ l2 < 5200) <|
cal (X12_makesFlow l0 (m13 (m13 l0 73) l2) (m13 (m13 l0 8) l1) l1 (m13 (m13 l0 32) l1) (m13 (m13 l0 75) l2) m13) fun v27 m28 =>
X12_makesChild_71 l0 l1 v27 ((80 * l1) + m (m l0 32) l1) (m13 l0 33) m28
def X12_makesChild (a0 a1 a2 : Int) (m : Mem) : Option R2 := X12_makesChild_0 a0 a1 a2 m
def X12_closesOne_116 (k56 : Int → Int → Int → Mem → Option R2) (l0 l1 l2 l3 : Int) (m : Mem) : Option R2 :=
if l3 = (-1) then (
chk9 (iR (l2 + 1)) <|
k56 l0 l1 (l2 + 1) m)
else
chk9 (0 < l0) <|
cal (X12_isRunning l0 l3 m) fun v4 m5 =>
if v4 = 0 then (
chk9 (iR (l2 + 1)) <|
k56 l0 l1 (l2 + 1) m5)
else
chk9 (iR (80 * l1)) <|
chk9 (iR ((80 * l1) + l2)) <|
chk9 (0 < m5 l0 34 ∧ 0 ≤ ((80 * l1) + l2) ∧ ((80 * l1) + l2) < 800) <|
if m5 (m5 l0 34) ((80 * l1) + l2) = 2 then (
cal (X12_rowOfRun l0 l3 m5) fun v16 m17 =>
chk9 (0 < m5 l0 17 ∧ 0 ≤ v16 ∧ v16 < 90) <|
st9 (upd9 m17 (m5 l0 17) v16 24) fun m22 =>
chk9 (0 < m22 l0 15 ∧ 0 ≤ l3 ∧ l3 < 10) <|
st9 (upd9 m22 (m22 l0 15) l3 (-1)) fun m26 =>
chk9 (0 < m26 l0 81 ∧ 0 ≤ m26 l0 82 ∧ m26 l0 82 < 16) <|
st9 (upd9 m26 (m26 l0 81) (m26 l0 82) l3) fun m30 =>
chk9 (iR (m30 l0 82 + 1)) <|
st9 (upd9 m30 l0 82 (m30 l0 82 + 1)) fun m32 =>
chk9 (iR (l2 + 1)) <|
k56 l0 l1 (l2 + 1) m32)
else
chk9 (iR (l2 + 1)) <|
k56 l0 l1 (l2 + 1) m5
def X12_closesOne_56 : Nat → Int → Int → Int → Mem → Option R2
  | 0, _, _, _, _ => none
  | n + 1, l0, l1, l2, m => (
chk9 (0 < l0) <|
chk9 (0 < m l0 32 ∧ 0 ≤ l1 ∧ l1 < 10) <|
if m (m l0 32) l1 ≤ l2 then (
some (0, m))
else
chk9 (iR (80 * l1)) <|
chk9 (iR ((80 * l1) + l2)) <|
chk9 (0 < m l0 33 ∧ 0 ≤ ((80 * l1) + l2) ∧ ((80 * l1) + l2) < 800) <|
if m (m l0 33) ((80 * l1) + l2) = (-1) then (
X12_closesOne_116 (X12_closesOne_56 n) l0 l1 l2 (m (m l0 33) ((80 * l1) + l2)) m)
else
cal (X12_isRunning l0 (m (m l0 33) ((80 * l1) + l2)) m) fun v12 m13 =>
if v12 = 0 then (
X12_closesOne_116 (X12_closesOne_56 n) l0 l1 l2 (m (m l0 33) ((80 * l1) + l2)) m13)
else
chk9 (iR (80 * l1)) <|
chk9 (iR ((80 * l1) + l2)) <|
chk9 (0 < m13 l0 34 ∧ 0 ≤ ((80 * l1) + l2) ∧ ((80 * l1) + l2) < 800) <|
if m13 (m13 l0 34) ((80 * l1) + l2) = 1 then (
cal (X12_cancels l0 (m (m l0 33) ((80 * l1) + l2)) m13) fun v22 m23 =>
chk9 (iR (l2 + 1)) <|
X12_closesOne_56 n l0 l1 (l2 + 1) m23)
else
X12_closesOne_116 (X12_closesOne_56 n) l0 l1 l2 (m (m l0 33) ((80 * l1) + l2)) m13)
def X12_closesOne_26 (k56 : Int → Int → Int → Mem → Option R2) : Nat → Int → Int → Int → Mem → Option R2
  | 0, _, _, _, _ => none
  | n + 1, l0, l1, l2, m => (
chk9 (0 < l0) <|
chk9 (0 < m l0 30 ∧ 0 ≤ l1 ∧ l1 < 10) <|
if m (m l0 30) l1 ≤ l2 then (
k56 l0 l1 0 m)
else
chk9 (iR (80 * l1)) <|
chk9 (iR ((80 * l1) + l2)) <|
chk9 (0 < m l0 31 ∧ 0 ≤ ((80 * l1) + l2) ∧ ((80 * l1) + l2) < 800) <|
st9 (upd9 m (m l0 31) ((80 * l1) + l2) 0) fun m11 =>
chk9 (iR (l2 + 1)) <|
X12_closesOne_26 k56 n l0 l1 (l2 + 1) m11)
def X12_closesOne_2 (k26 : Int → Int → Int → Mem → Option R2) : Nat → Int → Int → Int → Mem → Option R2
  | 0, _, _, _, _ => none
  | n + 1, l0, l1, l2, m => (
chk9 (0 < l0) <|
chk9 (0 < m l0 22 ∧ 0 ≤ l1 ∧ l1 < 10) <|
if m (m l0 22) l1 ≤ l2 then (
k26 l0 l1 0 m)
else
cal (X12_takesOff l0 l1 l2 m) fun _ m7 =>
chk9 (iR (l2 + 1)) <|
X12_closesOne_2 k26 n l0 l1 (l2 + 1) m7)
def X12_closesOne_0 (l0 l1 : Int) (m : Mem) : Option R2 :=
X12_closesOne_2 (X12_closesOne_26 (X12_closesOne_56 fuel9) fuel9) fuel9 l0 l1 0 m
def X12_closesOne (a0 a1 : Int) (m : Mem) : Option R2 := X12_closesOne_0 a0 a1 m
def X12_closes_25 : Nat → Int → Mem → Option R2
  | 0, _, _ => none
  | n + 1, l0, m => (
chk9 (0 < l0) <|
if m l0 82 ≤ 0 then (
some (0, m))
else
chk9 (iR (m l0 82 - 1)) <|
st9 (upd9 m l0 82 (m l0 82 - 1)) fun m4 =>
chk9 (0 < m4 l0 81 ∧ 0 ≤ m4 l0 82 ∧ m4 l0 82 < 16) <|
cal (X12_closesOne l0 (m4 (m4 l0 81) (m4 l0 82)) m4) fun _ m9 =>
X12_closes_25 n l0 m9)
def X12_closes_0 (l0 l1 : Int) (m : Mem) : Option R2 :=
chk9 (0 < l0) <|
st9 (upd9 m l0 82 0) fun m2 =>
chk9 (0 < m2 l0 81 ∧ 0 ≤ m2 l0 82 ∧ m2 l0 82 < 16) <|
st9 (upd9 m2 (m2 l0 81) (m2 l0 82) l1) fun m6 =>
chk9 (iR (m6 l0 82 + 1)) <|
st9 (upd9 m6 l0 82 (m6 l0 82 + 1)) fun m8 =>
X12_closes_25 fuel9 l0 m8
def X12_closes (a0 a1 : Int) (m : Mem) : Option R2 := X12_closes_0 a0 a1 m
def X12_over_94 (l0 l1 : Int) (m : Mem) : Option R2 :=
chk9 (0 < l0) <|
if m l0 47 = 0 then (
some (0, m))
else
cal (X12_happens l0 l1 6 0 0 m) fun v3 m4 =>
if v3 = 0 then (
some (0, m4))
else
some (0, m4)
def X12_over_39 (k94 : Int → Int → Mem → Option R2) : Nat → Int → Int → Int → Mem → Option R2
  | 0, _, _, _, _ => none
  | n + 1, l0, l1, l5, m => (
chk9 (0 < l0) <|
if m l0 68 ≤ l5 then (
k94 l0 l1 m)
else
chk9 (0 < m l0 67 ∧ 0 ≤ l5 ∧ l5 < 80) <|
if m (m l0 67) l5 = 0 then (
chk9 (0 < m l0 65 ∧ 0 ≤ l5 ∧ l5 < 80) <|
chk9 (0 < m l0 66 ∧ 0 ≤ l5 ∧ l5 < 80) <|
cal (X12_happens l0 l1 4 (m (m l0 65) l5) (m (m l0 66) l5) m) fun v14 m15 =>
if v14 = 0 then (
chk9 (iR (l5 + 1)) <|
X12_over_39 k94 n l0 l1 (l5 + 1) m15)
else
chk9 (iR (l5 + 1)) <|
X12_over_39 k94 n l0 l1 (l5 + 1) m15)
else
chk9 (iR (l5 + 1)) <|
X12_over_39 k94 n l0 l1 (l5 + 1) m)
def X12_over_166 (s0 s1 s2 s3 s4 : Int) (m : Mem) : Option R2 :=
chk9 (0 < s4) <|
cal (X12_happens s4 s3 s2 s1 s0 m) fun v2 m3 =>
some (0, m3)
def X12_over_0 (l0 l1 l2 l3 : Int) (m : Mem) : Option R2 :=
chk9 (0 < l0) <|
cal (X12_rowOfRun l0 l1 m) fun v2 m3 =>
chk9 (0 < m l0 17 ∧ 0 ≤ v2 ∧ v2 < 90) <|
st9 (upd9 m3 (m l0 17) v2 l2) fun m8 =>
cal (X12_closes l0 l1 m8) fun _ m10 =>
chk9 (0 < m10 l0 9 ∧ 0 ≤ l1 ∧ l1 < 10) <|
if l2 = 14 then (
cal (X12_beginsRun l0 l1 l3 m10) fun _ m29 =>
X12_over_39 (X12_over_94) fuel9 l0 l1 0 m29)
else
if m10 (m10 l0 9) l1 = (-1) then (
some (0, m10))
else
chk9 (0 < m10 l0 12 ∧ 0 ≤ m10 (m10 l0 9) l1 ∧ m10 (m10 l0 9) l1 < 10) <|
chk9 (0 < m10 l0 10 ∧ 0 ≤ l1 ∧ l1 < 10) <|
if m10 (m10 l0 12) (m10 (m10 l0 9) l1) = m10 (m10 l0 10) l1 then (
chk9 (0 < m10 l0 11 ∧ 0 ≤ l1 ∧ l1 < 10) <|
if l2 = 21 then (
X12_over_166 l3 (m10 (m10 l0 11) l1) 5 (m10 (m10 l0 9) l1) l0 m10)
else
X12_over_166 (-1) (m10 (m10 l0 11) l1) 5 (m10 (m10 l0 9) l1) l0 m10)
else
some (0, m10)
def X12_over (a0 a1 a2 a3 : Int) (m : Mem) : Option R2 := X12_over_0 a0 a1 a2 a3 m
def X12_does_191 : Nat → Int → Int → Int → Mem → Option R2
  | 0, _, _, _, _ => none
  | n + 1, l0, l1, l3, m => (
chk9 (0 < l0) <|
chk9 (0 < m l0 32 ∧ 0 ≤ l1 ∧ l1 < 10) <|
if m (m l0 32) l1 ≤ l3 then (
some (0, m))
else
chk9 (iR (80 * l1)) <|
chk9 (iR ((80 * l1) + l3)) <|
chk9 (0 < m l0 33 ∧ 0 ≤ ((80 * l1) + l3) ∧ ((80 * l1) + l3) < 800) <|
if m (m l0 33) ((80 * l1) + l3) = (-1) then (
cal (X12_happens l0 l1 5 l3 (-1) m) fun v13 m14 =>
if v13 = 0 then (
chk9 (iR (l3 + 1)) <|
X12_does_191 n l0 l1 (l3 + 1) m14)
else
chk9 (iR (l3 + 1)) <|
X12_does_191 n l0 l1 (l3 + 1) m14)
else
chk9 (iR (l3 + 1)) <|
X12_does_191 n l0 l1 (l3 + 1) m)
def X12_does_165 (l0 l1 l2 : Int) (m : Mem) : Option R2 :=
chk9 (0 < l0) <|
if m l0 42 = 2 then (
cal (X12_over l0 l1 (m l0 49) (m l0 50) m) fun _ m4 =>
some (0, m4))
else
X12_does_191 fuel9 l0 l1 l2 m
def X12_does_9 (k165 : Int → Int → Int → Mem → Option R2) : Nat → Int → Int → Int → Int → Mem → Option R2
  | 0, _, _, _, _, _ => none
  | n + 1, l0, l1, l2, l3, m => (
chk9 (0 < l0) <|
if m l0 76 ≤ l3 then (
k165 l0 l1 l2 m)
else
chk9 (0 < m l0 72 ∧ 0 ≤ l3 ∧ l3 < 5200) <|
if m (m l0 72) l3 = 8 then (
chk9 (0 < m l0 74 ∧ 0 ≤ l3 ∧ l3 < 5200) <|
cal (X12_putsActivity l0 l1 (m (m l0 74) l3) m) fun _ m11 =>
chk9 (iR (l3 + 1)) <|
X12_does_9 k165 n l0 l1 l2 (l3 + 1) m11)
else
if m (m l0 72) l3 = 9 then (
chk9 (0 < m l0 73 ∧ 0 ≤ l3 ∧ l3 < 5200) <|
cal (X12_takesOff l0 l1 (m (m l0 73) l3) m) fun _ m19 =>
chk9 (iR (l3 + 1)) <|
X12_does_9 k165 n l0 l1 l2 (l3 + 1) m19)
else
if m (m l0 72) l3 = 10 then (
chk9 (0 < m l0 73 ∧ 0 ≤ l3 ∧ l3 < 5200) <|
cal (X12_setsTimer_ l0 l1 (m (m l0 73) l3) 1 m) fun _ m27 =>
chk9 (iR (l3 + 1)) <|
X12_does_9 k165 n l0 l1 l2 (l3 + 1) m27)
else
if m (m l0 72) l3 = 11 then (
chk9 (0 < m l0 73 ∧ 0 ≤ l3 ∧ l3 < 5200) <|
cal (X12_setsTimer_ l0 l1 (m (m l0 73) l3) 0 m) fun _ m35 =>
chk9 (iR (l3 + 1)) <|
X12_does_9 k165 n l0 l1 l2 (l3 + 1) m35)
else
if m (m l0 72) l3 = 12 then (
cal (X12_makesChild l0 l1 l3 m) fun _ m40 =>
chk9 (iR (l3 + 1)) <|
X12_does_9 k165 n l0 l1 l2 (l3 + 1) m40)
else
if m (m l0 72) l3 = 13 then (
chk9 (iR (l3 + 1)) <|
X12_does_9 k165 n l0 l1 l2 (l3 + 1) m)
else
if m (m l0 72) l3 = 14 then (
chk9 (iR (2 * l1)) <|
chk9 (0 < m l0 73 ∧ 0 ≤ l3 ∧ l3 < 5200) <|
chk9 (iR ((2 * l1) + m (m l0 73) l3)) <|
chk9 (0 < m l0 74 ∧ 0 ≤ l3 ∧ l3 < 5200) <|
chk9 (0 < m l0 13 ∧ 0 ≤ ((2 * l1) + m (m l0 73) l3) ∧ ((2 * l1) + m (m l0 73) l3) < 20) <|
st9 (upd9 m (m l0 13) ((2 * l1) + m (m l0 73) l3) (m (m l0 74) l3)) fun m57 =>
chk9 (iR (l3 + 1)) <|
X12_does_9 k165 n l0 l1 l2 (l3 + 1) m57)
else
if m (m l0 72) l3 = 15 then (
chk9 (0 < m l0 74 ∧ 0 ≤ l3 ∧ l3 < 5200) <|
cal (X12_putsActivity l0 l1 (m (m l0 74) l3) m) fun _ m64 =>
chk9 (iR (l3 + 1)) <|
X12_does_9 k165 n l0 l1 l2 (l3 + 1) m64)
else
chk9 (iR (l3 + 1)) <|
X12_does_9 k165 n l0 l1 l2 (l3 + 1) m)
def X12_does_0 (l0 l1 : Int) (m : Mem) : Option R2 :=
chk9 (0 < l0) <|
chk9 (0 < m l0 32 ∧ 0 ≤ l1 ∧ l1 < 10) <|
X12_does_9 (X12_does_165) fuel9 l0 l1 (m (m l0 32) l1) 0 m
def X12_does (a0 a1 : Int) (m : Mem) : Option R2 := X12_does_0 a0 a1 m
def X12_decide_265 (l0 l1 : Int) (m : Mem) : Option R2 :=
chk9 (0 < l0) <|
cal (X12_does l0 l1 m) fun _ m3 =>
some (m l0 76, m3)
def X12_decide_224 (k265 : Int → Int → Mem → Option R2) : Nat → Int → Int → Int → Mem → Option R2
  | 0, _, _, _, _ => none
  | n + 1, l0, l1, l7, m => (
chk9 (0 < l0) <|
if m l0 76 ≤ l7 then (
k265 l0 l1 m)
else
chk9 (0 < m l0 72 ∧ 0 ≤ l7 ∧ l7 < 5200) <|
chk9 (0 < m l0 73 ∧ 0 ≤ l7 ∧ l7 < 5200) <|
chk9 (0 < m l0 74 ∧ 0 ≤ l7 ∧ l7 < 5200) <|
cal (X12_writes l0 l1 (m (m l0 72) l7) (m (m l0 73) l7) (m (m l0 74) l7) m) fun _ m13 =>
chk9 (iR (l7 + 1)) <|
X12_decide_224 k265 n l0 l1 (l7 + 1) m13)
def X12_decide_211 (l0 l1 l2 s0 s1 s2 : Int) (m : Mem) : Option R2 :=
chk9 (0 < s2 ∧ 0 ≤ s1 ∧ s1 < 10) <|
st9 (upd9 m s2 s1 s0) fun m4 =>
chk9 (0 < l0) <|
cal (X12_writes l0 l1 7 l2 0 m4) fun _ m7 =>
X12_decide_224 (X12_decide_265) fuel9 l0 l1 0 m7
def X12_decide_191 (l0 l1 l2 : Int) (m : Mem) : Option R2 :=
chk9 (0 < l0) <|
if m l0 42 = 0 then (
X12_decide_211 l0 l1 l2 (m l0 40) l1 (m l0 15) m)
else
X12_decide_211 l0 l1 l2 (-1) l1 (m l0 15) m
def X12_decide_158 (l0 l1 l2 s0 : Int) (m : Mem) : Option R2 :=
if s0 = 0 then (
chk9 (0 < l0) <|
chk9 (0 < m l0 14 ∧ 0 ≤ l1 ∧ l1 < 10) <|
st9 (upd9 m (m l0 14) l1 (m l0 41)) fun m6 =>
X12_decide_191 l0 l1 l2 m6)
else
chk9 (0 < l0) <|
st9 (upd9 m l0 76 0) fun m8 =>
cal (X12_ends l0 22 8 m8) fun _ m10 =>
X12_decide_191 l0 l1 l2 m10
def X12_decide_150 (l0 l1 l2 s0 s1 : Int) (m : Mem) : Option R2 :=
if s1 ≤ s0 then (
X12_decide_158 l0 l1 l2 0 m)
else
X12_decide_158 l0 l1 l2 1 m
def X12_decide_55 (l0 l1 l2 s0 s1 : Int) (m : Mem) : Option R2 :=
chk9 (0 < s1) <|
cal (X12_isFine s1 s0 m) fun v2 m3 =>
if v2 = 0 then (
some (0, m3))
else
chk9 (0 < l0) <|
cal (X12_isDueNow l0 l1 m3) fun v7 m8 =>
if v7 = 0 then (
some ((-1), m8))
else
cal (X12_plays l0 l1 l2 m8) fun v11 m12 =>
if v11 = (-1) then (
some ((-2), m12))
else
cal (X12_rowOfRun l0 l1 m12) fun v15 m16 =>
st9 (upd9 m16 l0 80 1) fun m18 =>
chk9 (iR (80 * v15)) <|
chk9 (0 < m18 l0 18 ∧ 0 ≤ v15 ∧ v15 < 90) <|
chk9 (iR ((80 * v15) + m18 (m18 l0 18) v15)) <|
cal (X12_takesAll l0 v11 ((80 * v15) + m18 (m18 l0 18) v15) m18) fun _ m25 =>
chk9 (0 < m25 l0 18 ∧ 0 ≤ v15 ∧ v15 < 90) <|
chk9 (iR (m25 (m25 l0 18) v15 + 1)) <|
chk9 (iR ((m25 (m25 l0 18) v15 + 1) + m25 l0 76)) <|
if m25 l0 42 = 2 then (
X12_decide_150 l0 l1 l2 80 ((m25 (m25 l0 18) v15 + 1) + m25 l0 76) m25)
else
X12_decide_150 l0 l1 l2 77 ((m25 (m25 l0 18) v15 + 1) + m25 l0 76) m25
def X12_decide_32 (l0 l1 l2 s0 : Int) (m : Mem) : Option R2 :=
if s0 = 0 then (
X12_decide_55 l0 l1 l2 1 l0 m)
else
chk9 (0 < l0) <|
cal (X12_isRunning l0 l1 m) fun v3 m4 =>
if v3 = 0 then (
X12_decide_55 l0 l1 l2 2 l0 m4)
else
X12_decide_55 l0 l1 l2 0 l0 m4
def X12_decide_0 (l0 l1 l2 : Int) (m : Mem) : Option R2 :=
chk9 (0 < l0) <|
cal (X12_isFlow l0 l1 m) fun v2 m3 =>
if v2 = 0 then (
X12_decide_32 l0 l1 l2 0 m3)
else
chk9 (0 < m3 l0 7 ∧ 0 ≤ l1 ∧ l1 < 10) <|
chk9 (0 < m3 l0 6 ∧ 0 ≤ m3 (m3 l0 7) l1 ∧ m3 (m3 l0 7) l1 < 3) <|
cal (X12_isIn l2 1 (m3 (m3 l0 6) (m3 (m3 l0 7) l1)) m3) fun v12 m13 =>
if v12 = 0 then (
X12_decide_32 l0 l1 l2 0 m13)
else
X12_decide_32 l0 l1 l2 1 m13
def X12_decide (a0 a1 a2 : Int) (m : Mem) : Option R2 := X12_decide_0 a0 a1 a2 m
def X12_setRate_27 (l0 l1 l2 s0 s1 : Int) (m : Mem) : Option R2 :=
chk9 (0 < s1) <|
cal (X12_isFine s1 s0 m) fun v2 m3 =>
if v2 = 0 then (
some (0, m3))
else
chk9 (0 < l0) <|
chk9 (0 < m3 l0 35 ∧ 0 ≤ l1 ∧ l1 < 2) <|
chk9 (0 ≤ l1 ∧ l1 < 2) <|
st9 (upd9 m3 (m3 l0 35) l1 l2) fun m12 =>
some (m3 (m3 l0 35) l1, m12)
def X12_setRate_0 (l0 l1 l2 : Int) (m : Mem) : Option R2 :=
cal (X12_isQueue l1 m) fun v1 m2 =>
if v1 = 0 then (
X12_setRate_27 l0 l1 l2 1 l0 m2)
else
cal (X12_isIn l2 1 9 m2) fun v5 m6 =>
if v5 = 0 then (
X12_setRate_27 l0 l1 l2 2 l0 m6)
else
X12_setRate_27 l0 l1 l2 0 l0 m6
def X12_setRate (a0 a1 a2 : Int) (m : Mem) : Option R2 := X12_setRate_0 a0 a1 a2 m
def X12_told_0 (l0 l1 : Int) (m : Mem) : Option R2 :=
chk9 (0 ≤ l1) <|
chk9 (iR (1000 * (l1 / 80))) <|
chk9 (0 < l0) <|
chk9 (0 < m l0 12 ∧ 0 ≤ (l1 / 80) ∧ (l1 / 80) < 10) <|
chk9 (iR (100 * m (m l0 12) (l1 / 80))) <|
chk9 (iR ((1000 * (l1 / 80)) + (100 * m (m l0 12) (l1 / 80)))) <|
chk9 (0 ≤ l1) <|
chk9 (iR (((1000 * (l1 / 80)) + (100 * m (m l0 12) (l1 / 80))) + (l1 % 80))) <|
some ((((1000 * (l1 / 80)) + (100 * m (m l0 12) (l1 / 80))) + (l1 % 80)), m)
def X12_told (a0 a1 : Int) (m : Mem) : Option R2 := X12_told_0 a0 a1 m
def X12_isAhead_0 (l0 l1 l2 l3 : Int) (m : Mem) : Option R2 :=
chk9 (0 < l0) <|
chk9 (iR (3 * l3)) <|
chk9 (0 ≤ l1) <|
chk9 (0 < m l0 8 ∧ 0 ≤ (l1 / 80) ∧ (l1 / 80) < 10) <|
chk9 (iR ((3 * l3) + m (m l0 8) (l1 / 80))) <|
chk9 (0 < m l0 37 ∧ 0 ≤ ((3 * l3) + m (m l0 8) (l1 / 80)) ∧ ((3 * l3) + m (m l0 8) (l1 / 80)) < 6) <|
chk9 (iR (3 * l3)) <|
chk9 (0 ≤ l2) <|
chk9 (0 ≤ (l2 / 80) ∧ (l2 / 80) < 10) <|
chk9 (iR ((3 * l3) + m (m l0 8) (l2 / 80))) <|
chk9 (0 ≤ ((3 * l3) + m (m l0 8) (l2 / 80)) ∧ ((3 * l3) + m (m l0 8) (l2 / 80)) < 6) <|
chk9 (0 ≤ l1) <|
chk9 (0 ≤ (l1 / 80) ∧ (l1 / 80) < 10) <|
chk9 (0 ≤ l2) <|
chk9 (0 ≤ (l2 / 80) ∧ (l2 / 80) < 10) <|
if m (m l0 8) (l1 / 80) = m (m l0 8) (l2 / 80) then (
chk9 (0 < m l0 26 ∧ 0 ≤ l1 ∧ l1 < 800) <|
chk9 (0 ≤ l2 ∧ l2 < 800) <|
if m (m l0 26) l1 < m (m l0 26) l2 then (
some (1, m))
else
chk9 (0 ≤ l1 ∧ l1 < 800) <|
chk9 (0 ≤ l2 ∧ l2 < 800) <|
if m (m l0 26) l1 = m (m l0 26) l2 then (
chk9 (0 < m l0 28 ∧ 0 ≤ l1 ∧ l1 < 800) <|
chk9 (0 ≤ l2 ∧ l2 < 800) <|
if m (m l0 28) l2 ≤ m (m l0 28) l1 then (
some (0, m))
else
some (1, m))
else
some (0, m))
else
if m (m l0 37) ((3 * l3) + m (m l0 8) (l1 / 80)) < m (m l0 37) ((3 * l3) + m (m l0 8) (l2 / 80)) then (
some (1, m))
else
if m (m l0 37) ((3 * l3) + m (m l0 8) (l1 / 80)) = m (m l0 37) ((3 * l3) + m (m l0 8) (l2 / 80)) then (
chk9 (0 ≤ l1) <|
chk9 (0 ≤ (l1 / 80) ∧ (l1 / 80) < 10) <|
chk9 (0 ≤ l2) <|
chk9 (0 ≤ (l2 / 80) ∧ (l2 / 80) < 10) <|
if m (m l0 8) (l2 / 80) ≤ m (m l0 8) (l1 / 80) then (
some (0, m))
else
some (1, m))
else
some (0, m)
def X12_isAhead (a0 a1 a2 a3 : Int) (m : Mem) : Option R2 := boolR (X12_isAhead_0 a0 a1 a2 a3 m)
def X12_isReady_0 (l0 l1 l2 : Int) (m : Mem) : Option R2 :=
chk9 (0 ≤ l1) <|
chk9 (0 < l0) <|
chk9 (0 ≤ l1) <|
chk9 (0 < m l0 22 ∧ 0 ≤ (l1 / 80) ∧ (l1 / 80) < 10) <|
if m (m l0 22) (l1 / 80) ≤ (l1 % 80) then (
some (0, m))
else
chk9 (0 < m l0 23 ∧ 0 ≤ l1 ∧ l1 < 800) <|
if m (m l0 23) l1 = 1 then (
chk9 (0 < m l0 24 ∧ 0 ≤ l1 ∧ l1 < 800) <|
if m (m l0 24) l1 = l2 then (
some (1, m))
else
some (0, m))
else
some (0, m)
def X12_isReady (a0 a1 a2 : Int) (m : Mem) : Option R2 := boolR (X12_isReady_0 a0 a1 a2 m)
def X12_next_4 : Nat → Int → Int → Int → Int → Mem → Option R2
  | 0, _, _, _, _, _ => none
  | n + 1, l0, l1, l2, l3, m => (
chk9 (0 < l0) <|
chk9 (iR (80 * m l0 16)) <|
if (80 * m l0 16) ≤ l3 then (
some (l2, m))
else
cal (X12_isReady l0 l3 l1 m) fun v4 m5 =>
if v4 = 0 then (
chk9 (iR (l3 + 1)) <|
X12_next_4 n l0 l1 l2 (l3 + 1) m5)
else
if l2 = (-1) then (
chk9 (iR (l3 + 1)) <|
X12_next_4 n l0 l1 l3 (l3 + 1) m5)
else
cal (X12_isAhead l0 l3 l2 l1 m5) fun v11 m12 =>
if v11 = 0 then (
chk9 (iR (l3 + 1)) <|
X12_next_4 n l0 l1 l2 (l3 + 1) m12)
else
chk9 (iR (l3 + 1)) <|
X12_next_4 n l0 l1 l3 (l3 + 1) m12)
def X12_next_0 (l0 l1 : Int) (m : Mem) : Option R2 :=
X12_next_4 fuel9 l0 l1 (-1) 0 m
def X12_next (a0 a1 : Int) (m : Mem) : Option R2 := X12_next_0 a0 a1 m
def X12_take_85 (l0 l1 l2 s0 : Int) (m : Mem) : Option R2 :=
if s0 = (-1) then (
some ((-1), m))
else
chk9 (0 < l0) <|
chk9 (0 < m l0 36 ∧ 0 ≤ l2 ∧ l2 < 2) <|
chk9 (iR (m (m l0 36) l2 + 1)) <|
chk9 (0 ≤ l2 ∧ l2 < 2) <|
st9 (upd9 m (m l0 36) l2 (m (m l0 36) l2 + 1)) fun m9 =>
chk9 (iR (3 * l2)) <|
chk9 (0 ≤ s0) <|
chk9 (0 < m9 l0 8 ∧ 0 ≤ (s0 / 80) ∧ (s0 / 80) < 10) <|
chk9 (iR ((3 * l2) + m9 (m9 l0 8) (s0 / 80))) <|
chk9 (0 < m9 l0 37 ∧ 0 ≤ ((3 * l2) + m9 (m9 l0 8) (s0 / 80)) ∧ ((3 * l2) + m9 (m9 l0 8) (s0 / 80)) < 6) <|
chk9 (iR (m9 (m9 l0 37) ((3 * l2) + m9 (m9 l0 8) (s0 / 80)) + 1)) <|
chk9 (0 ≤ ((3 * l2) + m9 (m9 l0 8) (s0 / 80)) ∧ ((3 * l2) + m9 (m9 l0 8) (s0 / 80)) < 6) <|
st9 (upd9 m9 (m9 l0 37) ((3 * l2) + m9 (m9 l0 8) (s0 / 80)) (m9 (m9 l0 37) ((3 * l2) + m9 (m9 l0 8) (s0 / 80)) + 1)) fun m22 =>
chk9 (0 < m22 l0 23 ∧ 0 ≤ s0 ∧ s0 < 800) <|
st9 (upd9 m22 (m22 l0 23) s0 2) fun m26 =>
chk9 (0 < m26 l0 25 ∧ 0 ≤ s0 ∧ s0 < 800) <|
chk9 (iR (m26 (m26 l0 25) s0 + 1)) <|
chk9 (0 ≤ s0 ∧ s0 < 800) <|
st9 (upd9 m26 (m26 l0 25) s0 (m26 (m26 l0 25) s0 + 1)) fun m33 =>
chk9 (iR (m33 l0 1 + 10)) <|
chk9 (0 < m33 l0 27 ∧ 0 ≤ s0 ∧ s0 < 800) <|
st9 (upd9 m33 (m33 l0 27) s0 (m33 l0 1 + 10)) fun m38 =>
chk9 (0 < m38 l0 39 ∧ 0 ≤ l1 ∧ l1 < 4) <|
st9 (upd9 m38 (m38 l0 39) l1 s0) fun m42 =>
cal (X12_told l0 s0 m42) fun v43 m44 =>
some (v43, m44)
def X12_take_53 (l0 l1 l2 s0 s1 : Int) (m : Mem) : Option R2 :=
chk9 (0 < s1) <|
cal (X12_isFine s1 s0 m) fun v2 m3 =>
if v2 = 0 then (
some (0, m3))
else
chk9 (0 < l0) <|
chk9 (0 < m3 l0 36 ∧ 0 ≤ l2 ∧ l2 < 2) <|
chk9 (0 < m3 l0 35 ∧ 0 ≤ l2 ∧ l2 < 2) <|
if m3 (m3 l0 35) l2 ≤ m3 (m3 l0 36) l2 then (
X12_take_85 l0 l1 l2 (-1) m3)
else
cal (X12_next l0 l2 m3) fun v14 m15 =>
X12_take_85 l0 l1 l2 v14 m15
def X12_take_19 (l0 l1 l2 s0 : Int) (m : Mem) : Option R2 :=
if s0 = 0 then (
X12_take_53 l0 l1 l2 1 l0 m)
else
chk9 (0 < l0) <|
chk9 (0 < m l0 38 ∧ 0 ≤ l1 ∧ l1 < 4) <|
if m (m l0 38) l1 = 0 then (
X12_take_53 l0 l1 l2 2 l0 m)
else
chk9 (0 < m l0 39 ∧ 0 ≤ l1 ∧ l1 < 4) <|
if m (m l0 39) l1 = (-1) then (
X12_take_53 l0 l1 l2 0 l0 m)
else
X12_take_53 l0 l1 l2 2 l0 m
def X12_take_0 (l0 l1 l2 : Int) (m : Mem) : Option R2 :=
cal (X12_isWorker l1 m) fun v1 m2 =>
if v1 = 0 then (
X12_take_19 l0 l1 l2 0 m2)
else
cal (X12_isQueue l2 m2) fun v5 m6 =>
if v5 = 0 then (
X12_take_19 l0 l1 l2 0 m6)
else
X12_take_19 l0 l1 l2 1 m6
def X12_take (a0 a1 a2 : Int) (m : Mem) : Option R2 := X12_take_0 a0 a1 a2 m
def X12_has_13 (l0 l1 s0 s1 : Int) (m : Mem) : Option R2 :=
chk9 (0 < s1) <|
cal (X12_isFine s1 s0 m) fun v2 m3 =>
if v2 = 0 then (
some (0, m3))
else
chk9 (0 < l0) <|
chk9 (0 < m3 l0 39 ∧ 0 ≤ l1 ∧ l1 < 4) <|
if m3 (m3 l0 39) l1 = (-1) then (
some ((-1), m3))
else
chk9 (0 ≤ l1 ∧ l1 < 4) <|
cal (X12_told l0 (m3 (m3 l0 39) l1) m3) fun v13 m14 =>
some (v13, m14)
def X12_has_0 (l0 l1 : Int) (m : Mem) : Option R2 :=
cal (X12_isWorker l1 m) fun v1 m2 =>
if v1 = 0 then (
X12_has_13 l0 l1 1 l0 m2)
else
X12_has_13 l0 l1 0 l0 m2
def X12_has (a0 a1 : Int) (m : Mem) : Option R2 := X12_has_0 a0 a1 m
def X12_beat_29 (l0 l1 s0 s1 : Int) (m : Mem) : Option R2 :=
chk9 (0 < s1) <|
cal (X12_isFine s1 s0 m) fun v2 m3 =>
if v2 = 0 then (
some (0, m3))
else
chk9 (0 < l0) <|
chk9 (0 < m3 l0 39 ∧ 0 ≤ l1 ∧ l1 < 4) <|
chk9 (iR (m3 l0 1 + 10)) <|
chk9 (0 < m3 l0 27 ∧ 0 ≤ m3 (m3 l0 39) l1 ∧ m3 (m3 l0 39) l1 < 800) <|
st9 (upd9 m3 (m3 l0 27) (m3 (m3 l0 39) l1) (m3 l0 1 + 10)) fun m14 =>
chk9 (0 < m14 l0 39 ∧ 0 ≤ l1 ∧ l1 < 4) <|
chk9 (0 < m14 l0 27 ∧ 0 ≤ m14 (m14 l0 39) l1 ∧ m14 (m14 l0 39) l1 < 800) <|
some (m14 (m14 l0 27) (m14 (m14 l0 39) l1), m14)
def X12_beat_0 (l0 l1 : Int) (m : Mem) : Option R2 :=
cal (X12_isWorker l1 m) fun v1 m2 =>
if v1 = 0 then (
X12_beat_29 l0 l1 1 l0 m2)
else
chk9 (0 < l0) <|
chk9 (0 < m2 l0 39 ∧ 0 ≤ l1 ∧ l1 < 4) <|
if m2 (m2 l0 39) l1 = (-1) then (
X12_beat_29 l0 l1 2 l0 m2)
else
X12_beat_29 l0 l1 0 l0 m2
def X12_beat (a0 a1 : Int) (m : Mem) : Option R2 := X12_beat_0 a0 a1 m
def X12_end_40 (l0 l1 l2 s0 s1 : Int) (m : Mem) : Option R2 :=
chk9 (0 < s1) <|
cal (X12_isFine s1 s0 m) fun v2 m3 =>
if v2 = 0 then (
some (0, m3))
else
chk9 (0 < l0) <|
chk9 (0 < m3 l0 39 ∧ 0 ≤ l1 ∧ l1 < 4) <|
chk9 (0 ≤ m3 (m3 l0 39) l1) <|
chk9 (0 ≤ m3 (m3 l0 39) l1) <|
cal (X12_takesOff l0 (m3 (m3 l0 39) l1 / 80) (m3 (m3 l0 39) l1 % 80) m3) fun _ m13 =>
chk9 (0 ≤ m3 (m3 l0 39) l1) <|
chk9 (0 ≤ m3 (m3 l0 39) l1) <|
cal (X12_happens l0 (m3 (m3 l0 39) l1 / 80) 1 (m3 (m3 l0 39) l1 % 80) l2 m13) fun v17 m18 =>
some (v17, m18)
def X12_end_0 (l0 l1 l2 : Int) (m : Mem) : Option R2 :=
cal (X12_isWorker l1 m) fun v1 m2 =>
if v1 = 0 then (
X12_end_40 l0 l1 l2 1 l0 m2)
else
cal (X12_isValue l2 m2) fun v5 m6 =>
if v5 = 0 then (
X12_end_40 l0 l1 l2 2 l0 m6)
else
chk9 (0 < l0) <|
chk9 (0 < m6 l0 39 ∧ 0 ≤ l1 ∧ l1 < 4) <|
if m6 (m6 l0 39) l1 = (-1) then (
X12_end_40 l0 l1 l2 3 l0 m6)
else
X12_end_40 l0 l1 l2 0 l0 m6
def X12_end (a0 a1 a2 : Int) (m : Mem) : Option R2 := boolR (X12_end_0 a0 a1 a2 m)
def X12_failsTry_0 (l0 l1 : Int) (m : Mem) : Option R2 :=
chk9 (0 < l0) <|
chk9 (0 < m l0 25 ∧ 0 ≤ l1 ∧ l1 < 800) <|
chk9 (0 ≤ l1) <|
chk9 (0 ≤ l1) <|
cal (X12_takesOff l0 (l1 / 80) (l1 % 80) m) fun _ m8 =>
if m (m l0 25) l1 = 3 then (
chk9 (0 ≤ l1) <|
chk9 (0 ≤ l1) <|
cal (X12_happens l0 (l1 / 80) 2 (l1 % 80) 0 m8) fun v23 m24 =>
some (0, m24))
else
chk9 (0 < m8 l0 23 ∧ 0 ≤ l1 ∧ l1 < 800) <|
st9 (upd9 m8 (m8 l0 23) l1 3) fun m14 =>
chk9 (iR (2 * m (m l0 25) l1)) <|
chk9 (iR (m14 l0 1 + (2 * m (m l0 25) l1))) <|
chk9 (0 < m14 l0 26 ∧ 0 ≤ l1 ∧ l1 < 800) <|
st9 (upd9 m14 (m14 l0 26) l1 (m14 l0 1 + (2 * m (m l0 25) l1))) fun m20 =>
some (0, m20)
def X12_failsTry (a0 a1 : Int) (m : Mem) : Option R2 := X12_failsTry_0 a0 a1 m
def X12_fail_29 (l0 l1 s0 s1 : Int) (m : Mem) : Option R2 :=
chk9 (0 < s1) <|
cal (X12_isFine s1 s0 m) fun v2 m3 =>
if v2 = 0 then (
some (0, m3))
else
chk9 (0 < l0) <|
chk9 (0 < m3 l0 39 ∧ 0 ≤ l1 ∧ l1 < 4) <|
chk9 (0 < m3 l0 25 ∧ 0 ≤ m3 (m3 l0 39) l1 ∧ m3 (m3 l0 39) l1 < 800) <|
chk9 (0 ≤ l1 ∧ l1 < 4) <|
cal (X12_failsTry l0 (m3 (m3 l0 39) l1) m3) fun _ m16 =>
some (m3 (m3 l0 25) (m3 (m3 l0 39) l1), m16)
def X12_fail_0 (l0 l1 : Int) (m : Mem) : Option R2 :=
cal (X12_isWorker l1 m) fun v1 m2 =>
if v1 = 0 then (
X12_fail_29 l0 l1 1 l0 m2)
else
chk9 (0 < l0) <|
chk9 (0 < m2 l0 39 ∧ 0 ≤ l1 ∧ l1 < 4) <|
if m2 (m2 l0 39) l1 = (-1) then (
X12_fail_29 l0 l1 2 l0 m2)
else
X12_fail_29 l0 l1 0 l0 m2
def X12_fail (a0 a1 : Int) (m : Mem) : Option R2 := X12_fail_0 a0 a1 m
def X12_run_56 (l0 l1 l2 l3 s0 s1 s2 : Int) (m : Mem) : Option R2 :=
chk9 (0 < s2 ∧ 0 ≤ s1 ∧ s1 < 4) <|
st9 (upd9 m s2 s1 s0) fun m4 =>
chk9 (0 < l0) <|
chk9 (0 < m4 l0 38 ∧ 0 ≤ l1 ∧ l1 < 4 ∧ (l2 = 0 ∨ l2 = 1)) <|
st9 (upd9 m4 (m4 l0 38) l1 l2) fun m10 =>
some (l3, m10)
def X12_run_36 (l0 l1 l2 s0 : Int) (m : Mem) : Option R2 :=
chk9 (0 < l0) <|
if l2 = 0 then (
X12_run_56 l0 l1 l2 s0 (-1) l1 (m l0 39) m)
else
chk9 (0 < m l0 39 ∧ 0 ≤ l1 ∧ l1 < 4) <|
X12_run_56 l0 l1 l2 s0 (m (m l0 39) l1) l1 (m l0 39) m
def X12_run_13 (l0 l1 l2 s0 s1 : Int) (m : Mem) : Option R2 :=
chk9 (0 < s1) <|
cal (X12_isFine s1 s0 m) fun v2 m3 =>
if v2 = 0 then (
some (0, m3))
else
chk9 (0 < l0) <|
chk9 (0 < m3 l0 39 ∧ 0 ≤ l1 ∧ l1 < 4) <|
if m3 (m3 l0 39) l1 = (-1) then (
X12_run_36 l0 l1 l2 0 m3)
else
X12_run_36 l0 l1 l2 1 m3
def X12_run_0 (l0 l1 l2 : Int) (m : Mem) : Option R2 :=
cal (X12_isWorker l1 m) fun v1 m2 =>
if v1 = 0 then (
X12_run_13 l0 l1 l2 1 l0 m2)
else
X12_run_13 l0 l1 l2 0 l0 m2
def X12_run (a0 a1 a2 : Int) (m : Mem) : Option R2 := boolR (X12_run_0 a0 a1 a2 m)
def X12_ready_25 : Nat → Int → Int → Int → Int → Mem → Option R2
  | 0, _, _, _, _, _ => none
  | n + 1, l0, l1, l2, l3, m => (
chk9 (0 < l0) <|
chk9 (iR (80 * m l0 16)) <|
if (80 * m l0 16) ≤ l3 then (
some (l2, m))
else
cal (X12_isReady l0 l3 l1 m) fun v4 m5 =>
if v4 = 0 then (
chk9 (iR (l2 + 0)) <|
chk9 (iR (l3 + 1)) <|
X12_ready_25 n l0 l1 (l2 + 0) (l3 + 1) m5)
else
chk9 (iR (l2 + 1)) <|
chk9 (iR (l3 + 1)) <|
X12_ready_25 n l0 l1 (l2 + 1) (l3 + 1) m5)
def X12_ready_13 (l0 l1 s0 s1 : Int) (m : Mem) : Option R2 :=
chk9 (0 < s1) <|
cal (X12_isFine s1 s0 m) fun v2 m3 =>
if v2 = 0 then (
some (0, m3))
else
X12_ready_25 fuel9 l0 l1 0 0 m3
def X12_ready_0 (l0 l1 : Int) (m : Mem) : Option R2 :=
cal (X12_isQueue l1 m) fun v1 m2 =>
if v1 = 0 then (
X12_ready_13 l0 l1 1 l0 m2)
else
X12_ready_13 l0 l1 0 l0 m2
def X12_ready (a0 a1 : Int) (m : Mem) : Option R2 := X12_ready_0 a0 a1 m
def X12_taken_32 (l0 l1 l2 s0 s1 : Int) (m : Mem) : Option R2 :=
chk9 (0 < s1) <|
cal (X12_isFine s1 s0 m) fun v2 m3 =>
if v2 = 0 then (
some (0, m3))
else
chk9 (0 < l0) <|
chk9 (iR (3 * l1)) <|
chk9 (iR ((3 * l1) + l2)) <|
chk9 (0 < m3 l0 37 ∧ 0 ≤ ((3 * l1) + l2) ∧ ((3 * l1) + l2) < 6) <|
some (m3 (m3 l0 37) ((3 * l1) + l2), m3)
def X12_taken_21 (l0 l1 l2 s0 : Int) (m : Mem) : Option R2 :=
if s0 = 0 then (
X12_taken_32 l0 l1 l2 1 l0 m)
else
X12_taken_32 l0 l1 l2 0 l0 m
def X12_taken_0 (l0 l1 l2 : Int) (m : Mem) : Option R2 :=
cal (X12_isQueue l1 m) fun v1 m2 =>
if v1 = 0 then (
X12_taken_21 l0 l1 l2 0 m2)
else
cal (X12_isIn l2 0 2 m2) fun v5 m6 =>
if v5 = 0 then (
X12_taken_21 l0 l1 l2 0 m6)
else
X12_taken_21 l0 l1 l2 1 m6
def X12_taken (a0 a1 a2 : Int) (m : Mem) : Option R2 := X12_taken_0 a0 a1 a2 m
def X12_ticksOnce_220 (k165 : Int → Int → Mem → Option R2) (l0 l1 s0 : Int) (m : Mem) : Option R2 :=
chk9 (0 < l0) <|
if s0 = 0 then (
chk9 (0 < m l0 23 ∧ 0 ≤ l1 ∧ l1 < 800) <|
chk9 (0 ≤ l1 ∧ l1 < 800) <|
st9 (upd9 m (m l0 23) l1 (m (m l0 23) l1)) fun m8 =>
chk9 (iR (l1 + 1)) <|
k165 l0 (l1 + 1) m8)
else
chk9 (0 < m l0 23 ∧ 0 ≤ l1 ∧ l1 < 800) <|
st9 (upd9 m (m l0 23) l1 1) fun m13 =>
chk9 (iR (l1 + 1)) <|
k165 l0 (l1 + 1) m13
def X12_ticksOnce_165 : Nat → Int → Int → Mem → Option R2
  | 0, _, _, _ => none
  | n + 1, l0, l1, m => (
chk9 (0 < l0) <|
chk9 (iR (80 * m l0 16)) <|
if (80 * m l0 16) ≤ l1 then (
some (0, m))
else
chk9 (0 ≤ l1) <|
chk9 (0 ≤ l1) <|
chk9 (0 < m l0 22 ∧ 0 ≤ (l1 / 80) ∧ (l1 / 80) < 10) <|
if m (m l0 22) (l1 / 80) ≤ (l1 % 80) then (
X12_ticksOnce_220 (X12_ticksOnce_165 n) l0 l1 0 m)
else
chk9 (0 < m l0 23 ∧ 0 ≤ l1 ∧ l1 < 800) <|
if m (m l0 23) l1 = 3 then (
chk9 (0 < m l0 26 ∧ 0 ≤ l1 ∧ l1 < 800) <|
if m (m l0 26) l1 = m l0 1 then (
X12_ticksOnce_220 (X12_ticksOnce_165 n) l0 l1 1 m)
else
X12_ticksOnce_220 (X12_ticksOnce_165 n) l0 l1 0 m)
else
X12_ticksOnce_220 (X12_ticksOnce_165 n) l0 l1 0 m)
def X12_ticksOnce_102 (k165 : Int → Int → Mem → Option R2) : Nat → Int → Int → Mem → Option R2
  | 0, _, _, _ => none
  | n + 1, l0, l1, m => (
chk9 (0 < l0) <|
chk9 (iR (80 * m l0 16)) <|
if (80 * m l0 16) ≤ l1 then (
k165 l0 0 m)
else
chk9 (0 ≤ l1) <|
chk9 (0 ≤ l1) <|
chk9 (0 < m l0 22 ∧ 0 ≤ (l1 / 80) ∧ (l1 / 80) < 10) <|
if m (m l0 22) (l1 / 80) ≤ (l1 % 80) then (
chk9 (iR (l1 + 1)) <|
X12_ticksOnce_102 k165 n l0 (l1 + 1) m)
else
chk9 (0 < m l0 23 ∧ 0 ≤ l1 ∧ l1 < 800) <|
if m (m l0 23) l1 = 2 then (
chk9 (0 < m l0 27 ∧ 0 ≤ l1 ∧ l1 < 800) <|
if m (m l0 27) l1 = m l0 1 then (
cal (X12_failsTry l0 l1 m) fun _ m22 =>
chk9 (iR (l1 + 1)) <|
X12_ticksOnce_102 k165 n l0 (l1 + 1) m22)
else
chk9 (iR (l1 + 1)) <|
X12_ticksOnce_102 k165 n l0 (l1 + 1) m)
else
chk9 (iR (l1 + 1)) <|
X12_ticksOnce_102 k165 n l0 (l1 + 1) m)
def X12_ticksOnce_32 (k102 : Int → Int → Mem → Option R2) : Nat → Int → Int → Mem → Option R2
  | 0, _, _, _ => none
  | n + 1, l0, l1, m => (
chk9 (0 < l0) <|
chk9 (iR (80 * m l0 16)) <|
if (80 * m l0 16) ≤ l1 then (
k102 l0 0 m)
else
chk9 (0 ≤ l1) <|
chk9 (0 ≤ l1) <|
chk9 (0 < m l0 30 ∧ 0 ≤ (l1 / 80) ∧ (l1 / 80) < 10) <|
if m (m l0 30) (l1 / 80) ≤ (l1 % 80) then (
chk9 (iR (l1 + 1)) <|
X12_ticksOnce_32 k102 n l0 (l1 + 1) m)
else
chk9 (0 < m l0 31 ∧ 0 ≤ l1 ∧ l1 < 800) <|
if m (m l0 31) l1 = m l0 1 then (
chk9 (0 ≤ l1 ∧ l1 < 800) <|
st9 (upd9 m (m l0 31) l1 0) fun m18 =>
chk9 (0 ≤ l1) <|
chk9 (0 ≤ l1) <|
cal (X12_happens l0 (l1 / 80) 3 (l1 % 80) 0 m18) fun v21 m22 =>
chk9 (iR (l1 + 1)) <|
X12_ticksOnce_32 k102 n l0 (l1 + 1) m22)
else
chk9 (iR (l1 + 1)) <|
X12_ticksOnce_32 k102 n l0 (l1 + 1) m)
def X12_ticksOnce_12 (k32 : Int → Int → Mem → Option R2) : Nat → Int → Int → Mem → Option R2
  | 0, _, _, _ => none
  | n + 1, l0, l1, m => (
if 2 ≤ l1 then (
k32 l0 0 m)
else
chk9 (0 < l0) <|
chk9 (0 < m l0 36 ∧ 0 ≤ l1 ∧ l1 < 2) <|
st9 (upd9 m (m l0 36) l1 0) fun m6 =>
chk9 (iR (l1 + 1)) <|
X12_ticksOnce_12 k32 n l0 (l1 + 1) m6)
def X12_ticksOnce_0 (l0 : Int) (m : Mem) : Option R2 :=
chk9 (0 < l0) <|
chk9 (iR (m l0 1 + 1)) <|
st9 (upd9 m l0 1 (m l0 1 + 1)) fun m3 =>
X12_ticksOnce_12 (X12_ticksOnce_32 (X12_ticksOnce_102 (X12_ticksOnce_165 fuel9) fuel9) fuel9) fuel9 l0 0 m3
def X12_ticksOnce (a0 : Int) (m : Mem) : Option R2 := X12_ticksOnce_0 a0 m
def X12_tick_26 : Nat → Int → Int → Int → Mem → Option R2
  | 0, _, _, _, _ => none
  | n + 1, l0, l1, l2, m => (
if l1 ≤ l2 then (
chk9 (0 < l0) <|
some (m l0 1, m))
else
chk9 (0 < l0) <|
cal (X12_ticksOnce l0 m) fun _ m5 =>
chk9 (iR (l2 + 1)) <|
X12_tick_26 n l0 l1 (l2 + 1) m5)
def X12_tick_16 (l0 l1 s0 s1 : Int) (m : Mem) : Option R2 :=
chk9 (0 < s1) <|
cal (X12_isFine s1 s0 m) fun v2 m3 =>
if v2 = 0 then (
some (0, m3))
else
X12_tick_26 fuel9 l0 l1 0 m3
def X12_tick_0 (l0 l1 : Int) (m : Mem) : Option R2 :=
cal (X12_isIn l1 1 50 m) fun v1 m2 =>
if v1 = 0 then (
X12_tick_16 l0 l1 1 l0 m2)
else
X12_tick_16 l0 l1 0 l0 m2
def X12_tick (a0 a1 : Int) (m : Mem) : Option R2 := X12_tick_0 a0 a1 m
def X12_clock_0 (l0 : Int) (m : Mem) : Option R2 :=
chk9 (0 < l0) <|
st9 (upd9 m l0 0 0) fun m2 =>
some (m2 l0 1, m2)
def X12_clock (a0 : Int) (m : Mem) : Option R2 := X12_clock_0 a0 m
def X12_workflows_0 (l0 : Int) (m : Mem) : Option R2 :=
chk9 (0 < l0) <|
st9 (upd9 m l0 0 0) fun m2 =>
some (m2 l0 16, m2)
def X12_workflows (a0 : Int) (m : Mem) : Option R2 := X12_workflows_0 a0 m
def X12_parent_14 (l0 l1 s0 s1 : Int) (m : Mem) : Option R2 :=
chk9 (0 < s1) <|
cal (X12_isFine s1 s0 m) fun v2 m3 =>
if v2 = 0 then (
some (0, m3))
else
chk9 (0 < l0) <|
chk9 (0 < m3 l0 9 ∧ 0 ≤ l1 ∧ l1 < 10) <|
some (m3 (m3 l0 9) l1, m3)
def X12_parent_0 (l0 l1 : Int) (m : Mem) : Option R2 :=
chk9 (0 < l0) <|
cal (X12_isFlow l0 l1 m) fun v2 m3 =>
if v2 = 0 then (
X12_parent_14 l0 l1 1 l0 m3)
else
X12_parent_14 l0 l1 0 l0 m3
def X12_parent (a0 a1 : Int) (m : Mem) : Option R2 := X12_parent_0 a0 a1 m
def X12_runs_14 (l0 l1 s0 s1 : Int) (m : Mem) : Option R2 :=
chk9 (0 < s1) <|
cal (X12_isFine s1 s0 m) fun v2 m3 =>
if v2 = 0 then (
some (0, m3))
else
chk9 (0 < l0) <|
chk9 (0 < m3 l0 12 ∧ 0 ≤ l1 ∧ l1 < 10) <|
some (m3 (m3 l0 12) l1, m3)
def X12_runs_0 (l0 l1 : Int) (m : Mem) : Option R2 :=
chk9 (0 < l0) <|
cal (X12_isFlow l0 l1 m) fun v2 m3 =>
if v2 = 0 then (
X12_runs_14 l0 l1 1 l0 m3)
else
X12_runs_14 l0 l1 0 l0 m3
def X12_runs (a0 a1 : Int) (m : Mem) : Option R2 := X12_runs_0 a0 a1 m
def X12_isRun_0 (l0 l1 l2 : Int) (m : Mem) : Option R2 :=
chk9 (0 < l0) <|
cal (X12_isFlow l0 l1 m) fun v2 m3 =>
if v2 = 0 then (
some (0, m3))
else
chk9 (0 < m3 l0 12 ∧ 0 ≤ l1 ∧ l1 < 10) <|
cal (X12_isIn l2 1 (m3 (m3 l0 12) l1) m3) fun v9 m10 =>
if v9 = 0 then (
some (0, m10))
else
some (1, m10)
def X12_isRun (a0 a1 a2 : Int) (m : Mem) : Option R2 := boolR (X12_isRun_0 a0 a1 a2 m)
def X12_state_15 (l0 l1 l2 s0 s1 : Int) (m : Mem) : Option R2 :=
chk9 (0 < s1) <|
cal (X12_isFine s1 s0 m) fun v2 m3 =>
if v2 = 0 then (
some (0, m3))
else
chk9 (0 < l0) <|
chk9 (iR (9 * l1)) <|
chk9 (iR ((9 * l1) + l2)) <|
chk9 (iR (((9 * l1) + l2) - 1)) <|
chk9 (0 < m3 l0 17 ∧ 0 ≤ (((9 * l1) + l2) - 1) ∧ (((9 * l1) + l2) - 1) < 90) <|
some (m3 (m3 l0 17) (((9 * l1) + l2) - 1), m3)
def X12_state_0 (l0 l1 l2 : Int) (m : Mem) : Option R2 :=
chk9 (0 < l0) <|
cal (X12_isRun l0 l1 l2 m) fun v2 m3 =>
if v2 = 0 then (
X12_state_15 l0 l1 l2 1 l0 m3)
else
X12_state_15 l0 l1 l2 0 l0 m3
def X12_state (a0 a1 a2 : Int) (m : Mem) : Option R2 := X12_state_0 a0 a1 a2 m
def X12_events_15 (l0 l1 l2 s0 s1 : Int) (m : Mem) : Option R2 :=
chk9 (0 < s1) <|
cal (X12_isFine s1 s0 m) fun v2 m3 =>
if v2 = 0 then (
some (0, m3))
else
chk9 (0 < l0) <|
chk9 (iR (9 * l1)) <|
chk9 (iR ((9 * l1) + l2)) <|
chk9 (iR (((9 * l1) + l2) - 1)) <|
chk9 (0 < m3 l0 18 ∧ 0 ≤ (((9 * l1) + l2) - 1) ∧ (((9 * l1) + l2) - 1) < 90) <|
some (m3 (m3 l0 18) (((9 * l1) + l2) - 1), m3)
def X12_events_0 (l0 l1 l2 : Int) (m : Mem) : Option R2 :=
chk9 (0 < l0) <|
cal (X12_isRun l0 l1 l2 m) fun v2 m3 =>
if v2 = 0 then (
X12_events_15 l0 l1 l2 1 l0 m3)
else
X12_events_15 l0 l1 l2 0 l0 m3
def X12_events (a0 a1 a2 : Int) (m : Mem) : Option R2 := X12_events_0 a0 a1 a2 m
def X12_isEvent_0 (l0 l1 l2 l3 : Int) (m : Mem) : Option R2 :=
chk9 (0 < l0) <|
cal (X12_isRun l0 l1 l2 m) fun v2 m3 =>
if v2 = 0 then (
some (0, m3))
else
chk9 (iR (9 * l1)) <|
chk9 (iR ((9 * l1) + l2)) <|
chk9 (iR (((9 * l1) + l2) - 1)) <|
chk9 (0 < m3 l0 18 ∧ 0 ≤ (((9 * l1) + l2) - 1) ∧ (((9 * l1) + l2) - 1) < 90) <|
chk9 (iR (m3 (m3 l0 18) (((9 * l1) + l2) - 1) - 1)) <|
cal (X12_isIn l3 0 (m3 (m3 l0 18) (((9 * l1) + l2) - 1) - 1) m3) fun v13 m14 =>
if v13 = 0 then (
some (0, m14))
else
some (1, m14)
def X12_isEvent (a0 a1 a2 a3 : Int) (m : Mem) : Option R2 := boolR (X12_isEvent_0 a0 a1 a2 a3 m)
def X12_eventKind_16 (l0 l1 l2 l3 s0 s1 : Int) (m : Mem) : Option R2 :=
chk9 (0 < s1) <|
cal (X12_isFine s1 s0 m) fun v2 m3 =>
if v2 = 0 then (
some (0, m3))
else
chk9 (0 < l0) <|
chk9 (iR (9 * l1)) <|
chk9 (iR ((9 * l1) + l2)) <|
chk9 (iR (((9 * l1) + l2) - 1)) <|
chk9 (iR (80 * (((9 * l1) + l2) - 1))) <|
chk9 (iR ((80 * (((9 * l1) + l2) - 1)) + l3)) <|
chk9 (0 < m3 l0 19 ∧ 0 ≤ ((80 * (((9 * l1) + l2) - 1)) + l3) ∧ ((80 * (((9 * l1) + l2) - 1)) + l3) < 7200) <|
some (m3 (m3 l0 19) ((80 * (((9 * l1) + l2) - 1)) + l3), m3)
def X12_eventKind_0 (l0 l1 l2 l3 : Int) (m : Mem) : Option R2 :=
chk9 (0 < l0) <|
cal (X12_isEvent l0 l1 l2 l3 m) fun v2 m3 =>
if v2 = 0 then (
X12_eventKind_16 l0 l1 l2 l3 1 l0 m3)
else
X12_eventKind_16 l0 l1 l2 l3 0 l0 m3
def X12_eventKind (a0 a1 a2 a3 : Int) (m : Mem) : Option R2 := X12_eventKind_0 a0 a1 a2 a3 m
def X12_eventNumber_16 (l0 l1 l2 l3 l4 s0 s1 : Int) (m : Mem) : Option R2 :=
chk9 (0 < s1) <|
cal (X12_isFine s1 s0 m) fun v2 m3 =>
if v2 = 0 then (
some (0, m3))
else
chk9 (iR (9 * l1)) <|
chk9 (iR ((9 * l1) + l2)) <|
chk9 (iR (((9 * l1) + l2) - 1)) <|
chk9 (iR (80 * (((9 * l1) + l2) - 1))) <|
chk9 (iR ((80 * (((9 * l1) + l2) - 1)) + l3)) <|
if l4 = 0 then (
chk9 (0 < l0) <|
chk9 (0 < m3 l0 21 ∧ 0 ≤ ((80 * (((9 * l1) + l2) - 1)) + l3) ∧ ((80 * (((9 * l1) + l2) - 1)) + l3) < 7200) <|
some (m3 (m3 l0 21) ((80 * (((9 * l1) + l2) - 1)) + l3), m3))
else
chk9 (0 < l0) <|
chk9 (0 < m3 l0 20 ∧ 0 ≤ ((80 * (((9 * l1) + l2) - 1)) + l3) ∧ ((80 * (((9 * l1) + l2) - 1)) + l3) < 7200) <|
some (m3 (m3 l0 20) ((80 * (((9 * l1) + l2) - 1)) + l3), m3)
def X12_eventNumber_0 (l0 l1 l2 l3 l4 : Int) (m : Mem) : Option R2 :=
chk9 (0 < l0) <|
cal (X12_isEvent l0 l1 l2 l3 m) fun v2 m3 =>
if v2 = 0 then (
X12_eventNumber_16 l0 l1 l2 l3 l4 1 l0 m3)
else
X12_eventNumber_16 l0 l1 l2 l3 l4 0 l0 m3
def X12_eventNumber (a0 a1 a2 a3 a4 : Int) (m : Mem) : Option R2 := X12_eventNumber_0 a0 a1 a2 a3 a4 m
def X12_property_29 (l0 l1 l2 s0 s1 : Int) (m : Mem) : Option R2 :=
chk9 (0 < s1) <|
cal (X12_isFine s1 s0 m) fun v2 m3 =>
if v2 = 0 then (
some (0, m3))
else
chk9 (0 < l0) <|
chk9 (iR (2 * l1)) <|
chk9 (iR ((2 * l1) + l2)) <|
chk9 (0 < m3 l0 13 ∧ 0 ≤ ((2 * l1) + l2) ∧ ((2 * l1) + l2) < 20) <|
some (m3 (m3 l0 13) ((2 * l1) + l2), m3)
def X12_property_0 (l0 l1 l2 : Int) (m : Mem) : Option R2 :=
chk9 (0 < l0) <|
cal (X12_isFlow l0 l1 m) fun v2 m3 =>
if v2 = 0 then (
X12_property_29 l0 l1 l2 1 l0 m3)
else
cal (X12_isIn l2 0 1 m3) fun v6 m7 =>
if v6 = 0 then (
X12_property_29 l0 l1 l2 2 l0 m7)
else
X12_property_29 l0 l1 l2 0 l0 m7
def X12_property (a0 a1 a2 : Int) (m : Mem) : Option R2 := X12_property_0 a0 a1 a2 m
def X12_found_34 : Nat → Int → Int → Int → Int → Int → Int → Mem → Option R2
  | 0, _, _, _, _, _, _, _ => none
  | n + 1, l0, l1, l2, l3, l4, l5, m => (
chk9 (0 < l0) <|
if m l0 16 ≤ l5 then (
some (l4, m))
else
cal (X12_isRunning l0 l5 m) fun v3 m4 =>
if v3 = 0 then (
chk9 (iR (l4 + 0)) <|
chk9 (iR (l5 + 1)) <|
X12_found_34 n l0 l1 l2 l3 (l4 + 0) (l5 + 1) m4)
else
chk9 (iR (2 * l5)) <|
chk9 (iR ((2 * l5) + l1)) <|
chk9 (0 < m4 l0 13 ∧ 0 ≤ ((2 * l5) + l1) ∧ ((2 * l5) + l1) < 20) <|
cal (X12_isIn (m4 (m4 l0 13) ((2 * l5) + l1)) l2 l3 m4) fun v14 m15 =>
if v14 = 0 then (
chk9 (iR (l4 + 0)) <|
chk9 (iR (l5 + 1)) <|
X12_found_34 n l0 l1 l2 l3 (l4 + 0) (l5 + 1) m15)
else
chk9 (iR (l4 + 1)) <|
chk9 (iR (l5 + 1)) <|
X12_found_34 n l0 l1 l2 l3 (l4 + 1) (l5 + 1) m15)
def X12_found_20 (l0 l1 l2 l3 s0 s1 : Int) (m : Mem) : Option R2 :=
chk9 (0 < s1) <|
cal (X12_isFine s1 s0 m) fun v2 m3 =>
if v2 = 0 then (
some (0, m3))
else
X12_found_34 fuel9 l0 l1 l2 l3 0 0 m3
def X12_found_0 (l0 l1 l2 l3 : Int) (m : Mem) : Option R2 :=
cal (X12_isIn l1 0 1 m) fun v1 m2 =>
if v1 = 0 then (
X12_found_20 l0 l1 l2 l3 1 l0 m2)
else
if l2 ≤ l3 then (
X12_found_20 l0 l1 l2 l3 0 l0 m2)
else
X12_found_20 l0 l1 l2 l3 1 l0 m2
def X12_found (a0 a1 a2 a3 : Int) (m : Mem) : Option R2 := X12_found_0 a0 a1 a2 a3 m
def X12_isDue_14 (l0 l1 s0 s1 : Int) (m : Mem) : Option R2 :=
chk9 (0 < s1) <|
cal (X12_isFine s1 s0 m) fun v2 m3 =>
if v2 = 0 then (
some (0, m3))
else
chk9 (0 < l0) <|
cal (X12_isDueNow l0 l1 m3) fun v7 m8 =>
if v7 = 0 then (
some (0, m8))
else
some (1, m8)
def X12_isDue_0 (l0 l1 : Int) (m : Mem) : Option R2 :=
chk9 (0 < l0) <|
cal (X12_isFlow l0 l1 m) fun v2 m3 =>
if v2 = 0 then (
X12_isDue_14 l0 l1 1 l0 m3)
else
X12_isDue_14 l0 l1 0 l0 m3
def X12_isDue (a0 a1 : Int) (m : Mem) : Option R2 := boolR (X12_isDue_0 a0 a1 m)
def X12_register_14 (l0 l1 s0 s1 : Int) (m : Mem) : Option R2 :=
chk9 (0 < s1) <|
cal (X12_isFine s1 s0 m) fun v2 m3 =>
if v2 = 0 then (
some (0, m3))
else
chk9 (0 < l0) <|
chk9 (0 < m3 l0 14 ∧ 0 ≤ l1 ∧ l1 < 10) <|
some (m3 (m3 l0 14) l1, m3)
def X12_register_0 (l0 l1 : Int) (m : Mem) : Option R2 :=
chk9 (0 < l0) <|
cal (X12_isFlow l0 l1 m) fun v2 m3 =>
if v2 = 0 then (
X12_register_14 l0 l1 1 l0 m3)
else
X12_register_14 l0 l1 0 l0 m3
def X12_register (a0 a1 : Int) (m : Mem) : Option R2 := X12_register_0 a0 a1 m
def X12_place_14 (l0 l1 s0 s1 : Int) (m : Mem) : Option R2 :=
chk9 (0 < s1) <|
cal (X12_isFine s1 s0 m) fun v2 m3 =>
if v2 = 0 then (
some (0, m3))
else
chk9 (0 < l0) <|
chk9 (0 < m3 l0 15 ∧ 0 ≤ l1 ∧ l1 < 10) <|
some (m3 (m3 l0 15) l1, m3)
def X12_place_0 (l0 l1 : Int) (m : Mem) : Option R2 :=
chk9 (0 < l0) <|
cal (X12_isFlow l0 l1 m) fun v2 m3 =>
if v2 = 0 then (
X12_place_14 l0 l1 1 l0 m3)
else
X12_place_14 l0 l1 0 l0 m3
def X12_place (a0 a1 : Int) (m : Mem) : Option R2 := X12_place_0 a0 a1 m
def X12_registerAnew_43 (l0 l1 l2 s0 s1 : Int) (m : Mem) : Option R2 :=
chk9 (0 < s1) <|
cal (X12_isFine s1 s0 m) fun v2 m3 =>
if v2 = 0 then (
some (0, m3))
else
chk9 (0 < l0) <|
cal (X12_isAny l0 l1 m3) fun v7 m8 =>
if v7 = 0 then (
some (0, m8))
else
cal (X12_plays l0 l1 l2 m8) fun v11 m12 =>
if v11 = (-1) then (
some ((-2000), m12))
else
some (m12 l0 41, m12)
def X12_registerAnew_32 (l0 l1 l2 s0 : Int) (m : Mem) : Option R2 :=
if s0 = 0 then (
X12_registerAnew_43 l0 l1 l2 1 l0 m)
else
X12_registerAnew_43 l0 l1 l2 0 l0 m
def X12_registerAnew_0 (l0 l1 l2 : Int) (m : Mem) : Option R2 :=
chk9 (0 < l0) <|
cal (X12_isFlow l0 l1 m) fun v2 m3 =>
if v2 = 0 then (
X12_registerAnew_32 l0 l1 l2 0 m3)
else
chk9 (0 < m3 l0 7 ∧ 0 ≤ l1 ∧ l1 < 10) <|
chk9 (0 < m3 l0 6 ∧ 0 ≤ m3 (m3 l0 7) l1 ∧ m3 (m3 l0 7) l1 < 3) <|
cal (X12_isIn l2 1 (m3 (m3 l0 6) (m3 (m3 l0 7) l1)) m3) fun v12 m13 =>
if v12 = 0 then (
X12_registerAnew_32 l0 l1 l2 0 m13)
else
X12_registerAnew_32 l0 l1 l2 1 m13
def X12_registerAnew (a0 a1 a2 : Int) (m : Mem) : Option R2 := X12_registerAnew_0 a0 a1 a2 m
def L_step_0 (l0 l1 l2 l3 l4 l5 : Int) (m : Mem) : Option R2 :=
chk9 (0 < l0) <|
calT (X11_step l0 l1 l2 l3 l4 m) (fun v2 m3 =>
chk9 (0 < l5) <|
st9 (upd9 m3 l5 0 v2) fun m6 =>
some (0, m6)) (fun e8 m3 =>
if e8 = 1 then (
some (1, m3))
else
if e8 = 2 then (
some (2, m3))
else
if e8 = 3 then (
some (3, m3))
else
none)
def L_step (a0 a1 a2 a3 a4 a5 : Int) (m : Mem) : Option R2 := L_step_0 a0 a1 a2 a3 a4 a5 m
def L_forget_0 (l0 l1 l2 : Int) (m : Mem) : Option R2 :=
chk9 (0 < l0) <|
calT (X11_forget l0 l1 m) (fun v2 m3 =>
chk9 (0 < l2) <|
st9 (upd9 m3 l2 0 v2) fun m6 =>
some (0, m6)) (fun e8 m3 =>
if e8 = 1 then (
some (1, m3))
else
none)
def L_forget (a0 a1 a2 : Int) (m : Mem) : Option R2 := L_forget_0 a0 a1 a2 m
def L_release_0 (l0 l1 l2 : Int) (m : Mem) : Option R2 :=
chk9 (0 < l0) <|
calT (X11_release l0 l1 m) (fun v2 m3 =>
chk9 (0 < l2) <|
st9 (upd9 m3 l2 0 v2) fun m6 =>
some (0, m6)) (fun e8 m3 =>
if e8 = 1 then (
some (1, m3))
else
if e8 = 3 then (
some (2, m3))
else
none)
def L_release (a0 a1 a2 : Int) (m : Mem) : Option R2 := L_release_0 a0 a1 a2 m
def L_versions_0 (l0 l1 l2 : Int) (m : Mem) : Option R2 :=
chk9 (0 < l0) <|
calT (X11_versions l0 l1 m) (fun v2 m3 =>
chk9 (0 < l2) <|
st9 (upd9 m3 l2 0 v2) fun m6 =>
some (0, m6)) (fun e8 m3 =>
if e8 = 1 then (
some (1, m3))
else
none)
def L_versions (a0 a1 a2 : Int) (m : Mem) : Option R2 := L_versions_0 a0 a1 a2 m
def L_start_0 (l0 l1 l2 l3 l4 : Int) (m : Mem) : Option R2 :=
chk9 (0 < l0) <|
calT (X11_start l0 l1 l2 l3 m) (fun v2 m3 =>
chk9 (0 < l4) <|
st9 (upd9 m3 l4 0 v2) fun m6 =>
some (0, m6)) (fun e8 m3 =>
if e8 = 1 then (
some (1, m3))
else
if e8 = 2 then (
some (2, m3))
else
if e8 = 3 then (
some (3, m3))
else
none)
def L_start (a0 a1 a2 a3 a4 : Int) (m : Mem) : Option R2 := L_start_0 a0 a1 a2 a3 a4 m
def L_signal_0 (l0 l1 l2 l3 l4 : Int) (m : Mem) : Option R2 :=
chk9 (0 < l0) <|
calT (X11_signal l0 l1 l2 l3 m) (fun v2 m3 =>
if v2 = 0 then (
chk9 (0 < l4) <|
st9 (upd9 m3 l4 0 0) fun m7 =>
some (0, m7))
else
chk9 (0 < l4) <|
st9 (upd9 m3 l4 0 1) fun m9 =>
some (0, m9)) (fun e11 m3 =>
if e11 = 1 then (
some (1, m3))
else
if e11 = 2 then (
some (2, m3))
else
none)
def L_signal (a0 a1 a2 a3 a4 : Int) (m : Mem) : Option R2 := L_signal_0 a0 a1 a2 a3 a4 m
def L_cancel_0 (l0 l1 l2 : Int) (m : Mem) : Option R2 :=
chk9 (0 < l0) <|
calT (X11_cancel l0 l1 m) (fun v2 m3 =>
if v2 = 0 then (
chk9 (0 < l2) <|
st9 (upd9 m3 l2 0 0) fun m7 =>
some (0, m7))
else
chk9 (0 < l2) <|
st9 (upd9 m3 l2 0 1) fun m9 =>
some (0, m9)) (fun e11 m3 =>
if e11 = 1 then (
some (1, m3))
else
none)
def L_cancel (a0 a1 a2 : Int) (m : Mem) : Option R2 := L_cancel_0 a0 a1 a2 m
def L_decide_0 (l0 l1 l2 l3 : Int) (m : Mem) : Option R2 :=
chk9 (0 < l0) <|
calT (X11_decide l0 l1 l2 m) (fun v2 m3 =>
chk9 (0 < l3) <|
st9 (upd9 m3 l3 0 v2) fun m6 =>
some (0, m6)) (fun e8 m3 =>
if e8 = 1 then (
some (1, m3))
else
if e8 = 3 then (
some (2, m3))
else
none)
def L_decide (a0 a1 a2 a3 : Int) (m : Mem) : Option R2 := L_decide_0 a0 a1 a2 a3 m
def L_setRate_0 (l0 l1 l2 l3 : Int) (m : Mem) : Option R2 :=
chk9 (0 < l0) <|
calT (X11_setRate l0 l1 l2 m) (fun v2 m3 =>
chk9 (0 < l3) <|
st9 (upd9 m3 l3 0 v2) fun m6 =>
some (0, m6)) (fun e8 m3 =>
if e8 = 1 then (
some (1, m3))
else
if e8 = 2 then (
some (2, m3))
else
none)
def L_setRate (a0 a1 a2 a3 : Int) (m : Mem) : Option R2 := L_setRate_0 a0 a1 a2 a3 m
def L_take_0 (l0 l1 l2 l3 : Int) (m : Mem) : Option R2 :=
chk9 (0 < l0) <|
calT (X11_take l0 l1 l2 m) (fun v2 m3 =>
chk9 (0 < l3) <|
st9 (upd9 m3 l3 0 v2) fun m6 =>
some (0, m6)) (fun e8 m3 =>
if e8 = 1 then (
some (1, m3))
else
if e8 = 3 then (
some (2, m3))
else
none)
def L_take (a0 a1 a2 a3 : Int) (m : Mem) : Option R2 := L_take_0 a0 a1 a2 a3 m
def L_has_0 (l0 l1 l2 : Int) (m : Mem) : Option R2 :=
chk9 (0 < l0) <|
calT (X11_has l0 l1 m) (fun v2 m3 =>
chk9 (0 < l2) <|
st9 (upd9 m3 l2 0 v2) fun m6 =>
some (0, m6)) (fun e8 m3 =>
if e8 = 1 then (
some (1, m3))
else
none)
def L_has (a0 a1 a2 : Int) (m : Mem) : Option R2 := L_has_0 a0 a1 a2 m
def L_beat_0 (l0 l1 l2 : Int) (m : Mem) : Option R2 :=
chk9 (0 < l0) <|
calT (X11_beat l0 l1 m) (fun v2 m3 =>
chk9 (0 < l2) <|
st9 (upd9 m3 l2 0 v2) fun m6 =>
some (0, m6)) (fun e8 m3 =>
if e8 = 1 then (
some (1, m3))
else
if e8 = 3 then (
some (2, m3))
else
none)
def L_beat (a0 a1 a2 : Int) (m : Mem) : Option R2 := L_beat_0 a0 a1 a2 m
def L_end_0 (l0 l1 l2 l3 : Int) (m : Mem) : Option R2 :=
chk9 (0 < l0) <|
calT (X11_end l0 l1 l2 m) (fun v2 m3 =>
if v2 = 0 then (
chk9 (0 < l3) <|
st9 (upd9 m3 l3 0 0) fun m7 =>
some (0, m7))
else
chk9 (0 < l3) <|
st9 (upd9 m3 l3 0 1) fun m9 =>
some (0, m9)) (fun e11 m3 =>
if e11 = 1 then (
some (1, m3))
else
if e11 = 2 then (
some (2, m3))
else
if e11 = 3 then (
some (3, m3))
else
none)
def L_end (a0 a1 a2 a3 : Int) (m : Mem) : Option R2 := L_end_0 a0 a1 a2 a3 m
def L_fail_0 (l0 l1 l2 : Int) (m : Mem) : Option R2 :=
chk9 (0 < l0) <|
calT (X11_fail l0 l1 m) (fun v2 m3 =>
chk9 (0 < l2) <|
st9 (upd9 m3 l2 0 v2) fun m6 =>
some (0, m6)) (fun e8 m3 =>
if e8 = 1 then (
some (1, m3))
else
if e8 = 3 then (
some (2, m3))
else
none)
def L_fail (a0 a1 a2 : Int) (m : Mem) : Option R2 := L_fail_0 a0 a1 a2 m
def L_run_0 (l0 l1 l2 l3 : Int) (m : Mem) : Option R2 :=
chk9 (0 < l0) <|
calT (X11_run l0 l1 l2 m) (fun v2 m3 =>
if v2 = 0 then (
chk9 (0 < l3) <|
st9 (upd9 m3 l3 0 0) fun m7 =>
some (0, m7))
else
chk9 (0 < l3) <|
st9 (upd9 m3 l3 0 1) fun m9 =>
some (0, m9)) (fun e11 m3 =>
if e11 = 1 then (
some (1, m3))
else
none)
def L_run (a0 a1 a2 a3 : Int) (m : Mem) : Option R2 := L_run_0 a0 a1 a2 a3 m
def L_ready_0 (l0 l1 l2 : Int) (m : Mem) : Option R2 :=
chk9 (0 < l0) <|
calT (X11_ready l0 l1 m) (fun v2 m3 =>
chk9 (0 < l2) <|
st9 (upd9 m3 l2 0 v2) fun m6 =>
some (0, m6)) (fun e8 m3 =>
if e8 = 1 then (
some (1, m3))
else
none)
def L_ready (a0 a1 a2 : Int) (m : Mem) : Option R2 := L_ready_0 a0 a1 a2 m
def L_taken_0 (l0 l1 l2 l3 : Int) (m : Mem) : Option R2 :=
chk9 (0 < l0) <|
calT (X11_taken l0 l1 l2 m) (fun v2 m3 =>
chk9 (0 < l3) <|
st9 (upd9 m3 l3 0 v2) fun m6 =>
some (0, m6)) (fun e8 m3 =>
if e8 = 1 then (
some (1, m3))
else
none)
def L_taken (a0 a1 a2 a3 : Int) (m : Mem) : Option R2 := L_taken_0 a0 a1 a2 a3 m
def L_tick_0 (l0 l1 l2 : Int) (m : Mem) : Option R2 :=
chk9 (0 < l0) <|
calT (X11_tick l0 l1 m) (fun v2 m3 =>
chk9 (0 < l2) <|
st9 (upd9 m3 l2 0 v2) fun m6 =>
some (0, m6)) (fun e8 m3 =>
if e8 = 2 then (
some (1, m3))
else
none)
def L_tick (a0 a1 a2 : Int) (m : Mem) : Option R2 := L_tick_0 a0 a1 a2 m
def L_parent_0 (l0 l1 l2 : Int) (m : Mem) : Option R2 :=
chk9 (0 < l0) <|
calT (X11_parent l0 l1 m) (fun v2 m3 =>
chk9 (0 < l2) <|
st9 (upd9 m3 l2 0 v2) fun m6 =>
some (0, m6)) (fun e8 m3 =>
if e8 = 1 then (
some (1, m3))
else
none)
def L_parent (a0 a1 a2 : Int) (m : Mem) : Option R2 := L_parent_0 a0 a1 a2 m
def L_runs_0 (l0 l1 l2 : Int) (m : Mem) : Option R2 :=
chk9 (0 < l0) <|
calT (X11_runs l0 l1 m) (fun v2 m3 =>
chk9 (0 < l2) <|
st9 (upd9 m3 l2 0 v2) fun m6 =>
some (0, m6)) (fun e8 m3 =>
if e8 = 1 then (
some (1, m3))
else
none)
def L_runs (a0 a1 a2 : Int) (m : Mem) : Option R2 := L_runs_0 a0 a1 a2 m
def L_state_0 (l0 l1 l2 l3 : Int) (m : Mem) : Option R2 :=
chk9 (0 < l0) <|
calT (X11_state l0 l1 l2 m) (fun v2 m3 =>
chk9 (0 < l3) <|
st9 (upd9 m3 l3 0 v2) fun m6 =>
some (0, m6)) (fun e8 m3 =>
if e8 = 1 then (
some (1, m3))
else
none)
def L_state (a0 a1 a2 a3 : Int) (m : Mem) : Option R2 := L_state_0 a0 a1 a2 a3 m
def L_events_0 (l0 l1 l2 l3 : Int) (m : Mem) : Option R2 :=
chk9 (0 < l0) <|
calT (X11_events l0 l1 l2 m) (fun v2 m3 =>
chk9 (0 < l3) <|
st9 (upd9 m3 l3 0 v2) fun m6 =>
some (0, m6)) (fun e8 m3 =>
if e8 = 1 then (
some (1, m3))
else
none)
def L_events (a0 a1 a2 a3 : Int) (m : Mem) : Option R2 := L_events_0 a0 a1 a2 a3 m
def L_eventKind_0 (l0 l1 l2 l3 l4 : Int) (m : Mem) : Option R2 :=
chk9 (0 < l0) <|
calT (X11_eventKind l0 l1 l2 l3 m) (fun v2 m3 =>
chk9 (0 < l4) <|
st9 (upd9 m3 l4 0 v2) fun m6 =>
some (0, m6)) (fun e8 m3 =>
if e8 = 1 then (
some (1, m3))
else
none)
def L_eventKind (a0 a1 a2 a3 a4 : Int) (m : Mem) : Option R2 := L_eventKind_0 a0 a1 a2 a3 a4 m
def L_eventNumber_0 (l0 l1 l2 l3 l4 l5 : Int) (m : Mem) : Option R2 :=
chk9 (0 < l0) <|
calT (X11_eventNumber l0 l1 l2 l3 l4 m) (fun v2 m3 =>
chk9 (0 < l5) <|
st9 (upd9 m3 l5 0 v2) fun m6 =>
some (0, m6)) (fun e8 m3 =>
if e8 = 1 then (
some (1, m3))
else
none)
def L_eventNumber (a0 a1 a2 a3 a4 a5 : Int) (m : Mem) : Option R2 := L_eventNumber_0 a0 a1 a2 a3 a4 a5 m
def L_property_0 (l0 l1 l2 l3 : Int) (m : Mem) : Option R2 :=
chk9 (0 < l0) <|
calT (X11_property l0 l1 l2 m) (fun v2 m3 =>
chk9 (0 < l3) <|
st9 (upd9 m3 l3 0 v2) fun m6 =>
some (0, m6)) (fun e8 m3 =>
if e8 = 1 then (
some (1, m3))
else
if e8 = 2 then (
some (2, m3))
else
none)
def L_property (a0 a1 a2 a3 : Int) (m : Mem) : Option R2 := L_property_0 a0 a1 a2 a3 m
def L_found_0 (l0 l1 l2 l3 l4 : Int) (m : Mem) : Option R2 :=
chk9 (0 < l0) <|
calT (X11_found l0 l1 l2 l3 m) (fun v2 m3 =>
chk9 (0 < l4) <|
st9 (upd9 m3 l4 0 v2) fun m6 =>
some (0, m6)) (fun e8 m3 =>
if e8 = 2 then (
some (1, m3))
else
none)
def L_found (a0 a1 a2 a3 a4 : Int) (m : Mem) : Option R2 := L_found_0 a0 a1 a2 a3 a4 m
def L_isDue_0 (l0 l1 l2 : Int) (m : Mem) : Option R2 :=
chk9 (0 < l0) <|
calT (X11_isDue l0 l1 m) (fun v2 m3 =>
if v2 = 0 then (
chk9 (0 < l2) <|
st9 (upd9 m3 l2 0 0) fun m7 =>
some (0, m7))
else
chk9 (0 < l2) <|
st9 (upd9 m3 l2 0 1) fun m9 =>
some (0, m9)) (fun e11 m3 =>
if e11 = 1 then (
some (1, m3))
else
none)
def L_isDue (a0 a1 a2 : Int) (m : Mem) : Option R2 := L_isDue_0 a0 a1 a2 m
def L_register_0 (l0 l1 l2 : Int) (m : Mem) : Option R2 :=
chk9 (0 < l0) <|
calT (X11_register l0 l1 m) (fun v2 m3 =>
chk9 (0 < l2) <|
st9 (upd9 m3 l2 0 v2) fun m6 =>
some (0, m6)) (fun e8 m3 =>
if e8 = 1 then (
some (1, m3))
else
none)
def L_register (a0 a1 a2 : Int) (m : Mem) : Option R2 := L_register_0 a0 a1 a2 m
def L_place_0 (l0 l1 l2 : Int) (m : Mem) : Option R2 :=
chk9 (0 < l0) <|
calT (X11_place l0 l1 m) (fun v2 m3 =>
chk9 (0 < l2) <|
st9 (upd9 m3 l2 0 v2) fun m6 =>
some (0, m6)) (fun e8 m3 =>
if e8 = 1 then (
some (1, m3))
else
none)
def L_place (a0 a1 a2 : Int) (m : Mem) : Option R2 := L_place_0 a0 a1 a2 m
def L_registerAnew_0 (l0 l1 l2 l3 : Int) (m : Mem) : Option R2 :=
chk9 (0 < l0) <|
calT (X11_registerAnew l0 l1 l2 m) (fun v2 m3 =>
chk9 (0 < l3) <|
st9 (upd9 m3 l3 0 v2) fun m6 =>
some (0, m6)) (fun e8 m3 =>
if e8 = 1 then (
some (1, m3))
else
none)
def L_registerAnew (a0 a1 a2 a3 : Int) (m : Mem) : Option R2 := L_registerAnew_0 a0 a1 a2 a3 m
def L_law_598 (k23 : Int → Int → Int → Int → Mem → Option R2) (l1 l2 l3 l4 s0 s1 : Int) (m : Mem) : Option R2 :=
if (if s0 < s1 then 1 else if s1 = s0 then 0 else -1) = 0 then (
chk9 (iR (l4 + 5)) <|
k23 l1 l2 l3 (l4 + 5) m)
else
some (0, m)
def L_law_661 (k23 : Int → Int → Int → Int → Mem → Option R2) (l1 l2 l3 l4 s0 s1 : Int) (m : Mem) : Option R2 :=
if (if s0 < s1 then 1 else if s1 = s0 then 0 else -1) = 0 then (
chk9 (iR (l4 + 5)) <|
k23 l1 l2 l3 (l4 + 5) m)
else
some (0, m)
def L_law_1052 (k23 : Int → Int → Int → Int → Mem → Option R2) (l1 l2 l3 l4 s0 s1 : Int) (m : Mem) : Option R2 :=
if (if s0 < s1 then 1 else if s1 = s0 then 0 else -1) = 0 then (
chk9 (iR (l4 + 5)) <|
k23 l1 l2 l3 (l4 + 5) m)
else
some (0, m)
def L_law_1199 (k23 : Int → Int → Int → Int → Mem → Option R2) (l1 l2 l3 l4 s0 s1 : Int) (m : Mem) : Option R2 :=
if (if s0 < s1 then 1 else if s1 = s0 then 0 else -1) = 0 then (
chk9 (iR (l4 + 5)) <|
k23 l1 l2 l3 (l4 + 5) m)
else
some (0, m)
def L_law_1165 (k23 : Int → Int → Int → Int → Mem → Option R2) (l1 l2 l3 l4 l5 s0 s1 s2 : Int) (m : Mem) : Option R2 :=
chk9 (0 < s2) <|
cal (X12_run s2 s1 s0 m) fun v2 m3 =>
chk9 (0 < l2) <|
cal (X12_thrown l2 m3) fun v6 m7 =>
if v6 = l5 then (
if l5 = 0 then (
chk9 (0 < l3) <|
if v2 = 0 then (
L_law_1199 k23 l1 l2 l3 l4 0 (m7 l3 0) m7)
else
L_law_1199 k23 l1 l2 l3 l4 1 (m7 l3 0) m7)
else
chk9 (iR (l4 + 5)) <|
k23 l1 l2 l3 (l4 + 5) m7)
else
some (0, m7)
def L_law_1138 (k23 : Int → Int → Int → Int → Mem → Option R2) (l1 l2 l3 l4 s0 s1 s2 : Int) (m : Mem) : Option R2 :=
cal (L_run s2 s1 s0 l3 m) fun v1 m2 =>
chk9 (iR (l4 + 1)) <|
chk9 (m2 (-4) 0 ≤ 2560 ∧ 0 ≤ (l4 + 1) ∧ (l4 + 1) < m2 (-4) 0) <|
chk9 (iR (l4 + 2)) <|
chk9 (m2 (-4) 0 ≤ 2560 ∧ 0 ≤ (l4 + 2) ∧ (l4 + 2) < m2 (-4) 0) <|
if m2 (-3) (l4 + 2) = 0 then (
L_law_1165 k23 l1 l2 l3 l4 v1 0 (m2 (-3) (l4 + 1)) l2 m2)
else
L_law_1165 k23 l1 l2 l3 l4 v1 1 (m2 (-3) (l4 + 1)) l2 m2
def L_law_1814 (k23 : Int → Int → Int → Int → Mem → Option R2) (l1 l2 l3 l4 l5 s0 s1 s2 s3 s4 : Int) (m : Mem) : Option R2 :=
chk9 (0 < s4) <|
cal (X12_eventNumber s4 s3 s2 s1 s0 m) fun v2 m3 =>
chk9 (0 < l2) <|
cal (X12_thrown l2 m3) fun v6 m7 =>
if v6 = l5 then (
if l5 = 0 then (
chk9 (0 < l3) <|
if (if v2 < m7 l3 0 then 1 else if m7 l3 0 = v2 then 0 else -1) = 0 then (
chk9 (iR (l4 + 5)) <|
k23 l1 l2 l3 (l4 + 5) m7)
else
some (0, m7))
else
chk9 (iR (l4 + 5)) <|
k23 l1 l2 l3 (l4 + 5) m7)
else
some (0, m7)
def L_law_1775 (k23 : Int → Int → Int → Int → Mem → Option R2) (l1 l2 l3 l4 s0 s1 s2 s3 s4 : Int) (m : Mem) : Option R2 :=
cal (L_eventNumber s4 s3 s2 s1 s0 l3 m) fun v1 m2 =>
chk9 (iR (l4 + 1)) <|
chk9 (m2 (-4) 0 ≤ 2560 ∧ 0 ≤ (l4 + 1) ∧ (l4 + 1) < m2 (-4) 0) <|
chk9 (iR (l4 + 2)) <|
chk9 (m2 (-4) 0 ≤ 2560 ∧ 0 ≤ (l4 + 2) ∧ (l4 + 2) < m2 (-4) 0) <|
chk9 (iR (l4 + 3)) <|
chk9 (m2 (-4) 0 ≤ 2560 ∧ 0 ≤ (l4 + 3) ∧ (l4 + 3) < m2 (-4) 0) <|
chk9 (iR (l4 + 4)) <|
chk9 (m2 (-4) 0 ≤ 2560 ∧ 0 ≤ (l4 + 4) ∧ (l4 + 4) < m2 (-4) 0) <|
if m2 (-3) (l4 + 4) = 0 then (
L_law_1814 k23 l1 l2 l3 l4 v1 0 (m2 (-3) (l4 + 3)) (m2 (-3) (l4 + 2)) (m2 (-3) (l4 + 1)) l2 m2)
else
L_law_1814 k23 l1 l2 l3 l4 v1 1 (m2 (-3) (l4 + 3)) (m2 (-3) (l4 + 2)) (m2 (-3) (l4 + 1)) l2 m2
def L_law_2052 (k23 : Int → Int → Int → Int → Mem → Option R2) (l1 l2 l3 l4 s0 s1 : Int) (m : Mem) : Option R2 :=
if (if s0 < s1 then 1 else if s1 = s0 then 0 else -1) = 0 then (
chk9 (iR (l4 + 5)) <|
k23 l1 l2 l3 (l4 + 5) m)
else
some (0, m)
def L_law_23 : Nat → Int → Int → Int → Int → Mem → Option R2
  | 0, _, _, _, _, _ => none
  | n + 1, l1, l2, l3, l4, m => (
chk9 (m (-4) 0 ≤ 2560) <|
chk9 (iR (m (-4) 0 - 5)) <|
if (m (-4) 0 - 5) < l4 then (
some (1, m))
else
chk9 (m (-4) 0 ≤ 2560 ∧ 0 ≤ l4 ∧ l4 < m (-4) 0) <|
if (Int32.ofInt (m (-3) l4) &&& Int32.ofInt 31).toInt = 0 then (
chk9 (iR (l4 + 1)) <|
chk9 (m (-4) 0 ≤ 2560 ∧ 0 ≤ (l4 + 1) ∧ (l4 + 1) < m (-4) 0) <|
chk9 (iR (l4 + 2)) <|
chk9 (m (-4) 0 ≤ 2560 ∧ 0 ≤ (l4 + 2) ∧ (l4 + 2) < m (-4) 0) <|
chk9 (iR (l4 + 3)) <|
chk9 (m (-4) 0 ≤ 2560 ∧ 0 ≤ (l4 + 3) ∧ (l4 + 3) < m (-4) 0) <|
chk9 (iR (l4 + 4)) <|
chk9 (m (-4) 0 ≤ 2560 ∧ 0 ≤ (l4 + 4) ∧ (l4 + 4) < m (-4) 0) <|
cal (L_step l1 (m (-3) (l4 + 1)) (m (-3) (l4 + 2)) (m (-3) (l4 + 3)) (m (-3) (l4 + 4)) l3 m) fun v24 m25 =>
chk9 (iR (l4 + 1)) <|
chk9 (m25 (-4) 0 ≤ 2560 ∧ 0 ≤ (l4 + 1) ∧ (l4 + 1) < m25 (-4) 0) <|
chk9 (iR (l4 + 2)) <|
chk9 (m25 (-4) 0 ≤ 2560 ∧ 0 ≤ (l4 + 2) ∧ (l4 + 2) < m25 (-4) 0) <|
chk9 (iR (l4 + 3)) <|
chk9 (m25 (-4) 0 ≤ 2560 ∧ 0 ≤ (l4 + 3) ∧ (l4 + 3) < m25 (-4) 0) <|
chk9 (iR (l4 + 4)) <|
chk9 (m25 (-4) 0 ≤ 2560 ∧ 0 ≤ (l4 + 4) ∧ (l4 + 4) < m25 (-4) 0) <|
chk9 (0 < l2) <|
cal (X12_step l2 (m25 (-3) (l4 + 1)) (m25 (-3) (l4 + 2)) (m25 (-3) (l4 + 3)) (m25 (-3) (l4 + 4)) m25) fun v44 m45 =>
cal (X12_thrown l2 m45) fun v47 m48 =>
if v47 = v24 then (
if v24 = 0 then (
chk9 (0 < l3) <|
if (if v44 < m48 l3 0 then 1 else if m48 l3 0 = v44 then 0 else -1) = 0 then (
chk9 (iR (l4 + 5)) <|
L_law_23 n l1 l2 l3 (l4 + 5) m48)
else
some (0, m48))
else
chk9 (iR (l4 + 5)) <|
L_law_23 n l1 l2 l3 (l4 + 5) m48)
else
some (0, m48))
else
if (Int32.ofInt (m (-3) l4) &&& Int32.ofInt 31).toInt = 1 then (
chk9 (iR (l4 + 1)) <|
chk9 (m (-4) 0 ≤ 2560 ∧ 0 ≤ (l4 + 1) ∧ (l4 + 1) < m (-4) 0) <|
cal (L_forget l1 (m (-3) (l4 + 1)) l3 m) fun v61 m62 =>
chk9 (iR (l4 + 1)) <|
chk9 (m62 (-4) 0 ≤ 2560 ∧ 0 ≤ (l4 + 1) ∧ (l4 + 1) < m62 (-4) 0) <|
chk9 (0 < l2) <|
cal (X12_forget l2 (m62 (-3) (l4 + 1)) m62) fun v69 m70 =>
cal (X12_thrown l2 m70) fun v72 m73 =>
if v72 = v61 then (
if v61 = 0 then (
chk9 (0 < l3) <|
if (if v69 < m73 l3 0 then 1 else if m73 l3 0 = v69 then 0 else -1) = 0 then (
chk9 (iR (l4 + 5)) <|
L_law_23 n l1 l2 l3 (l4 + 5) m73)
else
some (0, m73))
else
chk9 (iR (l4 + 5)) <|
L_law_23 n l1 l2 l3 (l4 + 5) m73)
else
some (0, m73))
else
if (Int32.ofInt (m (-3) l4) &&& Int32.ofInt 31).toInt = 2 then (
chk9 (iR (l4 + 1)) <|
chk9 (m (-4) 0 ≤ 2560 ∧ 0 ≤ (l4 + 1) ∧ (l4 + 1) < m (-4) 0) <|
cal (L_release l1 (m (-3) (l4 + 1)) l3 m) fun v86 m87 =>
chk9 (iR (l4 + 1)) <|
chk9 (m87 (-4) 0 ≤ 2560 ∧ 0 ≤ (l4 + 1) ∧ (l4 + 1) < m87 (-4) 0) <|
chk9 (0 < l2) <|
cal (X12_release l2 (m87 (-3) (l4 + 1)) m87) fun v94 m95 =>
cal (X12_thrown l2 m95) fun v97 m98 =>
if v97 = v86 then (
if v86 = 0 then (
chk9 (0 < l3) <|
if (if v94 < m98 l3 0 then 1 else if m98 l3 0 = v94 then 0 else -1) = 0 then (
chk9 (iR (l4 + 5)) <|
L_law_23 n l1 l2 l3 (l4 + 5) m98)
else
some (0, m98))
else
chk9 (iR (l4 + 5)) <|
L_law_23 n l1 l2 l3 (l4 + 5) m98)
else
some (0, m98))
else
if (Int32.ofInt (m (-3) l4) &&& Int32.ofInt 31).toInt = 3 then (
chk9 (iR (l4 + 1)) <|
chk9 (m (-4) 0 ≤ 2560 ∧ 0 ≤ (l4 + 1) ∧ (l4 + 1) < m (-4) 0) <|
cal (L_versions l1 (m (-3) (l4 + 1)) l3 m) fun v111 m112 =>
chk9 (iR (l4 + 1)) <|
chk9 (m112 (-4) 0 ≤ 2560 ∧ 0 ≤ (l4 + 1) ∧ (l4 + 1) < m112 (-4) 0) <|
chk9 (0 < l2) <|
cal (X12_versions l2 (m112 (-3) (l4 + 1)) m112) fun v119 m120 =>
cal (X12_thrown l2 m120) fun v122 m123 =>
if v122 = v111 then (
if v111 = 0 then (
chk9 (0 < l3) <|
if (if v119 < m123 l3 0 then 1 else if m123 l3 0 = v119 then 0 else -1) = 0 then (
chk9 (iR (l4 + 5)) <|
L_law_23 n l1 l2 l3 (l4 + 5) m123)
else
some (0, m123))
else
chk9 (iR (l4 + 5)) <|
L_law_23 n l1 l2 l3 (l4 + 5) m123)
else
some (0, m123))
else
if (Int32.ofInt (m (-3) l4) &&& Int32.ofInt 31).toInt = 4 then (
chk9 (iR (l4 + 1)) <|
chk9 (m (-4) 0 ≤ 2560 ∧ 0 ≤ (l4 + 1) ∧ (l4 + 1) < m (-4) 0) <|
chk9 (iR (l4 + 2)) <|
chk9 (m (-4) 0 ≤ 2560 ∧ 0 ≤ (l4 + 2) ∧ (l4 + 2) < m (-4) 0) <|
chk9 (iR (l4 + 3)) <|
chk9 (m (-4) 0 ≤ 2560 ∧ 0 ≤ (l4 + 3) ∧ (l4 + 3) < m (-4) 0) <|
cal (L_start l1 (m (-3) (l4 + 1)) (m (-3) (l4 + 2)) (m (-3) (l4 + 3)) l3 m) fun v144 m145 =>
chk9 (iR (l4 + 1)) <|
chk9 (m145 (-4) 0 ≤ 2560 ∧ 0 ≤ (l4 + 1) ∧ (l4 + 1) < m145 (-4) 0) <|
chk9 (iR (l4 + 2)) <|
chk9 (m145 (-4) 0 ≤ 2560 ∧ 0 ≤ (l4 + 2) ∧ (l4 + 2) < m145 (-4) 0) <|
chk9 (iR (l4 + 3)) <|
chk9 (m145 (-4) 0 ≤ 2560 ∧ 0 ≤ (l4 + 3) ∧ (l4 + 3) < m145 (-4) 0) <|
chk9 (0 < l2) <|
cal (X12_start l2 (m145 (-3) (l4 + 1)) (m145 (-3) (l4 + 2)) (m145 (-3) (l4 + 3)) m145) fun v160 m161 =>
cal (X12_thrown l2 m161) fun v163 m164 =>
if v163 = v144 then (
if v144 = 0 then (
chk9 (0 < l3) <|
if (if v160 < m164 l3 0 then 1 else if m164 l3 0 = v160 then 0 else -1) = 0 then (
chk9 (iR (l4 + 5)) <|
L_law_23 n l1 l2 l3 (l4 + 5) m164)
else
some (0, m164))
else
chk9 (iR (l4 + 5)) <|
L_law_23 n l1 l2 l3 (l4 + 5) m164)
else
some (0, m164))
else
if (Int32.ofInt (m (-3) l4) &&& Int32.ofInt 31).toInt = 5 then (
chk9 (iR (l4 + 1)) <|
chk9 (m (-4) 0 ≤ 2560 ∧ 0 ≤ (l4 + 1) ∧ (l4 + 1) < m (-4) 0) <|
chk9 (iR (l4 + 2)) <|
chk9 (m (-4) 0 ≤ 2560 ∧ 0 ≤ (l4 + 2) ∧ (l4 + 2) < m (-4) 0) <|
chk9 (iR (l4 + 3)) <|
chk9 (m (-4) 0 ≤ 2560 ∧ 0 ≤ (l4 + 3) ∧ (l4 + 3) < m (-4) 0) <|
cal (L_signal l1 (m (-3) (l4 + 1)) (m (-3) (l4 + 2)) (m (-3) (l4 + 3)) l3 m) fun v185 m186 =>
chk9 (iR (l4 + 1)) <|
chk9 (m186 (-4) 0 ≤ 2560 ∧ 0 ≤ (l4 + 1) ∧ (l4 + 1) < m186 (-4) 0) <|
chk9 (iR (l4 + 2)) <|
chk9 (m186 (-4) 0 ≤ 2560 ∧ 0 ≤ (l4 + 2) ∧ (l4 + 2) < m186 (-4) 0) <|
chk9 (iR (l4 + 3)) <|
chk9 (m186 (-4) 0 ≤ 2560 ∧ 0 ≤ (l4 + 3) ∧ (l4 + 3) < m186 (-4) 0) <|
chk9 (0 < l2) <|
cal (X12_signal l2 (m186 (-3) (l4 + 1)) (m186 (-3) (l4 + 2)) (m186 (-3) (l4 + 3)) m186) fun v201 m202 =>
cal (X12_thrown l2 m202) fun v204 m205 =>
if v204 = v185 then (
if v185 = 0 then (
chk9 (0 < l3) <|
if v201 = 0 then (
L_law_598 (L_law_23 n) l1 l2 l3 l4 0 (m205 l3 0) m205)
else
L_law_598 (L_law_23 n) l1 l2 l3 l4 1 (m205 l3 0) m205)
else
chk9 (iR (l4 + 5)) <|
L_law_23 n l1 l2 l3 (l4 + 5) m205)
else
some (0, m205))
else
if (Int32.ofInt (m (-3) l4) &&& Int32.ofInt 31).toInt = 6 then (
chk9 (iR (l4 + 1)) <|
chk9 (m (-4) 0 ≤ 2560 ∧ 0 ≤ (l4 + 1) ∧ (l4 + 1) < m (-4) 0) <|
cal (L_cancel l1 (m (-3) (l4 + 1)) l3 m) fun v217 m218 =>
chk9 (iR (l4 + 1)) <|
chk9 (m218 (-4) 0 ≤ 2560 ∧ 0 ≤ (l4 + 1) ∧ (l4 + 1) < m218 (-4) 0) <|
chk9 (0 < l2) <|
cal (X12_cancel l2 (m218 (-3) (l4 + 1)) m218) fun v225 m226 =>
cal (X12_thrown l2 m226) fun v228 m229 =>
if v228 = v217 then (
if v217 = 0 then (
chk9 (0 < l3) <|
if v225 = 0 then (
L_law_661 (L_law_23 n) l1 l2 l3 l4 0 (m229 l3 0) m229)
else
L_law_661 (L_law_23 n) l1 l2 l3 l4 1 (m229 l3 0) m229)
else
chk9 (iR (l4 + 5)) <|
L_law_23 n l1 l2 l3 (l4 + 5) m229)
else
some (0, m229))
else
if (Int32.ofInt (m (-3) l4) &&& Int32.ofInt 31).toInt = 7 then (
chk9 (iR (l4 + 1)) <|
chk9 (m (-4) 0 ≤ 2560 ∧ 0 ≤ (l4 + 1) ∧ (l4 + 1) < m (-4) 0) <|
chk9 (iR (l4 + 2)) <|
chk9 (m (-4) 0 ≤ 2560 ∧ 0 ≤ (l4 + 2) ∧ (l4 + 2) < m (-4) 0) <|
cal (L_decide l1 (m (-3) (l4 + 1)) (m (-3) (l4 + 2)) l3 m) fun v245 m246 =>
chk9 (iR (l4 + 1)) <|
chk9 (m246 (-4) 0 ≤ 2560 ∧ 0 ≤ (l4 + 1) ∧ (l4 + 1) < m246 (-4) 0) <|
chk9 (iR (l4 + 2)) <|
chk9 (m246 (-4) 0 ≤ 2560 ∧ 0 ≤ (l4 + 2) ∧ (l4 + 2) < m246 (-4) 0) <|
chk9 (0 < l2) <|
cal (X12_decide l2 (m246 (-3) (l4 + 1)) (m246 (-3) (l4 + 2)) m246) fun v257 m258 =>
cal (X12_thrown l2 m258) fun v260 m261 =>
if v260 = v245 then (
if v245 = 0 then (
chk9 (0 < l3) <|
if (if v257 < m261 l3 0 then 1 else if m261 l3 0 = v257 then 0 else -1) = 0 then (
chk9 (iR (l4 + 5)) <|
L_law_23 n l1 l2 l3 (l4 + 5) m261)
else
some (0, m261))
else
chk9 (iR (l4 + 5)) <|
L_law_23 n l1 l2 l3 (l4 + 5) m261)
else
some (0, m261))
else
if (Int32.ofInt (m (-3) l4) &&& Int32.ofInt 31).toInt = 8 then (
chk9 (iR (l4 + 1)) <|
chk9 (m (-4) 0 ≤ 2560 ∧ 0 ≤ (l4 + 1) ∧ (l4 + 1) < m (-4) 0) <|
chk9 (iR (l4 + 2)) <|
chk9 (m (-4) 0 ≤ 2560 ∧ 0 ≤ (l4 + 2) ∧ (l4 + 2) < m (-4) 0) <|
cal (L_setRate l1 (m (-3) (l4 + 1)) (m (-3) (l4 + 2)) l3 m) fun v278 m279 =>
chk9 (iR (l4 + 1)) <|
chk9 (m279 (-4) 0 ≤ 2560 ∧ 0 ≤ (l4 + 1) ∧ (l4 + 1) < m279 (-4) 0) <|
chk9 (iR (l4 + 2)) <|
chk9 (m279 (-4) 0 ≤ 2560 ∧ 0 ≤ (l4 + 2) ∧ (l4 + 2) < m279 (-4) 0) <|
chk9 (0 < l2) <|
cal (X12_setRate l2 (m279 (-3) (l4 + 1)) (m279 (-3) (l4 + 2)) m279) fun v290 m291 =>
cal (X12_thrown l2 m291) fun v293 m294 =>
if v293 = v278 then (
if v278 = 0 then (
chk9 (0 < l3) <|
if (if v290 < m294 l3 0 then 1 else if m294 l3 0 = v290 then 0 else -1) = 0 then (
chk9 (iR (l4 + 5)) <|
L_law_23 n l1 l2 l3 (l4 + 5) m294)
else
some (0, m294))
else
chk9 (iR (l4 + 5)) <|
L_law_23 n l1 l2 l3 (l4 + 5) m294)
else
some (0, m294))
else
if (Int32.ofInt (m (-3) l4) &&& Int32.ofInt 31).toInt = 9 then (
chk9 (iR (l4 + 1)) <|
chk9 (m (-4) 0 ≤ 2560 ∧ 0 ≤ (l4 + 1) ∧ (l4 + 1) < m (-4) 0) <|
chk9 (iR (l4 + 2)) <|
chk9 (m (-4) 0 ≤ 2560 ∧ 0 ≤ (l4 + 2) ∧ (l4 + 2) < m (-4) 0) <|
cal (L_take l1 (m (-3) (l4 + 1)) (m (-3) (l4 + 2)) l3 m) fun v311 m312 =>
chk9 (iR (l4 + 1)) <|
chk9 (m312 (-4) 0 ≤ 2560 ∧ 0 ≤ (l4 + 1) ∧ (l4 + 1) < m312 (-4) 0) <|
chk9 (iR (l4 + 2)) <|
chk9 (m312 (-4) 0 ≤ 2560 ∧ 0 ≤ (l4 + 2) ∧ (l4 + 2) < m312 (-4) 0) <|
chk9 (0 < l2) <|
cal (X12_take l2 (m312 (-3) (l4 + 1)) (m312 (-3) (l4 + 2)) m312) fun v323 m324 =>
cal (X12_thrown l2 m324) fun v326 m327 =>
if v326 = v311 then (
if v311 = 0 then (
chk9 (0 < l3) <|
if (if v323 < m327 l3 0 then 1 else if m327 l3 0 = v323 then 0 else -1) = 0 then (
chk9 (iR (l4 + 5)) <|
L_law_23 n l1 l2 l3 (l4 + 5) m327)
else
some (0, m327))
else
chk9 (iR (l4 + 5)) <|
L_law_23 n l1 l2 l3 (l4 + 5) m327)
else
some (0, m327))
else
if (Int32.ofInt (m (-3) l4) &&& Int32.ofInt 31).toInt = 10 then (
chk9 (iR (l4 + 1)) <|
chk9 (m (-4) 0 ≤ 2560 ∧ 0 ≤ (l4 + 1) ∧ (l4 + 1) < m (-4) 0) <|
cal (L_has l1 (m (-3) (l4 + 1)) l3 m) fun v340 m341 =>
chk9 (iR (l4 + 1)) <|
chk9 (m341 (-4) 0 ≤ 2560 ∧ 0 ≤ (l4 + 1) ∧ (l4 + 1) < m341 (-4) 0) <|
chk9 (0 < l2) <|
cal (X12_has l2 (m341 (-3) (l4 + 1)) m341) fun v348 m349 =>
cal (X12_thrown l2 m349) fun v351 m352 =>
if v351 = v340 then (
if v340 = 0 then (
chk9 (0 < l3) <|
if (if v348 < m352 l3 0 then 1 else if m352 l3 0 = v348 then 0 else -1) = 0 then (
chk9 (iR (l4 + 5)) <|
L_law_23 n l1 l2 l3 (l4 + 5) m352)
else
some (0, m352))
else
chk9 (iR (l4 + 5)) <|
L_law_23 n l1 l2 l3 (l4 + 5) m352)
else
some (0, m352))
else
if (Int32.ofInt (m (-3) l4) &&& Int32.ofInt 31).toInt = 11 then (
chk9 (iR (l4 + 1)) <|
chk9 (m (-4) 0 ≤ 2560 ∧ 0 ≤ (l4 + 1) ∧ (l4 + 1) < m (-4) 0) <|
cal (L_beat l1 (m (-3) (l4 + 1)) l3 m) fun v365 m366 =>
chk9 (iR (l4 + 1)) <|
chk9 (m366 (-4) 0 ≤ 2560 ∧ 0 ≤ (l4 + 1) ∧ (l4 + 1) < m366 (-4) 0) <|
chk9 (0 < l2) <|
cal (X12_beat l2 (m366 (-3) (l4 + 1)) m366) fun v373 m374 =>
cal (X12_thrown l2 m374) fun v376 m377 =>
if v376 = v365 then (
if v365 = 0 then (
chk9 (0 < l3) <|
if (if v373 < m377 l3 0 then 1 else if m377 l3 0 = v373 then 0 else -1) = 0 then (
chk9 (iR (l4 + 5)) <|
L_law_23 n l1 l2 l3 (l4 + 5) m377)
else
some (0, m377))
else
chk9 (iR (l4 + 5)) <|
L_law_23 n l1 l2 l3 (l4 + 5) m377)
else
some (0, m377))
else
if (Int32.ofInt (m (-3) l4) &&& Int32.ofInt 31).toInt = 12 then (
chk9 (iR (l4 + 1)) <|
chk9 (m (-4) 0 ≤ 2560 ∧ 0 ≤ (l4 + 1) ∧ (l4 + 1) < m (-4) 0) <|
chk9 (iR (l4 + 2)) <|
chk9 (m (-4) 0 ≤ 2560 ∧ 0 ≤ (l4 + 2) ∧ (l4 + 2) < m (-4) 0) <|
cal (L_end l1 (m (-3) (l4 + 1)) (m (-3) (l4 + 2)) l3 m) fun v394 m395 =>
chk9 (iR (l4 + 1)) <|
chk9 (m395 (-4) 0 ≤ 2560 ∧ 0 ≤ (l4 + 1) ∧ (l4 + 1) < m395 (-4) 0) <|
chk9 (iR (l4 + 2)) <|
chk9 (m395 (-4) 0 ≤ 2560 ∧ 0 ≤ (l4 + 2) ∧ (l4 + 2) < m395 (-4) 0) <|
chk9 (0 < l2) <|
cal (X12_end l2 (m395 (-3) (l4 + 1)) (m395 (-3) (l4 + 2)) m395) fun v406 m407 =>
cal (X12_thrown l2 m407) fun v409 m410 =>
if v409 = v394 then (
if v394 = 0 then (
chk9 (0 < l3) <|
if v406 = 0 then (
L_law_1052 (L_law_23 n) l1 l2 l3 l4 0 (m410 l3 0) m410)
else
L_law_1052 (L_law_23 n) l1 l2 l3 l4 1 (m410 l3 0) m410)
else
chk9 (iR (l4 + 5)) <|
L_law_23 n l1 l2 l3 (l4 + 5) m410)
else
some (0, m410))
else
if (Int32.ofInt (m (-3) l4) &&& Int32.ofInt 31).toInt = 13 then (
chk9 (iR (l4 + 1)) <|
chk9 (m (-4) 0 ≤ 2560 ∧ 0 ≤ (l4 + 1) ∧ (l4 + 1) < m (-4) 0) <|
cal (L_fail l1 (m (-3) (l4 + 1)) l3 m) fun v422 m423 =>
chk9 (iR (l4 + 1)) <|
chk9 (m423 (-4) 0 ≤ 2560 ∧ 0 ≤ (l4 + 1) ∧ (l4 + 1) < m423 (-4) 0) <|
chk9 (0 < l2) <|
cal (X12_fail l2 (m423 (-3) (l4 + 1)) m423) fun v430 m431 =>
cal (X12_thrown l2 m431) fun v433 m434 =>
if v433 = v422 then (
if v422 = 0 then (
chk9 (0 < l3) <|
if (if v430 < m434 l3 0 then 1 else if m434 l3 0 = v430 then 0 else -1) = 0 then (
chk9 (iR (l4 + 5)) <|
L_law_23 n l1 l2 l3 (l4 + 5) m434)
else
some (0, m434))
else
chk9 (iR (l4 + 5)) <|
L_law_23 n l1 l2 l3 (l4 + 5) m434)
else
some (0, m434))
else
if (Int32.ofInt (m (-3) l4) &&& Int32.ofInt 31).toInt = 14 then (
chk9 (iR (l4 + 1)) <|
chk9 (m (-4) 0 ≤ 2560 ∧ 0 ≤ (l4 + 1) ∧ (l4 + 1) < m (-4) 0) <|
chk9 (iR (l4 + 2)) <|
chk9 (m (-4) 0 ≤ 2560 ∧ 0 ≤ (l4 + 2) ∧ (l4 + 2) < m (-4) 0) <|
if m (-3) (l4 + 2) = 0 then (
L_law_1138 (L_law_23 n) l1 l2 l3 l4 0 (m (-3) (l4 + 1)) l1 m)
else
L_law_1138 (L_law_23 n) l1 l2 l3 l4 1 (m (-3) (l4 + 1)) l1 m)
else
if (Int32.ofInt (m (-3) l4) &&& Int32.ofInt 31).toInt = 15 then (
chk9 (iR (l4 + 1)) <|
chk9 (m (-4) 0 ≤ 2560 ∧ 0 ≤ (l4 + 1) ∧ (l4 + 1) < m (-4) 0) <|
cal (L_ready l1 (m (-3) (l4 + 1)) l3 m) fun v457 m458 =>
chk9 (iR (l4 + 1)) <|
chk9 (m458 (-4) 0 ≤ 2560 ∧ 0 ≤ (l4 + 1) ∧ (l4 + 1) < m458 (-4) 0) <|
chk9 (0 < l2) <|
cal (X12_ready l2 (m458 (-3) (l4 + 1)) m458) fun v465 m466 =>
cal (X12_thrown l2 m466) fun v468 m469 =>
if v468 = v457 then (
if v457 = 0 then (
chk9 (0 < l3) <|
if (if v465 < m469 l3 0 then 1 else if m469 l3 0 = v465 then 0 else -1) = 0 then (
chk9 (iR (l4 + 5)) <|
L_law_23 n l1 l2 l3 (l4 + 5) m469)
else
some (0, m469))
else
chk9 (iR (l4 + 5)) <|
L_law_23 n l1 l2 l3 (l4 + 5) m469)
else
some (0, m469))
else
if (Int32.ofInt (m (-3) l4) &&& Int32.ofInt 31).toInt = 16 then (
chk9 (iR (l4 + 1)) <|
chk9 (m (-4) 0 ≤ 2560 ∧ 0 ≤ (l4 + 1) ∧ (l4 + 1) < m (-4) 0) <|
chk9 (iR (l4 + 2)) <|
chk9 (m (-4) 0 ≤ 2560 ∧ 0 ≤ (l4 + 2) ∧ (l4 + 2) < m (-4) 0) <|
cal (L_taken l1 (m (-3) (l4 + 1)) (m (-3) (l4 + 2)) l3 m) fun v486 m487 =>
chk9 (iR (l4 + 1)) <|
chk9 (m487 (-4) 0 ≤ 2560 ∧ 0 ≤ (l4 + 1) ∧ (l4 + 1) < m487 (-4) 0) <|
chk9 (iR (l4 + 2)) <|
chk9 (m487 (-4) 0 ≤ 2560 ∧ 0 ≤ (l4 + 2) ∧ (l4 + 2) < m487 (-4) 0) <|
chk9 (0 < l2) <|
cal (X12_taken l2 (m487 (-3) (l4 + 1)) (m487 (-3) (l4 + 2)) m487) fun v498 m499 =>
cal (X12_thrown l2 m499) fun v501 m502 =>
if v501 = v486 then (
if v486 = 0 then (
chk9 (0 < l3) <|
if (if v498 < m502 l3 0 then 1 else if m502 l3 0 = v498 then 0 else -1) = 0 then (
chk9 (iR (l4 + 5)) <|
L_law_23 n l1 l2 l3 (l4 + 5) m502)
else
some (0, m502))
else
chk9 (iR (l4 + 5)) <|
L_law_23 n l1 l2 l3 (l4 + 5) m502)
else
some (0, m502))
else
if (Int32.ofInt (m (-3) l4) &&& Int32.ofInt 31).toInt = 17 then (
chk9 (iR (l4 + 1)) <|
chk9 (m (-4) 0 ≤ 2560 ∧ 0 ≤ (l4 + 1) ∧ (l4 + 1) < m (-4) 0) <|
cal (L_tick l1 (m (-3) (l4 + 1)) l3 m) fun v515 m516 =>
chk9 (iR (l4 + 1)) <|
chk9 (m516 (-4) 0 ≤ 2560 ∧ 0 ≤ (l4 + 1) ∧ (l4 + 1) < m516 (-4) 0) <|
chk9 (0 < l2) <|
cal (X12_tick l2 (m516 (-3) (l4 + 1)) m516) fun v523 m524 =>
cal (X12_thrown l2 m524) fun v526 m527 =>
if v526 = v515 then (
if v515 = 0 then (
chk9 (0 < l3) <|
if (if v523 < m527 l3 0 then 1 else if m527 l3 0 = v523 then 0 else -1) = 0 then (
chk9 (iR (l4 + 5)) <|
L_law_23 n l1 l2 l3 (l4 + 5) m527)
else
some (0, m527))
else
chk9 (iR (l4 + 5)) <|
L_law_23 n l1 l2 l3 (l4 + 5) m527)
else
some (0, m527))
else
if (Int32.ofInt (m (-3) l4) &&& Int32.ofInt 31).toInt = 18 then (
chk9 (0 < l1) <|
cal (X11_clock l1 m) fun v537 m538 =>
chk9 (0 < l2) <|
cal (X12_clock l2 m538) fun v541 m542 =>
if v537 = v541 then (
chk9 (iR (l4 + 5)) <|
L_law_23 n l1 l2 l3 (l4 + 5) m542)
else
some (0, m542))
else
if (Int32.ofInt (m (-3) l4) &&& Int32.ofInt 31).toInt = 19 then (
chk9 (0 < l1) <|
cal (X11_workflows l1 m) fun v548 m549 =>
chk9 (0 < l2) <|
cal (X12_workflows l2 m549) fun v552 m553 =>
if v548 = v552 then (
chk9 (iR (l4 + 5)) <|
L_law_23 n l1 l2 l3 (l4 + 5) m553)
else
some (0, m553))
else
if (Int32.ofInt (m (-3) l4) &&& Int32.ofInt 31).toInt = 20 then (
chk9 (iR (l4 + 1)) <|
chk9 (m (-4) 0 ≤ 2560 ∧ 0 ≤ (l4 + 1) ∧ (l4 + 1) < m (-4) 0) <|
cal (L_parent l1 (m (-3) (l4 + 1)) l3 m) fun v562 m563 =>
chk9 (iR (l4 + 1)) <|
chk9 (m563 (-4) 0 ≤ 2560 ∧ 0 ≤ (l4 + 1) ∧ (l4 + 1) < m563 (-4) 0) <|
chk9 (0 < l2) <|
cal (X12_parent l2 (m563 (-3) (l4 + 1)) m563) fun v570 m571 =>
cal (X12_thrown l2 m571) fun v573 m574 =>
if v573 = v562 then (
if v562 = 0 then (
chk9 (0 < l3) <|
if (if v570 < m574 l3 0 then 1 else if m574 l3 0 = v570 then 0 else -1) = 0 then (
chk9 (iR (l4 + 5)) <|
L_law_23 n l1 l2 l3 (l4 + 5) m574)
else
some (0, m574))
else
chk9 (iR (l4 + 5)) <|
L_law_23 n l1 l2 l3 (l4 + 5) m574)
else
some (0, m574))
else
if (Int32.ofInt (m (-3) l4) &&& Int32.ofInt 31).toInt = 21 then (
chk9 (iR (l4 + 1)) <|
chk9 (m (-4) 0 ≤ 2560 ∧ 0 ≤ (l4 + 1) ∧ (l4 + 1) < m (-4) 0) <|
cal (L_runs l1 (m (-3) (l4 + 1)) l3 m) fun v587 m588 =>
chk9 (iR (l4 + 1)) <|
chk9 (m588 (-4) 0 ≤ 2560 ∧ 0 ≤ (l4 + 1) ∧ (l4 + 1) < m588 (-4) 0) <|
chk9 (0 < l2) <|
cal (X12_runs l2 (m588 (-3) (l4 + 1)) m588) fun v595 m596 =>
cal (X12_thrown l2 m596) fun v598 m599 =>
if v598 = v587 then (
if v587 = 0 then (
chk9 (0 < l3) <|
if (if v595 < m599 l3 0 then 1 else if m599 l3 0 = v595 then 0 else -1) = 0 then (
chk9 (iR (l4 + 5)) <|
L_law_23 n l1 l2 l3 (l4 + 5) m599)
else
some (0, m599))
else
chk9 (iR (l4 + 5)) <|
L_law_23 n l1 l2 l3 (l4 + 5) m599)
else
some (0, m599))
else
if (Int32.ofInt (m (-3) l4) &&& Int32.ofInt 31).toInt = 22 then (
chk9 (iR (l4 + 1)) <|
chk9 (m (-4) 0 ≤ 2560 ∧ 0 ≤ (l4 + 1) ∧ (l4 + 1) < m (-4) 0) <|
chk9 (iR (l4 + 2)) <|
chk9 (m (-4) 0 ≤ 2560 ∧ 0 ≤ (l4 + 2) ∧ (l4 + 2) < m (-4) 0) <|
cal (L_state l1 (m (-3) (l4 + 1)) (m (-3) (l4 + 2)) l3 m) fun v616 m617 =>
chk9 (iR (l4 + 1)) <|
chk9 (m617 (-4) 0 ≤ 2560 ∧ 0 ≤ (l4 + 1) ∧ (l4 + 1) < m617 (-4) 0) <|
chk9 (iR (l4 + 2)) <|
chk9 (m617 (-4) 0 ≤ 2560 ∧ 0 ≤ (l4 + 2) ∧ (l4 + 2) < m617 (-4) 0) <|
chk9 (0 < l2) <|
cal (X12_state l2 (m617 (-3) (l4 + 1)) (m617 (-3) (l4 + 2)) m617) fun v628 m629 =>
cal (X12_thrown l2 m629) fun v631 m632 =>
if v631 = v616 then (
if v616 = 0 then (
chk9 (0 < l3) <|
if (if v628 < m632 l3 0 then 1 else if m632 l3 0 = v628 then 0 else -1) = 0 then (
chk9 (iR (l4 + 5)) <|
L_law_23 n l1 l2 l3 (l4 + 5) m632)
else
some (0, m632))
else
chk9 (iR (l4 + 5)) <|
L_law_23 n l1 l2 l3 (l4 + 5) m632)
else
some (0, m632))
else
if (Int32.ofInt (m (-3) l4) &&& Int32.ofInt 31).toInt = 23 then (
chk9 (iR (l4 + 1)) <|
chk9 (m (-4) 0 ≤ 2560 ∧ 0 ≤ (l4 + 1) ∧ (l4 + 1) < m (-4) 0) <|
chk9 (iR (l4 + 2)) <|
chk9 (m (-4) 0 ≤ 2560 ∧ 0 ≤ (l4 + 2) ∧ (l4 + 2) < m (-4) 0) <|
cal (L_events l1 (m (-3) (l4 + 1)) (m (-3) (l4 + 2)) l3 m) fun v649 m650 =>
chk9 (iR (l4 + 1)) <|
chk9 (m650 (-4) 0 ≤ 2560 ∧ 0 ≤ (l4 + 1) ∧ (l4 + 1) < m650 (-4) 0) <|
chk9 (iR (l4 + 2)) <|
chk9 (m650 (-4) 0 ≤ 2560 ∧ 0 ≤ (l4 + 2) ∧ (l4 + 2) < m650 (-4) 0) <|
chk9 (0 < l2) <|
cal (X12_events l2 (m650 (-3) (l4 + 1)) (m650 (-3) (l4 + 2)) m650) fun v661 m662 =>
cal (X12_thrown l2 m662) fun v664 m665 =>
if v664 = v649 then (
if v649 = 0 then (
chk9 (0 < l3) <|
if (if v661 < m665 l3 0 then 1 else if m665 l3 0 = v661 then 0 else -1) = 0 then (
chk9 (iR (l4 + 5)) <|
L_law_23 n l1 l2 l3 (l4 + 5) m665)
else
some (0, m665))
else
chk9 (iR (l4 + 5)) <|
L_law_23 n l1 l2 l3 (l4 + 5) m665)
else
some (0, m665))
else
if (Int32.ofInt (m (-3) l4) &&& Int32.ofInt 31).toInt = 24 then (
chk9 (iR (l4 + 1)) <|
chk9 (m (-4) 0 ≤ 2560 ∧ 0 ≤ (l4 + 1) ∧ (l4 + 1) < m (-4) 0) <|
chk9 (iR (l4 + 2)) <|
chk9 (m (-4) 0 ≤ 2560 ∧ 0 ≤ (l4 + 2) ∧ (l4 + 2) < m (-4) 0) <|
chk9 (iR (l4 + 3)) <|
chk9 (m (-4) 0 ≤ 2560 ∧ 0 ≤ (l4 + 3) ∧ (l4 + 3) < m (-4) 0) <|
cal (L_eventKind l1 (m (-3) (l4 + 1)) (m (-3) (l4 + 2)) (m (-3) (l4 + 3)) l3 m) fun v686 m687 =>
chk9 (iR (l4 + 1)) <|
chk9 (m687 (-4) 0 ≤ 2560 ∧ 0 ≤ (l4 + 1) ∧ (l4 + 1) < m687 (-4) 0) <|
chk9 (iR (l4 + 2)) <|
chk9 (m687 (-4) 0 ≤ 2560 ∧ 0 ≤ (l4 + 2) ∧ (l4 + 2) < m687 (-4) 0) <|
chk9 (iR (l4 + 3)) <|
chk9 (m687 (-4) 0 ≤ 2560 ∧ 0 ≤ (l4 + 3) ∧ (l4 + 3) < m687 (-4) 0) <|
chk9 (0 < l2) <|
cal (X12_eventKind l2 (m687 (-3) (l4 + 1)) (m687 (-3) (l4 + 2)) (m687 (-3) (l4 + 3)) m687) fun v702 m703 =>
cal (X12_thrown l2 m703) fun v705 m706 =>
if v705 = v686 then (
if v686 = 0 then (
chk9 (0 < l3) <|
if (if v702 < m706 l3 0 then 1 else if m706 l3 0 = v702 then 0 else -1) = 0 then (
chk9 (iR (l4 + 5)) <|
L_law_23 n l1 l2 l3 (l4 + 5) m706)
else
some (0, m706))
else
chk9 (iR (l4 + 5)) <|
L_law_23 n l1 l2 l3 (l4 + 5) m706)
else
some (0, m706))
else
if (Int32.ofInt (m (-3) l4) &&& Int32.ofInt 31).toInt = 25 then (
chk9 (iR (l4 + 1)) <|
chk9 (m (-4) 0 ≤ 2560 ∧ 0 ≤ (l4 + 1) ∧ (l4 + 1) < m (-4) 0) <|
chk9 (iR (l4 + 2)) <|
chk9 (m (-4) 0 ≤ 2560 ∧ 0 ≤ (l4 + 2) ∧ (l4 + 2) < m (-4) 0) <|
chk9 (iR (l4 + 3)) <|
chk9 (m (-4) 0 ≤ 2560 ∧ 0 ≤ (l4 + 3) ∧ (l4 + 3) < m (-4) 0) <|
chk9 (iR (l4 + 4)) <|
chk9 (m (-4) 0 ≤ 2560 ∧ 0 ≤ (l4 + 4) ∧ (l4 + 4) < m (-4) 0) <|
if m (-3) (l4 + 4) = 0 then (
L_law_1775 (L_law_23 n) l1 l2 l3 l4 0 (m (-3) (l4 + 3)) (m (-3) (l4 + 2)) (m (-3) (l4 + 1)) l1 m)
else
L_law_1775 (L_law_23 n) l1 l2 l3 l4 1 (m (-3) (l4 + 3)) (m (-3) (l4 + 2)) (m (-3) (l4 + 1)) l1 m)
else
if (Int32.ofInt (m (-3) l4) &&& Int32.ofInt 31).toInt = 26 then (
chk9 (iR (l4 + 1)) <|
chk9 (m (-4) 0 ≤ 2560 ∧ 0 ≤ (l4 + 1) ∧ (l4 + 1) < m (-4) 0) <|
chk9 (iR (l4 + 2)) <|
chk9 (m (-4) 0 ≤ 2560 ∧ 0 ≤ (l4 + 2) ∧ (l4 + 2) < m (-4) 0) <|
cal (L_property l1 (m (-3) (l4 + 1)) (m (-3) (l4 + 2)) l3 m) fun v741 m742 =>
chk9 (iR (l4 + 1)) <|
chk9 (m742 (-4) 0 ≤ 2560 ∧ 0 ≤ (l4 + 1) ∧ (l4 + 1) < m742 (-4) 0) <|
chk9 (iR (l4 + 2)) <|
chk9 (m742 (-4) 0 ≤ 2560 ∧ 0 ≤ (l4 + 2) ∧ (l4 + 2) < m742 (-4) 0) <|
chk9 (0 < l2) <|
cal (X12_property l2 (m742 (-3) (l4 + 1)) (m742 (-3) (l4 + 2)) m742) fun v753 m754 =>
cal (X12_thrown l2 m754) fun v756 m757 =>
if v756 = v741 then (
if v741 = 0 then (
chk9 (0 < l3) <|
if (if v753 < m757 l3 0 then 1 else if m757 l3 0 = v753 then 0 else -1) = 0 then (
chk9 (iR (l4 + 5)) <|
L_law_23 n l1 l2 l3 (l4 + 5) m757)
else
some (0, m757))
else
chk9 (iR (l4 + 5)) <|
L_law_23 n l1 l2 l3 (l4 + 5) m757)
else
some (0, m757))
else
if (Int32.ofInt (m (-3) l4) &&& Int32.ofInt 31).toInt = 27 then (
chk9 (iR (l4 + 1)) <|
chk9 (m (-4) 0 ≤ 2560 ∧ 0 ≤ (l4 + 1) ∧ (l4 + 1) < m (-4) 0) <|
chk9 (iR (l4 + 2)) <|
chk9 (m (-4) 0 ≤ 2560 ∧ 0 ≤ (l4 + 2) ∧ (l4 + 2) < m (-4) 0) <|
chk9 (iR (l4 + 3)) <|
chk9 (m (-4) 0 ≤ 2560 ∧ 0 ≤ (l4 + 3) ∧ (l4 + 3) < m (-4) 0) <|
cal (L_found l1 (m (-3) (l4 + 1)) (m (-3) (l4 + 2)) (m (-3) (l4 + 3)) l3 m) fun v778 m779 =>
chk9 (iR (l4 + 1)) <|
chk9 (m779 (-4) 0 ≤ 2560 ∧ 0 ≤ (l4 + 1) ∧ (l4 + 1) < m779 (-4) 0) <|
chk9 (iR (l4 + 2)) <|
chk9 (m779 (-4) 0 ≤ 2560 ∧ 0 ≤ (l4 + 2) ∧ (l4 + 2) < m779 (-4) 0) <|
chk9 (iR (l4 + 3)) <|
chk9 (m779 (-4) 0 ≤ 2560 ∧ 0 ≤ (l4 + 3) ∧ (l4 + 3) < m779 (-4) 0) <|
chk9 (0 < l2) <|
cal (X12_found l2 (m779 (-3) (l4 + 1)) (m779 (-3) (l4 + 2)) (m779 (-3) (l4 + 3)) m779) fun v794 m795 =>
cal (X12_thrown l2 m795) fun v797 m798 =>
if v797 = v778 then (
if v778 = 0 then (
chk9 (0 < l3) <|
if (if v794 < m798 l3 0 then 1 else if m798 l3 0 = v794 then 0 else -1) = 0 then (
chk9 (iR (l4 + 5)) <|
L_law_23 n l1 l2 l3 (l4 + 5) m798)
else
some (0, m798))
else
chk9 (iR (l4 + 5)) <|
L_law_23 n l1 l2 l3 (l4 + 5) m798)
else
some (0, m798))
else
if (Int32.ofInt (m (-3) l4) &&& Int32.ofInt 31).toInt = 28 then (
chk9 (iR (l4 + 1)) <|
chk9 (m (-4) 0 ≤ 2560 ∧ 0 ≤ (l4 + 1) ∧ (l4 + 1) < m (-4) 0) <|
cal (L_isDue l1 (m (-3) (l4 + 1)) l3 m) fun v811 m812 =>
chk9 (iR (l4 + 1)) <|
chk9 (m812 (-4) 0 ≤ 2560 ∧ 0 ≤ (l4 + 1) ∧ (l4 + 1) < m812 (-4) 0) <|
chk9 (0 < l2) <|
cal (X12_isDue l2 (m812 (-3) (l4 + 1)) m812) fun v819 m820 =>
cal (X12_thrown l2 m820) fun v822 m823 =>
if v822 = v811 then (
if v811 = 0 then (
chk9 (0 < l3) <|
if v819 = 0 then (
L_law_2052 (L_law_23 n) l1 l2 l3 l4 0 (m823 l3 0) m823)
else
L_law_2052 (L_law_23 n) l1 l2 l3 l4 1 (m823 l3 0) m823)
else
chk9 (iR (l4 + 5)) <|
L_law_23 n l1 l2 l3 (l4 + 5) m823)
else
some (0, m823))
else
if (Int32.ofInt (m (-3) l4) &&& Int32.ofInt 31).toInt = 29 then (
chk9 (iR (l4 + 1)) <|
chk9 (m (-4) 0 ≤ 2560 ∧ 0 ≤ (l4 + 1) ∧ (l4 + 1) < m (-4) 0) <|
cal (L_register l1 (m (-3) (l4 + 1)) l3 m) fun v835 m836 =>
chk9 (iR (l4 + 1)) <|
chk9 (m836 (-4) 0 ≤ 2560 ∧ 0 ≤ (l4 + 1) ∧ (l4 + 1) < m836 (-4) 0) <|
chk9 (0 < l2) <|
cal (X12_register l2 (m836 (-3) (l4 + 1)) m836) fun v843 m844 =>
cal (X12_thrown l2 m844) fun v846 m847 =>
if v846 = v835 then (
if v835 = 0 then (
chk9 (0 < l3) <|
if (if v843 < m847 l3 0 then 1 else if m847 l3 0 = v843 then 0 else -1) = 0 then (
chk9 (iR (l4 + 5)) <|
L_law_23 n l1 l2 l3 (l4 + 5) m847)
else
some (0, m847))
else
chk9 (iR (l4 + 5)) <|
L_law_23 n l1 l2 l3 (l4 + 5) m847)
else
some (0, m847))
else
if (Int32.ofInt (m (-3) l4) &&& Int32.ofInt 31).toInt = 30 then (
chk9 (iR (l4 + 1)) <|
chk9 (m (-4) 0 ≤ 2560 ∧ 0 ≤ (l4 + 1) ∧ (l4 + 1) < m (-4) 0) <|
cal (L_place l1 (m (-3) (l4 + 1)) l3 m) fun v860 m861 =>
chk9 (iR (l4 + 1)) <|
chk9 (m861 (-4) 0 ≤ 2560 ∧ 0 ≤ (l4 + 1) ∧ (l4 + 1) < m861 (-4) 0) <|
chk9 (0 < l2) <|
cal (X12_place l2 (m861 (-3) (l4 + 1)) m861) fun v868 m869 =>
cal (X12_thrown l2 m869) fun v871 m872 =>
if v871 = v860 then (
if v860 = 0 then (
chk9 (0 < l3) <|
if (if v868 < m872 l3 0 then 1 else if m872 l3 0 = v868 then 0 else -1) = 0 then (
chk9 (iR (l4 + 5)) <|
L_law_23 n l1 l2 l3 (l4 + 5) m872)
else
some (0, m872))
else
chk9 (iR (l4 + 5)) <|
L_law_23 n l1 l2 l3 (l4 + 5) m872)
else
some (0, m872))
else
if (Int32.ofInt (m (-3) l4) &&& Int32.ofInt 31).toInt = 31 then (
chk9 (iR (l4 + 1)) <|
chk9 (m (-4) 0 ≤ 2560 ∧ 0 ≤ (l4 + 1) ∧ (l4 + 1) < m (-4) 0) <|
chk9 (iR (l4 + 2)) <|
chk9 (m (-4) 0 ≤ 2560 ∧ 0 ≤ (l4 + 2) ∧ (l4 + 2) < m (-4) 0) <|
cal (L_registerAnew l1 (m (-3) (l4 + 1)) (m (-3) (l4 + 2)) l3 m) fun v889 m890 =>
chk9 (iR (l4 + 1)) <|
chk9 (m890 (-4) 0 ≤ 2560 ∧ 0 ≤ (l4 + 1) ∧ (l4 + 1) < m890 (-4) 0) <|
chk9 (iR (l4 + 2)) <|
chk9 (m890 (-4) 0 ≤ 2560 ∧ 0 ≤ (l4 + 2) ∧ (l4 + 2) < m890 (-4) 0) <|
chk9 (0 < l2) <|
cal (X12_registerAnew l2 (m890 (-3) (l4 + 1)) (m890 (-3) (l4 + 2)) m890) fun v901 m902 =>
cal (X12_thrown l2 m902) fun v904 m905 =>
if v904 = v889 then (
if v889 = 0 then (
chk9 (0 < l3) <|
if (if v901 < m905 l3 0 then 1 else if m905 l3 0 = v901 then 0 else -1) = 0 then (
chk9 (iR (l4 + 5)) <|
L_law_23 n l1 l2 l3 (l4 + 5) m905)
else
some (0, m905))
else
chk9 (iR (l4 + 5)) <|
L_law_23 n l1 l2 l3 (l4 + 5) m905)
else
some (0, m905))
else
chk9 (iR (l4 + 5)) <|
L_law_23 n l1 l2 l3 (l4 + 5) m)
def L_law_0 (m : Mem) : Option R2 :=
chk9 (m (-1) 1 = 0) <|
st9 (alo9 m 1 21 8) fun m2 =>
cal (X11_init 1 m2) fun _ m4 =>
chk9 (m4 (-1) 10 = 0) <|
st9 (alo9 m4 10 22 84) fun m7 =>
cal (X12_init 10 m7) fun _ m9 =>
chk9 (m9 (-1) 8 = 0) <|
st9 (alo9 m9 8 300001 1) fun m12 =>
L_law_23 fuel9 1 10 8 0 m12
def L_law (m : Mem) : Option R2 := boolR (L_law_0 m)
end
