/-! the reference's methods over its fields, printed by wip/whole/gen_g.py -/
noncomputable section
def G_thrown_0 (r : Rst) : Option G2 :=
some (r 0 0, r)
def G_thrown (r : Rst) : Option G2 := G_thrown_0 r
def G_isFine_0 (l1 : Int) (r : Rst) : Option G2 :=
stg (ur r 0 0 l1) fun r1 =>
if l1 = 0 then (
some (1, r1))
else
some (0, r1)
def G_isFine (a1 : Int) (r : Rst) : Option G2 := boolG (G_isFine_0 a1 r)
def G_isIn_0 (l0 l1 l2 : Int) (r : Rst) : Option G2 :=
if l0 < l1 then (
some (0, r))
else
if l2 < l0 then (
some (0, r))
else
some (1, r)
def G_isIn (a0 a1 a2 : Int) (r : Rst) : Option G2 := boolG (G_isIn_0 a0 a1 a2 r)
def G_isType_0 (l0 : Int) (r : Rst) : Option G2 :=
cag (G_isIn l0 0 2 r) fun v2 r1 =>
some (v2, r1)
def G_isType (a0 : Int) (r : Rst) : Option G2 := boolG (G_isType_0 a0 r)
def G_isFlow_0 (l1 : Int) (r : Rst) : Option G2 :=
chk9 (iR (r 16 0 - 1)) <|
cag (G_isIn l1 0 (r 16 0 - 1) r) fun v3 r2 =>
some (v3, r2)
def G_isFlow (a1 : Int) (r : Rst) : Option G2 := boolG (G_isFlow_0 a1 r)
def G_isQueue_0 (l0 : Int) (r : Rst) : Option G2 :=
cag (G_isIn l0 0 1 r) fun v2 r1 =>
some (v2, r1)
def G_isQueue (a0 : Int) (r : Rst) : Option G2 := boolG (G_isQueue_0 a0 r)
def G_isWorker_0 (l0 : Int) (r : Rst) : Option G2 :=
cag (G_isIn l0 0 3 r) fun v2 r1 =>
some (v2, r1)
def G_isWorker (a0 : Int) (r : Rst) : Option G2 := boolG (G_isWorker_0 a0 r)
def G_rowOf_0 (l0 l1 : Int) (r : Rst) : Option G2 :=
chk9 (iR (5 * l0)) <|
chk9 (iR ((5 * l0) + l1)) <|
chk9 (iR (((5 * l0) + l1) - 1)) <|
some ((((5 * l0) + l1) - 1), r)
def G_rowOf (a0 a1 : Int) (r : Rst) : Option G2 := G_rowOf_0 a0 a1 r
def G_isValue_0 (l0 : Int) (r : Rst) : Option G2 :=
cag (G_isIn l0 (-99) 99 r) fun v2 r1 =>
some (v2, r1)
def G_isValue (a0 : Int) (r : Rst) : Option G2 := boolG (G_isValue_0 a0 r)
def G_isStep_0 (l0 l1 l2 : Int) (r : Rst) : Option G2 :=
if l0 = 0 then (
cag (G_isIn l1 0 5 r) fun v2 r1 =>
if v2 = 0 then (
some (0, r1))
else
cag (G_isIn l2 0 1 r1) fun v6 r5 =>
if v6 = 0 then (
some (0, r5))
else
some (1, r5))
else
if l0 = 1 then (
cag (G_isIn l1 1 50 r) fun v10 r9 =>
if v10 = 0 then (
some (0, r9))
else
if l2 = 0 then (
some (1, r9))
else
some (0, r9))
else
if l0 = 2 then (
cag (G_isIn l1 0 2 r) fun v14 r13 =>
if v14 = 0 then (
some (0, r13))
else
cag (G_isIn l2 0 50 r13) fun v18 r17 =>
if v18 = 0 then (
some (0, r17))
else
some (1, r17))
else
if l0 = 3 then (
cag (G_isIn l1 0 2 r) fun v22 r21 =>
if v22 = 0 then (
some (0, r21))
else
cag (G_isIn l2 0 2 r21) fun v26 r25 =>
if v26 = 0 then (
some (0, r25))
else
some (1, r25))
else
if l0 = 4 then (
cag (G_isIn l1 1 3 r) fun v30 r29 =>
if v30 = 0 then (
some (0, r29))
else
if l2 = 0 then (
some (1, r29))
else
some (0, r29))
else
if l0 = 5 then (
cag (G_isValue l1 r) fun v34 r33 =>
if v34 = 0 then (
some (0, r33))
else
cag (G_isIn l2 1 11 r33) fun v38 r37 =>
if v38 = 0 then (
some (0, r37))
else
some (1, r37))
else
if l0 = 6 then (
cag (G_isValue l1 r) fun v42 r41 =>
if v42 = 0 then (
some (0, r41))
else
cag (G_isIn l2 1 11 r41) fun v46 r45 =>
if v46 = 0 then (
some (0, r45))
else
some (1, r45))
else
if l0 = 7 then (
cag (G_isValue l1 r) fun v50 r49 =>
if v50 = 0 then (
some (0, r49))
else
if l2 = 0 then (
some (1, r49))
else
some (0, r49))
else
if l0 = 8 then (
cag (G_isValue l1 r) fun v54 r53 =>
if v54 = 0 then (
some (0, r53))
else
if l2 = 0 then (
some (1, r53))
else
some (0, r53))
else
if l0 = 9 then (
cag (G_isIn l1 0 5 r) fun v58 r57 =>
if v58 = 0 then (
some (0, r57))
else
cag (G_isIn l2 0 1 r57) fun v62 r61 =>
if v62 = 0 then (
some (0, r61))
else
some (1, r61))
else
if l0 = 10 then (
cag (G_isIn l1 0 3 r) fun v66 r65 =>
if v66 = 0 then (
some (0, r65))
else
cag (G_isIn l2 1 11 r65) fun v70 r69 =>
if v70 = 0 then (
some (0, r69))
else
some (1, r69))
else
if l0 = 11 then (
cag (G_isIn l1 1 11 r) fun v74 r73 =>
if v74 = 0 then (
some (0, r73))
else
if l2 = 0 then (
some (1, r73))
else
some (0, r73))
else
if l0 = 12 then (
cag (G_isIn l1 0 1 r) fun v78 r77 =>
if v78 = 0 then (
some (0, r77))
else
cag (G_isIn l2 (-99) 100 r77) fun v82 r81 =>
if v82 = 0 then (
some (0, r81))
else
some (1, r81))
else
if l0 = 13 then (
cag (G_isIn l1 1 9 r) fun v86 r85 =>
if v86 = 0 then (
some (0, r85))
else
if l2 = 0 then (
some (1, r85))
else
some (0, r85))
else
cag (G_isIn l0 14 15 r) fun v90 r89 =>
if v90 = 0 then (
some (0, r89))
else
if l1 = 0 then (
if l2 = 0 then (
some (1, r89))
else
some (0, r89))
else
some (0, r89)
def G_isStep (a0 a1 a2 : Int) (r : Rst) : Option G2 := boolG (G_isStep_0 a0 a1 a2 r)
def G_step_73 (l2 l3 l4 l6 s0 : Int) (r : Rst) : Option G2 :=
cag (G_isFine s0 r) fun v2 r1 =>
if v2 = 0 then (
some (0, r1))
else
chk9 (iR (12 * l6)) <|
chk9 (0 ≤ l6 ∧ l6 < 15) <|
chk9 (iR ((12 * l6) + r1 5 l6)) <|
chk9 (0 ≤ ((12 * l6) + r1 5 l6) ∧ ((12 * l6) + r1 5 l6) < 180) <|
stg (ur r1 2 ((12 * l6) + r1 5 l6) l2) fun r11 =>
chk9 (iR (12 * l6)) <|
chk9 (0 ≤ l6 ∧ l6 < 15) <|
chk9 (iR ((12 * l6) + r11 5 l6)) <|
chk9 (0 ≤ ((12 * l6) + r11 5 l6) ∧ ((12 * l6) + r11 5 l6) < 180) <|
stg (ur r11 3 ((12 * l6) + r11 5 l6) l3) fun r20 =>
chk9 (iR (12 * l6)) <|
chk9 (0 ≤ l6 ∧ l6 < 15) <|
chk9 (iR ((12 * l6) + r20 5 l6)) <|
chk9 (0 ≤ ((12 * l6) + r20 5 l6) ∧ ((12 * l6) + r20 5 l6) < 180) <|
stg (ur r20 4 ((12 * l6) + r20 5 l6) l4) fun r29 =>
chk9 (0 ≤ l6 ∧ l6 < 15) <|
chk9 (iR (r29 5 l6 + 1)) <|
chk9 (0 ≤ l6 ∧ l6 < 15) <|
stg (ur r29 5 l6 (r29 5 l6 + 1)) fun r37 =>
chk9 (0 ≤ l6 ∧ l6 < 15) <|
some (r37 5 l6, r37)
def G_step_20 (l1 l2 l3 l4 l5 s0 : Int) (r : Rst) : Option G2 :=
if l5 = 0 then (
G_step_73 l2 l3 l4 s0 1 r)
else
cag (G_isStep l2 l3 l4 r) fun v2 r1 =>
if v2 = 0 then (
G_step_73 l2 l3 l4 s0 2 r1)
else
chk9 (0 ≤ s0 ∧ s0 < 15) <|
if r1 5 s0 = 12 then (
G_step_73 l2 l3 l4 s0 3 r1)
else
chk9 (0 ≤ l1 ∧ l1 < 3) <|
if r1 6 l1 = 4 then (
G_step_73 l2 l3 l4 s0 3 r1)
else
G_step_73 l2 l3 l4 s0 0 r1
def G_step_0 (l1 l2 l3 l4 : Int) (r : Rst) : Option G2 :=
cag (G_isType l1 r) fun v2 r1 =>
if v2 = 0 then (
G_step_20 l1 l2 l3 l4 v2 0 r1)
else
cag (G_rowOf l1 5 r1) fun v6 r5 =>
G_step_20 l1 l2 l3 l4 v2 v6 r5
def G_step (a1 a2 a3 a4 : Int) (r : Rst) : Option G2 := G_step_0 a1 a2 a3 a4 r
def G_forget_13 (l1 s0 : Int) (r : Rst) : Option G2 :=
cag (G_isFine s0 r) fun v2 r1 =>
if v2 = 0 then (
some (0, r1))
else
cag (G_rowOf l1 5 r1) fun v6 r5 =>
chk9 (0 ≤ v6 ∧ v6 < 15) <|
cag (G_rowOf l1 5 r5) fun v12 r11 =>
chk9 (0 ≤ v12 ∧ v12 < 15) <|
stg (ur r11 5 v12 0) fun r17 =>
some (r5 5 v6, r17)
def G_forget_0 (l1 : Int) (r : Rst) : Option G2 :=
cag (G_isType l1 r) fun v2 r1 =>
if v2 = 0 then (
G_forget_13 l1 1 r1)
else
G_forget_13 l1 0 r1
def G_forget (a1 : Int) (r : Rst) : Option G2 := G_forget_0 a1 r
def G_leads_91 : Nat → Int → Int → Int → Int → Int → Rst → Option G2
  | 0, _, _, _, _, _, _ => none
  | n + 1, l1, l2, l3, l4, l5, r => (
chk9 (0 ≤ l3 ∧ l3 < 180) <|
if r 2 l3 = 4 then (
chk9 (0 ≤ l3 ∧ l3 < 180) <|
if r 3 l3 < l5 then (
some (l4, r))
else
if l4 = 0 then (
some (l4, r))
else
chk9 (iR (l2 + l5)) <|
chk9 (0 ≤ l1 ∧ l1 < 15) <|
if r 5 l1 ≤ (l2 + l5) then (
chk9 (iR (l5 + 1)) <|
G_leads_91 n l1 l2 l3 0 (l5 + 1) r)
else
chk9 (iR (l3 + l5)) <|
chk9 (0 ≤ (l3 + l5) ∧ (l3 + l5) < 180) <|
if 3 < r 2 (l3 + l5) then (
chk9 (iR (l5 + 1)) <|
G_leads_91 n l1 l2 l3 0 (l5 + 1) r)
else
chk9 (iR (l5 + 1)) <|
G_leads_91 n l1 l2 l3 1 (l5 + 1) r)
else
some (l4, r))
def G_leads_62 (l1 l2 l3 : Int) (r : Rst) : Option G2 :=
chk9 (iR (l2 + 1)) <|
chk9 (0 ≤ l3 ∧ l3 < 180) <|
chk9 (iR ((l2 + 1) + r 4 l3)) <|
chk9 (0 ≤ l1 ∧ l1 < 15) <|
if r 5 l1 < ((l2 + 1) + r 4 l3) then (
G_leads_91 fuel9 l1 l2 l3 0 1 r)
else
G_leads_91 fuel9 l1 l2 l3 1 1 r
def G_leads_34 (l1 l2 l3 s0 : Int) (r : Rst) : Option G2 :=
if s0 = 0 then (
G_leads_91 fuel9 l1 l2 l3 0 1 r)
else
chk9 (0 ≤ l3 ∧ l3 < 180) <|
if r 2 l3 = 5 then (
G_leads_62 l1 l2 l3 r)
else
chk9 (0 ≤ l3 ∧ l3 < 180) <|
if r 2 l3 = 10 then (
G_leads_62 l1 l2 l3 r)
else
G_leads_91 fuel9 l1 l2 l3 1 1 r
def G_leads_0 (l1 l2 : Int) (r : Rst) : Option G2 :=
chk9 (iR (12 * l1)) <|
chk9 (iR ((12 * l1) + l2)) <|
chk9 (0 ≤ ((12 * l1) + l2) ∧ ((12 * l1) + l2) < 180) <|
if r 2 ((12 * l1) + l2) = 6 then (
chk9 (0 ≤ ((12 * l1) + l2) ∧ ((12 * l1) + l2) < 180) <|
chk9 (iR (l2 - r 4 ((12 * l1) + l2))) <|
if (l2 - r 4 ((12 * l1) + l2)) < 0 then (
G_leads_34 l1 l2 ((12 * l1) + l2) 0 r)
else
G_leads_34 l1 l2 ((12 * l1) + l2) 1 r)
else
G_leads_34 l1 l2 ((12 * l1) + l2) 1 r
def G_leads (a1 a2 : Int) (r : Rst) : Option G2 := boolG (G_leads_0 a1 a2 r)
def G_release_217 (l1 l4 l5 : Int) (r : Rst) : Option G2 :=
chk9 (0 ≤ l4 ∧ l4 < 15) <|
chk9 (0 ≤ l5 ∧ l5 < 15) <|
stg (ur r 5 l5 (r 5 l4)) fun r5 =>
chk9 (0 ≤ l4 ∧ l4 < 15) <|
stg (ur r5 5 l4 0) fun r10 =>
chk9 (0 ≤ l1 ∧ l1 < 3) <|
some (r10 6 l1, r10)
def G_release_126 (k217 : Int → Int → Int → Rst → Option G2) : Nat → Int → Int → Int → Int → Rst → Option G2
  | 0, _, _, _, _, _ => none
  | n + 1, l1, l4, l5, l6, r => (
if 12 ≤ l6 then (
k217 l1 l4 l5 r)
else
chk9 (iR (12 * l5)) <|
chk9 (iR ((12 * l5) + l6)) <|
chk9 (iR (12 * l4)) <|
chk9 (iR ((12 * l4) + l6)) <|
chk9 (0 ≤ ((12 * l4) + l6) ∧ ((12 * l4) + l6) < 180) <|
chk9 (0 ≤ ((12 * l5) + l6) ∧ ((12 * l5) + l6) < 180) <|
stg (ur r 2 ((12 * l5) + l6) (r 2 ((12 * l4) + l6))) fun r9 =>
chk9 (iR (12 * l5)) <|
chk9 (iR ((12 * l5) + l6)) <|
chk9 (iR (12 * l4)) <|
chk9 (iR ((12 * l4) + l6)) <|
chk9 (0 ≤ ((12 * l4) + l6) ∧ ((12 * l4) + l6) < 180) <|
chk9 (0 ≤ ((12 * l5) + l6) ∧ ((12 * l5) + l6) < 180) <|
stg (ur r9 3 ((12 * l5) + l6) (r9 3 ((12 * l4) + l6))) fun r20 =>
chk9 (iR (12 * l5)) <|
chk9 (iR ((12 * l5) + l6)) <|
chk9 (iR (12 * l4)) <|
chk9 (iR ((12 * l4) + l6)) <|
chk9 (0 ≤ ((12 * l4) + l6) ∧ ((12 * l4) + l6) < 180) <|
chk9 (0 ≤ ((12 * l5) + l6) ∧ ((12 * l5) + l6) < 180) <|
stg (ur r20 4 ((12 * l5) + l6) (r20 4 ((12 * l4) + l6))) fun r31 =>
chk9 (iR (l6 + 1)) <|
G_release_126 k217 n l1 l4 l5 (l6 + 1) r31)
def G_release_86 (l1 s0 : Int) (r : Rst) : Option G2 :=
cag (G_isFine s0 r) fun v2 r1 =>
if v2 = 0 then (
some (0, r1))
else
chk9 (0 ≤ l1 ∧ l1 < 3) <|
chk9 (iR (r1 6 l1 + 1)) <|
chk9 (0 ≤ l1 ∧ l1 < 3) <|
stg (ur r1 6 l1 (r1 6 l1 + 1)) fun r10 =>
cag (G_rowOf l1 5 r10) fun v14 r13 =>
chk9 (0 ≤ l1 ∧ l1 < 3) <|
cag (G_rowOf l1 (r13 6 l1) r13) fun v20 r19 =>
G_release_126 (G_release_217) fuel9 l1 v14 v20 0 r19
def G_release_68 (l1 l2 l3 : Int) (r : Rst) : Option G2 :=
if l2 = 0 then (
G_release_86 l1 1 r)
else
if l3 = 0 then (
G_release_86 l1 2 r)
else
G_release_86 l1 0 r
def G_release_31 (k68 : Int → Int → Int → Rst → Option G2) : Nat → Int → Int → Int → Int → Rst → Option G2
  | 0, _, _, _, _, _ => none
  | n + 1, l1, l2, l3, l4, r => (
if l3 = 0 then (
k68 l1 l2 l3 r)
else
cag (G_rowOf l1 5 r) fun v2 r1 =>
chk9 (0 ≤ v2 ∧ v2 < 15) <|
if r1 5 v2 ≤ l4 then (
k68 l1 l2 l3 r1)
else
cag (G_rowOf l1 5 r1) fun v8 r7 =>
cag (G_leads v8 l4 r7) fun v12 r11 =>
chk9 (iR (l4 + 1)) <|
G_release_31 k68 n l1 l2 v12 (l4 + 1) r11)
def G_release_0 (l1 : Int) (r : Rst) : Option G2 :=
cag (G_isType l1 r) fun v2 r1 =>
if v2 = 0 then (
G_release_31 (G_release_68) fuel9 l1 v2 0 0 r1)
else
cag (G_rowOf l1 5 r1) fun v6 r5 =>
chk9 (0 ≤ v6 ∧ v6 < 15) <|
if r5 5 v6 ≤ 0 then (
G_release_31 (G_release_68) fuel9 l1 v2 0 0 r5)
else
G_release_31 (G_release_68) fuel9 l1 v2 1 0 r5
def G_release (a1 : Int) (r : Rst) : Option G2 := G_release_0 a1 r
def G_versions_13 (l1 s0 : Int) (r : Rst) : Option G2 :=
cag (G_isFine s0 r) fun v2 r1 =>
if v2 = 0 then (
some (0, r1))
else
chk9 (0 ≤ l1 ∧ l1 < 3) <|
some (r1 6 l1, r1)
def G_versions_0 (l1 : Int) (r : Rst) : Option G2 :=
cag (G_isType l1 r) fun v2 r1 =>
if v2 = 0 then (
G_versions_13 l1 1 r1)
else
G_versions_13 l1 0 r1
def G_versions (a1 : Int) (r : Rst) : Option G2 := G_versions_0 a1 r
def G_rowOfRun_0 (l1 : Int) (r : Rst) : Option G2 :=
chk9 (iR (9 * l1)) <|
chk9 (0 ≤ l1 ∧ l1 < 10) <|
chk9 (iR ((9 * l1) + r 12 l1)) <|
chk9 (iR (((9 * l1) + r 12 l1) - 1)) <|
some ((((9 * l1) + r 12 l1) - 1), r)
def G_rowOfRun (a1 : Int) (r : Rst) : Option G2 := G_rowOfRun_0 a1 r
def G_isRunning_0 (l1 : Int) (r : Rst) : Option G2 :=
cag (G_rowOfRun l1 r) fun v2 r1 =>
chk9 (0 ≤ v2 ∧ v2 < 90) <|
if r1 17 v2 = 20 then (
some (1, r1))
else
some (0, r1)
def G_isRunning (a1 : Int) (r : Rst) : Option G2 := boolG (G_isRunning_0 a1 r)
def G_writes_0 (l1 l2 l3 l4 : Int) (r : Rst) : Option G2 :=
cag (G_rowOfRun l1 r) fun v2 r1 =>
chk9 (iR (80 * v2)) <|
chk9 (0 ≤ v2 ∧ v2 < 90) <|
chk9 (iR ((80 * v2) + r1 18 v2)) <|
chk9 (0 ≤ ((80 * v2) + r1 18 v2) ∧ ((80 * v2) + r1 18 v2) < 7200) <|
stg (ur r1 19 ((80 * v2) + r1 18 v2) l2) fun r11 =>
chk9 (iR (80 * v2)) <|
chk9 (0 ≤ v2 ∧ v2 < 90) <|
chk9 (iR ((80 * v2) + r11 18 v2)) <|
chk9 (0 ≤ ((80 * v2) + r11 18 v2) ∧ ((80 * v2) + r11 18 v2) < 7200) <|
stg (ur r11 20 ((80 * v2) + r11 18 v2) l3) fun r20 =>
chk9 (iR (80 * v2)) <|
chk9 (0 ≤ v2 ∧ v2 < 90) <|
chk9 (iR ((80 * v2) + r20 18 v2)) <|
chk9 (0 ≤ ((80 * v2) + r20 18 v2) ∧ ((80 * v2) + r20 18 v2) < 7200) <|
stg (ur r20 21 ((80 * v2) + r20 18 v2) l4) fun r29 =>
chk9 (0 ≤ v2 ∧ v2 < 90) <|
chk9 (iR (r29 18 v2 + 1)) <|
chk9 (0 ≤ v2 ∧ v2 < 90) <|
stg (ur r29 18 v2 (r29 18 v2 + 1)) fun r37 =>
some (0, r37)
def G_writes (a1 a2 a3 a4 : Int) (r : Rst) : Option G2 := G_writes_0 a1 a2 a3 a4 r
def G_happens_28 (l1 l2 l3 l4 s0 : Int) (r : Rst) : Option G2 :=
if s0 = 0 then (
some (s0, r))
else
cag (G_writes l1 l2 l3 l4 r) fun _ r1 =>
some (s0, r1)
def G_happens_0 (l1 l2 l3 l4 : Int) (r : Rst) : Option G2 :=
cag (G_isRunning l1 r) fun v2 r1 =>
if v2 = 0 then (
G_happens_28 l1 l2 l3 l4 0 r1)
else
cag (G_rowOfRun l1 r1) fun v6 r5 =>
chk9 (0 ≤ v6 ∧ v6 < 90) <|
if 78 ≤ r5 18 v6 then (
G_happens_28 l1 l2 l3 l4 0 r5)
else
G_happens_28 l1 l2 l3 l4 1 r5
def G_happens (a1 a2 a3 a4 : Int) (r : Rst) : Option G2 := boolG (G_happens_0 a1 a2 a3 a4 r)
def G_beginsRun_0 (l1 l2 : Int) (r : Rst) : Option G2 :=
chk9 (0 ≤ l1 ∧ l1 < 10) <|
chk9 (iR (r 12 l1 + 1)) <|
chk9 (0 ≤ l1 ∧ l1 < 10) <|
stg (ur r 12 l1 (r 12 l1 + 1)) fun r6 =>
cag (G_rowOfRun l1 r6) fun v10 r9 =>
chk9 (0 ≤ v10 ∧ v10 < 90) <|
stg (ur r9 17 v10 20) fun r15 =>
chk9 (0 ≤ l1 ∧ l1 < 10) <|
stg (ur r15 14 l1 0) fun r20 =>
chk9 (0 ≤ l1 ∧ l1 < 10) <|
stg (ur r20 15 l1 (-1)) fun r25 =>
chk9 (0 ≤ l1 ∧ l1 < 10) <|
stg (ur r25 22 l1 0) fun r30 =>
chk9 (0 ≤ l1 ∧ l1 < 10) <|
stg (ur r30 30 l1 0) fun r35 =>
chk9 (0 ≤ l1 ∧ l1 < 10) <|
stg (ur r35 32 l1 0) fun r40 =>
cag (G_writes l1 0 l2 0 r40) fun _ r43 =>
some (0, r43)
def G_beginsRun (a1 a2 : Int) (r : Rst) : Option G2 := G_beginsRun_0 a1 a2 r
def G_makesFlow_61 (l4 l5 l6 s0 s1 : Int) (r : Rst) : Option G2 :=
chk9 (0 ≤ s1 ∧ s1 < 10) <|
stg (ur r 10 s1 s0) fun r3 =>
chk9 (0 ≤ l6 ∧ l6 < 10) <|
stg (ur r3 11 l6 l4) fun r8 =>
cag (G_beginsRun l6 l5 r8) fun _ r11 =>
some (l6, r11)
def G_makesFlow_0 (l1 l2 l3 l4 l5 : Int) (r : Rst) : Option G2 :=
chk9 (iR (r 16 0 + 1)) <|
stg (ur r 16 0 (r 16 0 + 1)) fun r2 =>
chk9 (0 ≤ r 16 0 ∧ r 16 0 < 10) <|
stg (ur r2 7 (r 16 0) l1) fun r7 =>
chk9 (0 ≤ r 16 0 ∧ r 16 0 < 10) <|
stg (ur r7 8 (r 16 0) l2) fun r12 =>
chk9 (0 ≤ r 16 0 ∧ r 16 0 < 10) <|
stg (ur r12 9 (r 16 0) l3) fun r17 =>
if l3 = (-1) then (
G_makesFlow_61 l4 l5 (r 16 0) 0 (r 16 0) r17)
else
chk9 (0 ≤ l3 ∧ l3 < 10) <|
G_makesFlow_61 l4 l5 (r 16 0) (r17 12 l3) (r 16 0) r17
def G_makesFlow (a1 a2 a3 a4 a5 : Int) (r : Rst) : Option G2 := G_makesFlow_0 a1 a2 a3 a4 a5 r
def G_start_58 (l1 l2 l3 s0 : Int) (r : Rst) : Option G2 :=
cag (G_isFine s0 r) fun v2 r1 =>
if v2 = 0 then (
some (0, r1))
else
cag (G_makesFlow l1 l2 (-1) 0 l3 r1) fun v6 r5 =>
some (v6, r5)
def G_start_21 (l1 l2 l3 s0 : Int) (r : Rst) : Option G2 :=
if s0 = 0 then (
G_start_58 l1 l2 l3 1 r)
else
cag (G_isValue l3 r) fun v2 r1 =>
if v2 = 0 then (
G_start_58 l1 l2 l3 2 r1)
else
if r1 16 0 = 10 then (
G_start_58 l1 l2 l3 3 r1)
else
G_start_58 l1 l2 l3 0 r1
def G_start_0 (l1 l2 l3 : Int) (r : Rst) : Option G2 :=
cag (G_isType l1 r) fun v2 r1 =>
if v2 = 0 then (
G_start_21 l1 l2 l3 0 r1)
else
cag (G_isIn l2 0 2 r1) fun v6 r5 =>
if v6 = 0 then (
G_start_21 l1 l2 l3 0 r5)
else
G_start_21 l1 l2 l3 1 r5
def G_start (a1 a2 a3 : Int) (r : Rst) : Option G2 := G_start_0 a1 a2 a3 r
def G_signal_38 (l1 l2 l3 s0 : Int) (r : Rst) : Option G2 :=
cag (G_isFine s0 r) fun v2 r1 =>
if v2 = 0 then (
some (0, r1))
else
cag (G_happens l1 4 l2 l3 r1) fun v6 r5 =>
if v6 = 0 then (
some (0, r5))
else
some (1, r5)
def G_signal_0 (l1 l2 l3 : Int) (r : Rst) : Option G2 :=
cag (G_isFlow l1 r) fun v2 r1 =>
if v2 = 0 then (
G_signal_38 l1 l2 l3 1 r1)
else
cag (G_isIn l2 0 2 r1) fun v6 r5 =>
if v6 = 0 then (
G_signal_38 l1 l2 l3 2 r5)
else
cag (G_isValue l3 r5) fun v10 r9 =>
if v10 = 0 then (
G_signal_38 l1 l2 l3 2 r9)
else
G_signal_38 l1 l2 l3 0 r9
def G_signal (a1 a2 a3 : Int) (r : Rst) : Option G2 := boolG (G_signal_0 a1 a2 a3 r)
def G_cancels_54 (l1 l2 : Int) (r : Rst) : Option G2 :=
if l2 = 0 then (
cag (G_happens l1 6 0 0 r) fun v2 r1 =>
if v2 = 0 then (
some (0, r1))
else
some (1, r1))
else
some (0, r)
def G_cancels_4 (k54 : Int → Int → Rst → Option G2) : Nat → Int → Int → Int → Rst → Option G2
  | 0, _, _, _, _ => none
  | n + 1, l1, l2, l3, r => (
cag (G_rowOfRun l1 r) fun v2 r1 =>
chk9 (0 ≤ v2 ∧ v2 < 90) <|
if r1 18 v2 ≤ l3 then (
k54 l1 l2 r1)
else
if l2 = 0 then (
cag (G_rowOfRun l1 r1) fun v9 r8 =>
chk9 (iR (80 * v9)) <|
chk9 (iR ((80 * v9) + l3)) <|
chk9 (0 ≤ ((80 * v9) + l3) ∧ ((80 * v9) + l3) < 7200) <|
if r8 19 ((80 * v9) + l3) = 6 then (
chk9 (iR (l3 + 1)) <|
G_cancels_4 k54 n l1 1 (l3 + 1) r8)
else
chk9 (iR (l3 + 1)) <|
G_cancels_4 k54 n l1 0 (l3 + 1) r8)
else
chk9 (iR (l3 + 1)) <|
G_cancels_4 k54 n l1 1 (l3 + 1) r1)
def G_cancels_0 (l1 : Int) (r : Rst) : Option G2 :=
G_cancels_4 (G_cancels_54) fuel9 l1 0 0 r
def G_cancels (a1 : Int) (r : Rst) : Option G2 := boolG (G_cancels_0 a1 r)
def G_cancel_14 (l1 s0 : Int) (r : Rst) : Option G2 :=
cag (G_isFine s0 r) fun v2 r1 =>
if v2 = 0 then (
some (0, r1))
else
cag (G_cancels l1 r1) fun v6 r5 =>
if v6 = 0 then (
some (0, r5))
else
some (1, r5)
def G_cancel_0 (l1 : Int) (r : Rst) : Option G2 :=
cag (G_isFlow l1 r) fun v2 r1 =>
if v2 = 0 then (
G_cancel_14 l1 1 r1)
else
G_cancel_14 l1 0 r1
def G_cancel (a1 : Int) (r : Rst) : Option G2 := boolG (G_cancel_0 a1 r)
def G_stepAt_0 (l1 : Int) (r : Rst) : Option G2 :=
chk9 (iR (12 * r 77 0)) <|
chk9 (iR ((12 * r 77 0) + l1)) <|
some (((12 * r 77 0) + l1), r)
def G_stepAt (a1 : Int) (r : Rst) : Option G2 := G_stepAt_0 a1 r
def G_begins_0 (l1 : Int) (r : Rst) : Option G2 :=
stg (ur r 77 0 l1) fun r1 =>
stg (ur r1 40 0 0) fun r4 =>
stg (ur r4 41 0 0) fun r7 =>
stg (ur r7 42 0 0) fun r10 =>
stg (ur r10 43 0 0) fun r13 =>
stg (ur r13 44 0 0) fun r16 =>
stg (ur r16 45 0 0) fun r19 =>
stg (ur r19 46 0 0) fun r22 =>
stg (ur r22 47 0 0) fun r25 =>
stg (ur r25 48 0 0) fun r28 =>
stg (ur r28 51 0 0) fun r31 =>
stg (ur r31 52 0 0) fun r34 =>
stg (ur r34 53 0 0) fun r37 =>
stg (ur r37 55 0 0) fun r40 =>
stg (ur r40 68 0 0) fun r43 =>
stg (ur r43 71 0 0) fun r46 =>
some (0, r46)
def G_begins (a1 : Int) (r : Rst) : Option G2 := G_begins_0 a1 r
def G_decides_0 (l1 l2 l3 : Int) (r : Rst) : Option G2 :=
chk9 (0 ≤ r 76 0 ∧ r 76 0 < 5200) <|
stg (ur r 72 (r 76 0) l1) fun r3 =>
chk9 (0 ≤ r3 76 0 ∧ r3 76 0 < 5200) <|
stg (ur r3 73 (r3 76 0) l2) fun r8 =>
chk9 (0 ≤ r8 76 0 ∧ r8 76 0 < 5200) <|
stg (ur r8 74 (r8 76 0) l3) fun r13 =>
chk9 (0 ≤ r13 76 0 ∧ r13 76 0 < 5200) <|
stg (ur r13 75 (r13 76 0) (r13 41 0)) fun r18 =>
chk9 (iR (r18 76 0 + 1)) <|
stg (ur r18 76 0 (r18 76 0 + 1)) fun r22 =>
some (0, r22)
def G_decides (a1 a2 a3 : Int) (r : Rst) : Option G2 := G_decides_0 a1 a2 a3 r
def G_ends_0 (l1 l2 : Int) (r : Rst) : Option G2 :=
stg (ur r 42 0 2) fun r1 =>
stg (ur r1 49 0 l1) fun r4 =>
stg (ur r4 50 0 l2) fun r7 =>
cag (G_decides 16 l1 l2 r7) fun _ r10 =>
some (0, r10)
def G_ends (a1 a2 : Int) (r : Rst) : Option G2 := G_ends_0 a1 a2 r
def G_undoesNext_0 (r : Rst) : Option G2 :=
if r 71 0 ≤ 0 then (
if r 43 0 = (-1) then (
cag (G_ends 23 0 r) fun _ r5 =>
some (0, r5))
else
cag (G_ends 22 (r 43 0) r) fun _ r1 =>
some (0, r1))
else
chk9 (iR (r 71 0 - 1)) <|
stg (ur r 71 0 (r 71 0 - 1)) fun r10 =>
stg (ur r10 54 0 (r10 51 0)) fun r13 =>
chk9 (iR (r13 51 0 + 1)) <|
stg (ur r13 51 0 (r13 51 0 + 1)) fun r17 =>
chk9 (0 ≤ r17 71 0 ∧ r17 71 0 < 5200) <|
chk9 (0 ≤ r17 71 0 ∧ r17 71 0 < 5200) <|
cag (G_decides 15 (r17 69 (r17 71 0)) (r17 70 (r17 71 0)) r17) fun _ r24 =>
some (0, r24)
def G_undoesNext (r : Rst) : Option G2 := G_undoesNext_0 r
def G_fails_0 (l1 : Int) (r : Rst) : Option G2 :=
stg (ur r 42 0 1) fun r1 =>
stg (ur r1 43 0 l1) fun r4 =>
stg (ur r4 55 0 0) fun r7 =>
cag (G_undoesNext r7) fun _ r10 =>
some (0, r10)
def G_fails (a1 : Int) (r : Rst) : Option G2 := G_fails_0 a1 r
def G_cuts_127 (r : Rst) : Option G2 :=
cag (G_fails (-1) r) fun _ r1 =>
some (0, r1)
def G_cuts_80 (k70 : Int → Rst → Option G2) : Nat → Int → Int → Rst → Option G2
  | 0, _, _, _ => none
  | n + 1, l1, l2, r => (
if r 55 0 ≤ l2 then (
chk9 (iR (l1 + 1)) <|
k70 (l1 + 1) r)
else
chk9 (0 ≤ l2 ∧ l2 < 3) <|
if r 60 l2 = 0 then (
chk9 (0 ≤ l2 ∧ l2 < 3) <|
if r 59 l2 = l1 then (
cag (G_decides 11 l1 0 r) fun _ r8 =>
chk9 (iR (l2 + 1)) <|
G_cuts_80 k70 n l1 (l2 + 1) r8)
else
chk9 (iR (l2 + 1)) <|
G_cuts_80 k70 n l1 (l2 + 1) r)
else
chk9 (iR (l2 + 1)) <|
G_cuts_80 k70 n l1 (l2 + 1) r)
def G_cuts_70 (k127 : Rst → Option G2) : Nat → Int → Rst → Option G2
  | 0, _, _ => none
  | n + 1, l1, r => (
if r 52 0 ≤ l1 then (
k127 r)
else
G_cuts_80 (G_cuts_70 k127 n) fuel9 l1 0 r)
def G_cuts_12 (k2 : Int → Rst → Option G2) : Nat → Int → Int → Rst → Option G2
  | 0, _, _, _ => none
  | n + 1, l1, l2, r => (
if r 55 0 ≤ l2 then (
chk9 (iR (l1 + 1)) <|
k2 (l1 + 1) r)
else
chk9 (0 ≤ l2 ∧ l2 < 3) <|
if r 56 l2 = 0 then (
chk9 (0 ≤ l2 ∧ l2 < 3) <|
if r 60 l2 = 0 then (
chk9 (0 ≤ l2 ∧ l2 < 3) <|
if r 58 l2 = l1 then (
cag (G_decides 9 l1 0 r) fun _ r11 =>
chk9 (iR (l2 + 1)) <|
G_cuts_12 k2 n l1 (l2 + 1) r11)
else
chk9 (iR (l2 + 1)) <|
G_cuts_12 k2 n l1 (l2 + 1) r)
else
chk9 (iR (l2 + 1)) <|
G_cuts_12 k2 n l1 (l2 + 1) r)
else
chk9 (iR (l2 + 1)) <|
G_cuts_12 k2 n l1 (l2 + 1) r)
def G_cuts_2 (k70 : Int → Rst → Option G2) : Nat → Int → Rst → Option G2
  | 0, _, _ => none
  | n + 1, l1, r => (
if r 51 0 ≤ l1 then (
k70 0 r)
else
G_cuts_12 (G_cuts_2 k70 n) fuel9 l1 0 r)
def G_cuts_0 (r : Rst) : Option G2 :=
G_cuts_2 (G_cuts_70 (G_cuts_127) fuel9) fuel9 0 r
def G_cuts (r : Rst) : Option G2 := G_cuts_0 r
def G_untaken_9 : Nat → Int → Int → Int → Rst → Option G2
  | 0, _, _, _, _ => none
  | n + 1, l1, l2, l3, r => (
if l3 < 0 then (
some (l2, r))
else
chk9 (0 ≤ l3 ∧ l3 < 80) <|
if r 65 l3 = l1 then (
chk9 (0 ≤ l3 ∧ l3 < 80) <|
if r 67 l3 = 0 then (
chk9 (iR (l3 + (-1))) <|
G_untaken_9 n l1 l3 (l3 + (-1)) r)
else
chk9 (iR (l3 + (-1))) <|
G_untaken_9 n l1 l2 (l3 + (-1)) r)
else
chk9 (iR (l3 + (-1))) <|
G_untaken_9 n l1 l2 (l3 + (-1)) r)
def G_untaken_0 (l1 : Int) (r : Rst) : Option G2 :=
chk9 (iR (r 68 0 - 1)) <|
G_untaken_9 fuel9 l1 (-1) (r 68 0 - 1) r
def G_untaken (a1 : Int) (r : Rst) : Option G2 := G_untaken_0 a1 r
def G_gets_0 (l1 l2 : Int) (r : Rst) : Option G2 :=
chk9 (0 ≤ l1 ∧ l1 < 3) <|
stg (ur r 60 l1 1) fun r3 =>
chk9 (0 ≤ l1 ∧ l1 < 3) <|
stg (ur r3 62 l1 l2) fun r8 =>
chk9 (0 ≤ l1 ∧ l1 < 3) <|
stg (ur r8 63 l1 1) fun r13 =>
some (0, r13)
def G_gets (a1 a2 : Int) (r : Rst) : Option G2 := G_gets_0 a1 a2 r
def G_setsTimer_0 (l1 l2 : Int) (r : Rst) : Option G2 :=
chk9 (0 ≤ l1 ∧ l1 < 3) <|
stg (ur r 59 l1 (r 52 0)) fun r3 =>
chk9 (iR (r3 52 0 + 1)) <|
stg (ur r3 52 0 (r3 52 0 + 1)) fun r7 =>
cag (G_decides 10 l2 0 r7) fun _ r10 =>
some (0, r10)
def G_setsTimer (a1 a2 : Int) (r : Rst) : Option G2 := G_setsTimer_0 a1 a2 r
def G_waitsFor_0 (l1 : Int) (r : Rst) : Option G2 :=
cag (G_stepAt l1 r) fun v2 r1 =>
chk9 (iR (r1 55 0 + 1)) <|
stg (ur r1 55 0 (r1 55 0 + 1)) fun r6 =>
chk9 (0 ≤ v2 ∧ v2 < 180) <|
chk9 (0 ≤ r 55 0 ∧ r 55 0 < 3) <|
stg (ur r6 56 (r 55 0) (r6 2 v2)) fun r13 =>
chk9 (0 ≤ r 55 0 ∧ r 55 0 < 3) <|
stg (ur r13 59 (r 55 0) (-1)) fun r18 =>
chk9 (0 ≤ r 55 0 ∧ r 55 0 < 3) <|
stg (ur r18 58 (r 55 0) (-1)) fun r23 =>
chk9 (0 ≤ v2 ∧ v2 < 180) <|
chk9 (0 ≤ r 55 0 ∧ r 55 0 < 3) <|
stg (ur r23 57 (r 55 0) (r23 3 v2)) fun r30 =>
chk9 (0 ≤ r 55 0 ∧ r 55 0 < 3) <|
stg (ur r30 60 (r 55 0) 0) fun r35 =>
chk9 (0 ≤ r 55 0 ∧ r 55 0 < 3) <|
stg (ur r35 61 (r 55 0) 0) fun r40 =>
chk9 (0 ≤ r 55 0 ∧ r 55 0 < 3) <|
stg (ur r40 63 (r 55 0) 0) fun r45 =>
chk9 (0 ≤ v2 ∧ v2 < 180) <|
if r45 2 v2 = 0 then (
chk9 (0 ≤ r 55 0 ∧ r 55 0 < 3) <|
stg (ur r45 58 (r 55 0) (r45 51 0)) fun r52 =>
chk9 (iR (r52 51 0 + 1)) <|
stg (ur r52 51 0 (r52 51 0 + 1)) fun r56 =>
chk9 (0 ≤ v2 ∧ v2 < 180) <|
chk9 (0 ≤ v2 ∧ v2 < 180) <|
cag (G_decides 8 (r56 3 v2) (r56 4 v2) r56) fun _ r63 =>
some (0, r63))
else
if r45 2 v2 = 1 then (
chk9 (0 ≤ v2 ∧ v2 < 180) <|
cag (G_setsTimer (r 55 0) (r45 3 v2) r45) fun _ r69 =>
some (0, r69))
else
if r45 2 v2 = 2 then (
chk9 (0 ≤ v2 ∧ v2 < 180) <|
cag (G_untaken (r45 3 v2) r45) fun v76 r75 =>
if v76 = (-1) then (
chk9 (0 ≤ v2 ∧ v2 < 180) <|
if r75 4 v2 ≤ 0 then (
some (0, r75))
else
chk9 (0 ≤ v2 ∧ v2 < 180) <|
cag (G_setsTimer (r 55 0) (r75 4 v2) r75) fun _ r83 =>
some (0, r83))
else
chk9 (0 ≤ v76 ∧ v76 < 80) <|
stg (ur r75 67 v76 1) fun r89 =>
chk9 (0 ≤ v76 ∧ v76 < 80) <|
cag (G_gets (r 55 0) (r89 66 v76) r89) fun _ r94 =>
some (0, r94))
else
if r45 2 v2 = 3 then (
chk9 (0 ≤ r 55 0 ∧ r 55 0 < 3) <|
stg (ur r45 58 (r 55 0) (r45 53 0)) fun r100 =>
chk9 (iR (r100 53 0 + 1)) <|
stg (ur r100 53 0 (r100 53 0 + 1)) fun r104 =>
chk9 (0 ≤ v2 ∧ v2 < 180) <|
chk9 (0 ≤ v2 ∧ v2 < 180) <|
cag (G_decides 12 (r104 3 v2) (r104 4 v2) r104) fun _ r111 =>
some (0, r111))
else
chk9 (0 ≤ v2 ∧ v2 < 180) <|
cag (G_untaken (r45 3 v2) r45) fun v118 r117 =>
if v118 = (-1) then (
chk9 (0 ≤ v2 ∧ v2 < 180) <|
if r117 4 v2 ≤ 0 then (
some (0, r117))
else
chk9 (0 ≤ v2 ∧ v2 < 180) <|
cag (G_setsTimer (r 55 0) (r117 4 v2) r117) fun _ r125 =>
some (0, r125))
else
chk9 (0 ≤ v118 ∧ v118 < 80) <|
stg (ur r117 67 v118 1) fun r131 =>
chk9 (0 ≤ v118 ∧ v118 < 80) <|
cag (G_gets (r 55 0) (r131 66 v118) r131) fun _ r136 =>
some (0, r136)
def G_waitsFor (a1 : Int) (r : Rst) : Option G2 := G_waitsFor_0 a1 r
def G_areDone_4 : Nat → Int → Int → Rst → Option G2
  | 0, _, _, _ => none
  | n + 1, l1, l2, r => (
if r 55 0 ≤ l2 then (
some (l1, r))
else
if l1 = 0 then (
chk9 (iR (l2 + 1)) <|
G_areDone_4 n 0 (l2 + 1) r)
else
chk9 (0 ≤ l2 ∧ l2 < 3) <|
if r 60 l2 = 0 then (
chk9 (iR (l2 + 1)) <|
G_areDone_4 n 0 (l2 + 1) r)
else
chk9 (iR (l2 + 1)) <|
G_areDone_4 n 1 (l2 + 1) r)
def G_areDone_0 (r : Rst) : Option G2 :=
G_areDone_4 fuel9 1 0 r
def G_areDone (r : Rst) : Option G2 := boolG (G_areDone_0 r)
def G_finishes_63 (l1 : Int) (r : Rst) : Option G2 :=
stg (ur r 55 0 0) fun r1 =>
stg (ur r1 40 0 (r1 64 0)) fun r4 =>
if l1 = 0 then (
some (0, r4))
else
cag (G_fails 1 r4) fun _ r7 =>
some (0, r7)
def G_finishes_35 (k4 : Int → Int → Rst → Option G2) (l1 l2 s0 : Int) (r : Rst) : Option G2 :=
stg (ur r 41 0 s0) fun r1 =>
if l1 = 0 then (
chk9 (0 ≤ l2 ∧ l2 < 3) <|
if r1 61 l2 = 0 then (
chk9 (iR (l2 + 1)) <|
k4 0 (l2 + 1) r1)
else
chk9 (iR (l2 + 1)) <|
k4 1 (l2 + 1) r1)
else
chk9 (iR (l2 + 1)) <|
k4 1 (l2 + 1) r1
def G_finishes_4 (k63 : Int → Rst → Option G2) : Nat → Int → Int → Rst → Option G2
  | 0, _, _, _ => none
  | n + 1, l1, l2, r => (
if r 55 0 ≤ l2 then (
k63 l1 r)
else
chk9 (0 ≤ l2 ∧ l2 < 3) <|
if r 63 l2 = 0 then (
G_finishes_35 (G_finishes_4 k63 n) l1 l2 (r 41 0) r)
else
chk9 (0 ≤ l2 ∧ l2 < 3) <|
G_finishes_35 (G_finishes_4 k63 n) l1 l2 (r 62 l2) r)
def G_finishes_0 (r : Rst) : Option G2 :=
G_finishes_4 (G_finishes_63) fuel9 0 0 r
def G_finishes (r : Rst) : Option G2 := G_finishes_0 r
def G_waitsAt_62 (l1 l2 : Int) (r : Rst) : Option G2 :=
chk9 (iR (l1 + l2)) <|
chk9 (iR ((l1 + l2) + 1)) <|
stg (ur r 64 0 ((l1 + l2) + 1)) fun r3 =>
cag (G_areDone r3) fun v7 r6 =>
if v7 = 0 then (
some (0, r6))
else
cag (G_finishes r6) fun _ r10 =>
some (0, r10)
def G_waitsAt_44 (k62 : Int → Int → Rst → Option G2) : Nat → Int → Int → Int → Rst → Option G2
  | 0, _, _, _, _ => none
  | n + 1, l1, l2, l3, r => (
if l2 < l3 then (
k62 l1 l2 r)
else
chk9 (iR (l1 + l3)) <|
cag (G_waitsFor (l1 + l3) r) fun _ r2 =>
chk9 (iR (l3 + 1)) <|
G_waitsAt_44 k62 n l1 l2 (l3 + 1) r2)
def G_waitsAt_28 (l1 s0 : Int) (r : Rst) : Option G2 :=
stg (ur r 55 0 0) fun r1 =>
if s0 ≤ 0 then (
G_waitsAt_44 (G_waitsAt_62) fuel9 l1 s0 0 r1)
else
G_waitsAt_44 (G_waitsAt_62) fuel9 l1 s0 1 r1
def G_waitsAt_0 (l1 : Int) (r : Rst) : Option G2 :=
cag (G_stepAt l1 r) fun v2 r1 =>
chk9 (0 ≤ v2 ∧ v2 < 180) <|
if r1 2 v2 = 4 then (
cag (G_stepAt l1 r1) fun v8 r7 =>
chk9 (0 ≤ v8 ∧ v8 < 180) <|
G_waitsAt_28 l1 (r7 3 v8) r7)
else
G_waitsAt_28 l1 0 r1
def G_waitsAt (a1 : Int) (r : Rst) : Option G2 := G_waitsAt_0 a1 r
def G_isMarked_65 (l1 s0 : Int) (r : Rst) : Option G2 :=
if s0 = 0 then (
some (s0, r))
else
stg (ur r 48 0 ((Int32.ofInt (r 48 0) ||| Int32.ofInt ((Int32.ofInt 1 <<< (Int32.ofInt l1 &&& 31)).toInt)).toInt)) fun r1 =>
cag (G_decides 13 l1 0 r1) fun _ r4 =>
some (s0, r4)
def G_isMarked_0 (l1 : Int) (r : Rst) : Option G2 :=
if (Int32.ofInt ((Int32.ofInt (r 48 0) >>> (Int32.ofInt l1 &&& 31)).toInt) &&& Int32.ofInt 1).toInt = 1 then (
some (1, r))
else
chk9 (iR (r 78 0 + r 76 0)) <|
if r 80 0 = 0 then (
if r 79 0 ≤ (r 78 0 + r 76 0) then (
G_isMarked_65 l1 0 r)
else
chk9 (0 ≤ (r 78 0 + r 76 0) ∧ (r 78 0 + r 76 0) < 7200) <|
if r 19 (r 78 0 + r 76 0) = 13 then (
chk9 (0 ≤ (r 78 0 + r 76 0) ∧ (r 78 0 + r 76 0) < 7200) <|
if r 20 (r 78 0 + r 76 0) = l1 then (
G_isMarked_65 l1 1 r)
else
G_isMarked_65 l1 0 r)
else
G_isMarked_65 l1 0 r)
else
G_isMarked_65 l1 1 r
def G_isMarked (a1 : Int) (r : Rst) : Option G2 := boolG (G_isMarked_0 a1 r)
def G_held_0 (l0 : Int) (r : Rst) : Option G2 :=
if l0 ≤ 999 then (
if (-999) ≤ l0 then (
some (l0, r))
else
some ((-999), r))
else
some (999, r)
def G_held (a0 : Int) (r : Rst) : Option G2 := G_held_0 a0 r
def G_againOrFails_0 (r : Rst) : Option G2 :=
if r 83 0 = 9 then (
cag (G_fails 7 r) fun _ r5 =>
some (0, r5))
else
cag (G_ends 14 (r 41 0) r) fun _ r1 =>
some (0, r1)
def G_againOrFails (r : Rst) : Option G2 := G_againOrFails_0 r
def G_passes_324 (s0 s1 s2 : Int) (r : Rst) : Option G2 :=
cag (G_decides s2 s1 s0 r) fun _ r1 =>
some (0, r1)
def G_passes_0 (l1 : Int) (r : Rst) : Option G2 :=
cag (G_stepAt l1 r) fun v2 r1 =>
chk9 (iR (l1 + 1)) <|
stg (ur r1 40 0 (l1 + 1)) fun r6 =>
chk9 (0 ≤ v2 ∧ v2 < 180) <|
if r6 2 v2 = 5 then (
chk9 (0 ≤ v2 ∧ v2 < 180) <|
if r6 3 v2 ≤ r6 41 0 then (
chk9 (iR (r6 40 0 + 0)) <|
stg (ur r6 40 0 (r6 40 0 + 0)) fun r14 =>
some (0, r14))
else
chk9 (0 ≤ v2 ∧ v2 < 180) <|
chk9 (iR (r6 40 0 + r6 4 v2)) <|
stg (ur r6 40 0 (r6 40 0 + r6 4 v2)) fun r20 =>
some (0, r20))
else
if r6 2 v2 = 6 then (
chk9 (0 ≤ v2 ∧ v2 < 180) <|
if r6 3 v2 ≤ r6 41 0 then (
stg (ur r6 40 0 (r6 40 0)) fun r25 =>
some (0, r25))
else
chk9 (0 ≤ v2 ∧ v2 < 180) <|
chk9 (iR (l1 - r6 4 v2)) <|
stg (ur r6 40 0 (l1 - r6 4 v2)) fun r31 =>
some (0, r31))
else
if r6 2 v2 = 7 then (
chk9 (0 ≤ v2 ∧ v2 < 180) <|
stg (ur r6 41 0 (r6 3 v2)) fun r36 =>
some (0, r36))
else
if r6 2 v2 = 8 then (
chk9 (0 ≤ v2 ∧ v2 < 180) <|
chk9 (iR (r6 41 0 + r6 3 v2)) <|
cag (G_held (r6 41 0 + r6 3 v2) r6) fun v43 r42 =>
stg (ur r42 41 0 v43) fun r46 =>
some (0, r46))
else
if r6 2 v2 = 9 then (
chk9 (0 ≤ v2 ∧ v2 < 180) <|
chk9 (0 ≤ r6 71 0 ∧ r6 71 0 < 5200) <|
stg (ur r6 69 (r6 71 0) (r6 3 v2)) fun r53 =>
chk9 (0 ≤ v2 ∧ v2 < 180) <|
chk9 (0 ≤ r53 71 0 ∧ r53 71 0 < 5200) <|
stg (ur r53 70 (r53 71 0) (r53 4 v2)) fun r60 =>
chk9 (iR (r60 71 0 + 1)) <|
stg (ur r60 71 0 (r60 71 0 + 1)) fun r64 =>
some (0, r64))
else
if r6 2 v2 = 10 then (
chk9 (0 ≤ v2 ∧ v2 < 180) <|
cag (G_isMarked (r6 3 v2) r6) fun v70 r69 =>
if v70 = 0 then (
chk9 (0 ≤ v2 ∧ v2 < 180) <|
chk9 (iR (r6 40 0 + r69 4 v2)) <|
stg (ur r69 40 0 (r6 40 0 + r69 4 v2)) fun r76 =>
some (0, r76))
else
chk9 (iR (r6 40 0 + 0)) <|
stg (ur r69 40 0 (r6 40 0 + 0)) fun r80 =>
some (0, r80))
else
if r6 2 v2 = 11 then (
chk9 (0 ≤ v2 ∧ v2 < 180) <|
if r6 3 v2 ≤ r6 45 0 then (
stg (ur r6 45 0 (r6 45 0)) fun r85 =>
some (0, r85))
else
chk9 (0 ≤ v2 ∧ v2 < 180) <|
stg (ur r6 45 0 (r6 3 v2)) fun r90 =>
some (0, r90))
else
if r6 2 v2 = 12 then (
chk9 (0 ≤ v2 ∧ v2 < 180) <|
chk9 (0 ≤ v2 ∧ v2 < 180) <|
if r6 4 v2 = 100 then (
G_passes_324 (r6 41 0) (r6 3 v2) 14 r6)
else
chk9 (0 ≤ v2 ∧ v2 < 180) <|
G_passes_324 (r6 4 v2) (r6 3 v2) 14 r6)
else
if r6 2 v2 = 13 then (
chk9 (0 ≤ v2 ∧ v2 < 180) <|
cag (G_fails (r6 3 v2) r6) fun _ r101 =>
some (0, r101))
else
if r6 2 v2 = 14 then (
cag (G_againOrFails r6) fun _ r105 =>
some (0, r105))
else
if r6 2 v2 = 15 then (
cag (G_ends 21 (r6 41 0) r6) fun _ r109 =>
some (0, r109))
else
stg (ur r6 40 0 l1) fun r113 =>
cag (G_waitsAt l1 r113) fun _ r116 =>
some (0, r116)
def G_passes (a1 : Int) (r : Rst) : Option G2 := G_passes_0 a1 r
def G_goesOn_126 (k0 : Rst → Option G2) (s0 s1 : Int) (r : Rst) : Option G2 :=
chk9 (iR (s1 - s0)) <|
stg (ur r 45 0 (s1 - s0)) fun r2 =>
cag (G_passes (r2 40 0) r2) fun _ r5 =>
k0 r5
def G_goesOn_106 (k0 : Rst → Option G2) (s0 : Int) (r : Rst) : Option G2 :=
chk9 ((s0 = 0 ∨ s0 = 1)) <|
stg (ur r 46 0 s0) fun r2 =>
if r2 46 0 = 0 then (
G_goesOn_126 k0 0 (r2 45 0) r2)
else
G_goesOn_126 k0 1 (r2 45 0) r2
def G_goesOn_36 (k0 : Rst → Option G2) (r : Rst) : Option G2 :=
chk9 (0 ≤ r 77 0 ∧ r 77 0 < 15) <|
if r 40 0 = r 5 (r 77 0) then (
cag (G_ends 21 (r 41 0) r) fun _ r11 =>
k0 r11)
else
if r 44 0 = 60 then (
cag (G_fails 9 r) fun _ r7 =>
k0 r7)
else
chk9 (iR (r 44 0 + 1)) <|
stg (ur r 44 0 (r 44 0 + 1)) fun r4 =>
if r4 45 0 ≤ 0 then (
G_goesOn_106 k0 0 r4)
else
G_goesOn_106 k0 1 r4
def G_goesOn_0 : Nat → Rst → Option G2
  | 0, _ => none
  | n + 1, r => (
if r 42 0 = 0 then (
if r 55 0 = 0 then (
if r 47 0 = 0 then (
G_goesOn_36 (G_goesOn_0 n) r)
else
if r 45 0 = 0 then (
cag (G_fails (-1) r) fun _ r1 =>
G_goesOn_0 n r1)
else
G_goesOn_36 (G_goesOn_0 n) r)
else
some (0, r))
else
some (0, r))
def G_goesOn (r : Rst) : Option G2 := G_goesOn_0 fuel9 r
def G_waiting_5 : Nat → Int → Int → Int → Int → Rst → Option G2
  | 0, _, _, _, _, _ => none
  | n + 1, l1, l2, l3, l4, r => (
if r 55 0 ≤ l4 then (
some (l3, r))
else
chk9 (0 ≤ l4 ∧ l4 < 3) <|
if r 56 l4 = l1 then (
chk9 (0 ≤ l4 ∧ l4 < 3) <|
if r 58 l4 = l2 then (
chk9 (0 ≤ l4 ∧ l4 < 3) <|
if r 60 l4 = 0 then (
chk9 (iR (l4 + 1)) <|
G_waiting_5 n l1 l2 l4 (l4 + 1) r)
else
chk9 (iR (l4 + 1)) <|
G_waiting_5 n l1 l2 l3 (l4 + 1) r)
else
chk9 (iR (l4 + 1)) <|
G_waiting_5 n l1 l2 l3 (l4 + 1) r)
else
chk9 (iR (l4 + 1)) <|
G_waiting_5 n l1 l2 l3 (l4 + 1) r)
def G_waiting_0 (l1 l2 : Int) (r : Rst) : Option G2 :=
G_waiting_5 fuel9 l1 l2 (-1) 0 r
def G_waiting (a1 a2 : Int) (r : Rst) : Option G2 := G_waiting_0 a1 a2 r
def G_waitingTimer_4 : Nat → Int → Int → Int → Rst → Option G2
  | 0, _, _, _, _ => none
  | n + 1, l1, l2, l3, r => (
if r 55 0 ≤ l3 then (
some (l2, r))
else
chk9 (0 ≤ l3 ∧ l3 < 3) <|
if r 59 l3 = l1 then (
chk9 (0 ≤ l3 ∧ l3 < 3) <|
if r 60 l3 = 0 then (
chk9 (iR (l3 + 1)) <|
G_waitingTimer_4 n l1 l3 (l3 + 1) r)
else
chk9 (iR (l3 + 1)) <|
G_waitingTimer_4 n l1 l2 (l3 + 1) r)
else
chk9 (iR (l3 + 1)) <|
G_waitingTimer_4 n l1 l2 (l3 + 1) r)
def G_waitingTimer_0 (l1 : Int) (r : Rst) : Option G2 :=
G_waitingTimer_4 fuel9 l1 (-1) 0 r
def G_waitingTimer (a1 : Int) (r : Rst) : Option G2 := G_waitingTimer_0 a1 r
def G_waitingSignal_9 : Nat → Int → Int → Int → Rst → Option G2
  | 0, _, _, _, _ => none
  | n + 1, l1, l2, l3, r => (
if l3 < 0 then (
some (l2, r))
else
chk9 (0 ≤ l3 ∧ l3 < 3) <|
if r 56 l3 = 2 then (
chk9 (0 ≤ l3 ∧ l3 < 3) <|
if r 57 l3 = l1 then (
chk9 (0 ≤ l3 ∧ l3 < 3) <|
if r 60 l3 = 0 then (
chk9 (iR (l3 + (-1))) <|
G_waitingSignal_9 n l1 l3 (l3 + (-1)) r)
else
chk9 (iR (l3 + (-1))) <|
G_waitingSignal_9 n l1 l2 (l3 + (-1)) r)
else
chk9 (iR (l3 + (-1))) <|
G_waitingSignal_9 n l1 l2 (l3 + (-1)) r)
else
chk9 (iR (l3 + (-1))) <|
G_waitingSignal_9 n l1 l2 (l3 + (-1)) r)
def G_waitingSignal_0 (l1 : Int) (r : Rst) : Option G2 :=
chk9 (iR (r 55 0 - 1)) <|
G_waitingSignal_9 fuel9 l1 (-1) (r 55 0 - 1) r
def G_waitingSignal (a1 : Int) (r : Rst) : Option G2 := G_waitingSignal_0 a1 r
def G_takesSignal_97 (l2 l3 : Int) (r : Rst) : Option G2 :=
cag (G_gets l3 l2 r) fun _ r1 =>
some (0, r1)
def G_takesSignal_56 (l2 s0 : Int) (r : Rst) : Option G2 :=
if s0 = (-1) then (
some (0, r))
else
chk9 (iR (r 68 0 - 1)) <|
chk9 (0 ≤ (r 68 0 - 1) ∧ (r 68 0 - 1) < 80) <|
stg (ur r 67 (r 68 0 - 1) 1) fun r4 =>
chk9 (0 ≤ s0 ∧ s0 < 3) <|
if r4 59 s0 = (-1) then (
G_takesSignal_97 l2 s0 r4)
else
chk9 (0 ≤ s0 ∧ s0 < 3) <|
cag (G_decides 11 (r4 59 s0) 0 r4) fun _ r11 =>
G_takesSignal_97 l2 s0 r11
def G_takesSignal_0 (l1 l2 : Int) (r : Rst) : Option G2 :=
chk9 (0 ≤ r 68 0 ∧ r 68 0 < 80) <|
stg (ur r 65 (r 68 0) l1) fun r3 =>
chk9 (0 ≤ r3 68 0 ∧ r3 68 0 < 80) <|
stg (ur r3 66 (r3 68 0) l2) fun r8 =>
chk9 (0 ≤ r8 68 0 ∧ r8 68 0 < 80) <|
stg (ur r8 67 (r8 68 0) 0) fun r13 =>
chk9 (iR (r13 68 0 + 1)) <|
stg (ur r13 68 0 (r13 68 0 + 1)) fun r17 =>
if r17 42 0 = 0 then (
cag (G_waitingSignal l1 r17) fun v21 r20 =>
G_takesSignal_56 l2 v21 r20)
else
G_takesSignal_56 l2 (-1) r17
def G_takesSignal (a1 a2 : Int) (r : Rst) : Option G2 := G_takesSignal_0 a1 a2 r
def G_takesOver_28 (l1 l3 s0 : Int) (r : Rst) : Option G2 :=
if s0 = (-1) then (
some (0, r))
else
if l1 = 2 then (
chk9 (0 ≤ s0 ∧ s0 < 3) <|
stg (ur r 60 s0 1) fun r18 =>
chk9 (0 ≤ s0 ∧ s0 < 3) <|
stg (ur r18 61 s0 1) fun r23 =>
some (0, r23))
else
if l1 = 3 then (
chk9 (0 ≤ s0 ∧ s0 < 3) <|
if r 56 s0 = 2 then (
cag (G_gets s0 (-1) r) fun _ r8 =>
some (0, r8))
else
chk9 (0 ≤ s0 ∧ s0 < 3) <|
stg (ur r 60 s0 1) fun r5 =>
some (0, r5))
else
cag (G_gets s0 l3 r) fun _ r12 =>
some (0, r12)
def G_takesOver_24 (l1 l2 l3 s0 : Int) (r : Rst) : Option G2 :=
cag (G_waiting s0 l2 r) fun v2 r1 =>
G_takesOver_28 l1 l3 v2 r1
def G_takesOver_0 (l1 l2 l3 : Int) (r : Rst) : Option G2 :=
if l1 = 3 then (
cag (G_waitingTimer l2 r) fun v2 r1 =>
G_takesOver_28 l1 l3 v2 r1)
else
if l1 = 5 then (
G_takesOver_24 l1 l2 l3 3 r)
else
G_takesOver_24 l1 l2 l3 0 r
def G_takesOver (a1 a2 a3 : Int) (r : Rst) : Option G2 := G_takesOver_0 a1 a2 a3 r
def G_takes_142 (r : Rst) : Option G2 :=
cag (G_goesOn r) fun _ r1 =>
some (0, r1)
def G_takes_117 (r : Rst) : Option G2 :=
if r 42 0 = 0 then (
if r 55 0 ≤ 0 then (
G_takes_142 r)
else
cag (G_areDone r) fun v2 r1 =>
if v2 = 0 then (
G_takes_142 r1)
else
cag (G_finishes r1) fun _ r5 =>
G_takes_142 r5)
else
G_takes_142 r
def G_takes_103 (l1 l2 l3 : Int) (r : Rst) : Option G2 :=
if r 42 0 = 0 then (
cag (G_takesOver l1 l2 l3 r) fun _ r1 =>
G_takes_117 r1)
else
G_takes_117 r
def G_takes_88 (l1 l2 l3 : Int) (r : Rst) : Option G2 :=
if l2 = r 54 0 then (
cag (G_undoesNext r) fun _ r1 =>
G_takes_117 r1)
else
G_takes_103 l1 l2 l3 r
def G_takes_0 (l1 l2 l3 : Int) (r : Rst) : Option G2 :=
stg (ur r 44 0 0) fun r1 =>
if l1 = 0 then (
stg (ur r1 41 0 l2) fun r15 =>
G_takes_117 r15)
else
if l1 = 4 then (
cag (G_takesSignal l2 l3 r1) fun _ r11 =>
G_takes_117 r11)
else
if l1 = 6 then (
stg (ur r1 47 0 1) fun r4 =>
if r4 42 0 = 0 then (
if r4 55 0 ≤ 0 then (
G_takes_117 r4)
else
if r4 46 0 = 0 then (
cag (G_cuts r4) fun _ r7 =>
G_takes_117 r7)
else
G_takes_117 r4)
else
G_takes_117 r4)
else
if r1 42 0 = 1 then (
if l1 = 1 then (
G_takes_88 l1 l2 l3 r1)
else
if l1 = 2 then (
G_takes_88 l1 l2 l3 r1)
else
G_takes_103 l1 l2 l3 r1)
else
G_takes_103 l1 l2 l3 r1
def G_takes (a1 a2 a3 : Int) (r : Rst) : Option G2 := G_takes_0 a1 a2 a3 r
def G_takesAll_7 : Nat → Int → Int → Rst → Option G2
  | 0, _, _, _ => none
  | n + 1, l2, l3, r => (
if l2 ≤ l3 then (
some (0, r))
else
chk9 (0 ≤ l3 ∧ l3 < 7200) <|
if 7 ≤ r 19 l3 then (
chk9 (iR (l3 + 1)) <|
G_takesAll_7 n l2 (l3 + 1) r)
else
chk9 (0 ≤ l3 ∧ l3 < 7200) <|
chk9 (0 ≤ l3 ∧ l3 < 7200) <|
chk9 (0 ≤ l3 ∧ l3 < 7200) <|
cag (G_takes (r 19 l3) (r 20 l3) (r 21 l3) r) fun _ r10 =>
chk9 (iR (l3 + 1)) <|
G_takesAll_7 n l2 (l3 + 1) r10)
def G_takesAll_0 (l1 l2 : Int) (r : Rst) : Option G2 :=
stg (ur r 76 0 0) fun r1 =>
G_takesAll_7 fuel9 l2 l1 r1
def G_takesAll (a1 a2 : Int) (r : Rst) : Option G2 := G_takesAll_0 a1 a2 r
def G_endOf_4 : Nat → Int → Int → Rst → Option G2
  | 0, _, _, _ => none
  | n + 1, l2, l3, r => (
if l2 ≤ l3 then (
some (l3, r))
else
chk9 (0 ≤ l3 ∧ l3 < 7200) <|
if r 19 l3 ≤ 7 then (
some (l3, r))
else
chk9 (iR (l3 + 1)) <|
G_endOf_4 n l2 (l3 + 1) r)
def G_endOf_0 (l1 l2 : Int) (r : Rst) : Option G2 :=
chk9 (iR (l1 + 1)) <|
G_endOf_4 fuel9 l2 (l1 + 1) r
def G_endOf (a1 a2 : Int) (r : Rst) : Option G2 := G_endOf_0 a1 a2 r
def G_isAsTold_24 : Nat → Int → Int → Rst → Option G2
  | 0, _, _, _ => none
  | n + 1, l1, l2, r => (
if r 76 0 ≤ l2 then (
some (l1, r))
else
if l1 = 0 then (
some (l1, r))
else
chk9 (0 ≤ l2 ∧ l2 < 5200) <|
chk9 (iR (r 78 0 + l2)) <|
chk9 (0 ≤ (r 78 0 + l2) ∧ (r 78 0 + l2) < 7200) <|
if r 72 l2 = r 19 (r 78 0 + l2) then (
chk9 (0 ≤ l2 ∧ l2 < 5200) <|
chk9 (iR (r 78 0 + l2)) <|
chk9 (0 ≤ (r 78 0 + l2) ∧ (r 78 0 + l2) < 7200) <|
if r 73 l2 = r 20 (r 78 0 + l2) then (
chk9 (0 ≤ l2 ∧ l2 < 5200) <|
chk9 (iR (r 78 0 + l2)) <|
chk9 (0 ≤ (r 78 0 + l2) ∧ (r 78 0 + l2) < 7200) <|
if r 74 l2 = r 21 (r 78 0 + l2) then (
chk9 (iR (l2 + 1)) <|
G_isAsTold_24 n 1 (l2 + 1) r)
else
chk9 (iR (l2 + 1)) <|
G_isAsTold_24 n 0 (l2 + 1) r)
else
chk9 (iR (l2 + 1)) <|
G_isAsTold_24 n 0 (l2 + 1) r)
else
chk9 (iR (l2 + 1)) <|
G_isAsTold_24 n 0 (l2 + 1) r)
def G_isAsTold_0 (r : Rst) : Option G2 :=
chk9 (iR (r 79 0 - r 78 0)) <|
if r 76 0 = (r 79 0 - r 78 0) then (
G_isAsTold_24 fuel9 1 0 r)
else
G_isAsTold_24 fuel9 0 0 r
def G_isAsTold (r : Rst) : Option G2 := boolG (G_isAsTold_0 r)
def G_plays_58 : Nat → Int → Int → Int → Rst → Option G2
  | 0, _, _, _, _ => none
  | n + 1, l4, l5, l6, r => (
if l4 ≤ l6 then (
some (l5, r))
else
chk9 (0 ≤ l6 ∧ l6 < 7200) <|
if r 19 l6 = 7 then (
chk9 (iR (l6 + 1)) <|
stg (ur r 78 0 (l6 + 1)) fun r5 =>
cag (G_endOf l6 l4 r5) fun v9 r8 =>
stg (ur r8 79 0 v9) fun r12 =>
cag (G_takesAll l5 l6 r12) fun _ r15 =>
cag (G_isAsTold r15) fun v20 r19 =>
if v20 = 0 then (
some ((-1), r19))
else
chk9 (iR (l6 + 1)) <|
G_plays_58 n l4 (r19 79 0) (l6 + 1) r19)
else
chk9 (iR (l6 + 1)) <|
G_plays_58 n l4 l5 (l6 + 1) r)
def G_plays_0 (l1 l2 : Int) (r : Rst) : Option G2 :=
cag (G_rowOfRun l1 r) fun v2 r1 =>
chk9 (iR (80 * v2)) <|
chk9 (0 ≤ v2 ∧ v2 < 90) <|
chk9 (iR ((80 * v2) + r1 18 v2)) <|
chk9 (iR (80 * v2)) <|
chk9 (0 ≤ l1 ∧ l1 < 10) <|
cag (G_rowOf (r1 7 l1) l2 r1) fun v13 r12 =>
cag (G_begins v13 r12) fun _ r16 =>
chk9 (0 ≤ l1 ∧ l1 < 10) <|
stg (ur r16 83 0 (r16 12 l1)) fun r22 =>
stg (ur r22 80 0 0) fun r25 =>
G_plays_58 fuel9 ((80 * v2) + r1 18 v2) (80 * v2) (80 * v2) r25
def G_plays (a1 a2 : Int) (r : Rst) : Option G2 := G_plays_0 a1 a2 r
def G_isAny_11 : Nat → Int → Int → Int → Rst → Option G2
  | 0, _, _, _, _ => none
  | n + 1, l2, l3, l4, r => (
chk9 (0 ≤ l3 ∧ l3 < 90) <|
if r 18 l3 ≤ l4 then (
some (l2, r))
else
if l2 = 0 then (
chk9 (iR (80 * l3)) <|
chk9 (iR ((80 * l3) + l4)) <|
chk9 (0 ≤ ((80 * l3) + l4) ∧ ((80 * l3) + l4) < 7200) <|
if r 19 ((80 * l3) + l4) = 7 then (
chk9 (iR (l4 + 1)) <|
G_isAny_11 n 1 l3 (l4 + 1) r)
else
chk9 (iR (l4 + 1)) <|
G_isAny_11 n 0 l3 (l4 + 1) r)
else
chk9 (iR (l4 + 1)) <|
G_isAny_11 n 1 l3 (l4 + 1) r)
def G_isAny_0 (l1 : Int) (r : Rst) : Option G2 :=
cag (G_rowOfRun l1 r) fun v2 r1 =>
G_isAny_11 fuel9 0 v2 0 r1
def G_isAny (a1 : Int) (r : Rst) : Option G2 := boolG (G_isAny_0 a1 r)
def G_isDueNow_0 (l1 : Int) (r : Rst) : Option G2 :=
cag (G_rowOfRun l1 r) fun v2 r1 =>
cag (G_isRunning l1 r1) fun v6 r5 =>
if v6 = 0 then (
some (0, r5))
else
chk9 (iR (80 * v2)) <|
chk9 (0 ≤ v2 ∧ v2 < 90) <|
chk9 (iR ((80 * v2) + r5 18 v2)) <|
chk9 (iR (((80 * v2) + r5 18 v2) - 1)) <|
chk9 (0 ≤ (((80 * v2) + r5 18 v2) - 1) ∧ (((80 * v2) + r5 18 v2) - 1) < 7200) <|
if 7 ≤ r5 19 (((80 * v2) + r5 18 v2) - 1) then (
some (0, r5))
else
some (1, r5)
def G_isDueNow (a1 : Int) (r : Rst) : Option G2 := boolG (G_isDueNow_0 a1 r)
def G_takesOff_14 : Nat → Int → Int → Int → Rst → Option G2
  | 0, _, _, _, _ => none
  | n + 1, l1, l2, l3, r => (
if 4 ≤ l3 then (
some (0, r))
else
chk9 (0 ≤ l3 ∧ l3 < 4) <|
chk9 (iR (80 * l1)) <|
chk9 (iR ((80 * l1) + l2)) <|
if r 39 l3 = ((80 * l1) + l2) then (
chk9 (0 ≤ l3 ∧ l3 < 4) <|
stg (ur r 39 l3 (-1)) fun r15 =>
chk9 (iR (l3 + 1)) <|
G_takesOff_14 n l1 l2 (l3 + 1) r15)
else
chk9 (0 ≤ l3 ∧ l3 < 4) <|
chk9 (0 ≤ l3 ∧ l3 < 4) <|
stg (ur r 39 l3 (r 39 l3)) fun r9 =>
chk9 (iR (l3 + 1)) <|
G_takesOff_14 n l1 l2 (l3 + 1) r9)
def G_takesOff_0 (l1 l2 : Int) (r : Rst) : Option G2 :=
chk9 (iR (80 * l1)) <|
chk9 (iR ((80 * l1) + l2)) <|
chk9 (0 ≤ ((80 * l1) + l2) ∧ ((80 * l1) + l2) < 800) <|
stg (ur r 23 ((80 * l1) + l2) 0) fun r5 =>
G_takesOff_14 fuel9 l1 l2 0 r5
def G_takesOff (a1 a2 : Int) (r : Rst) : Option G2 := G_takesOff_0 a1 a2 r
def G_putsActivity_0 (l1 l2 : Int) (r : Rst) : Option G2 :=
chk9 (iR (80 * l1)) <|
chk9 (0 ≤ l1 ∧ l1 < 10) <|
chk9 (iR ((80 * l1) + r 22 l1)) <|
chk9 (0 ≤ ((80 * l1) + r 22 l1) ∧ ((80 * l1) + r 22 l1) < 800) <|
stg (ur r 23 ((80 * l1) + r 22 l1) 1) fun r7 =>
chk9 (0 ≤ ((80 * l1) + r 22 l1) ∧ ((80 * l1) + r 22 l1) < 800) <|
stg (ur r7 24 ((80 * l1) + r 22 l1) l2) fun r12 =>
chk9 (0 ≤ ((80 * l1) + r 22 l1) ∧ ((80 * l1) + r 22 l1) < 800) <|
stg (ur r12 25 ((80 * l1) + r 22 l1) 0) fun r17 =>
chk9 (0 ≤ ((80 * l1) + r 22 l1) ∧ ((80 * l1) + r 22 l1) < 800) <|
stg (ur r17 26 ((80 * l1) + r 22 l1) (r17 1 0)) fun r22 =>
chk9 (0 ≤ ((80 * l1) + r 22 l1) ∧ ((80 * l1) + r 22 l1) < 800) <|
stg (ur r22 28 ((80 * l1) + r 22 l1) (r22 29 0)) fun r27 =>
chk9 (iR (r27 29 0 + 1)) <|
stg (ur r27 29 0 (r27 29 0 + 1)) fun r31 =>
chk9 (0 ≤ l1 ∧ l1 < 10) <|
chk9 (iR (r31 22 l1 + 1)) <|
chk9 (0 ≤ l1 ∧ l1 < 10) <|
stg (ur r31 22 l1 (r31 22 l1 + 1)) fun r39 =>
some (0, r39)
def G_putsActivity (a1 a2 : Int) (r : Rst) : Option G2 := G_putsActivity_0 a1 a2 r
def G_setsTimer__0 (l1 l2 l3 : Int) (r : Rst) : Option G2 :=
if l3 = 0 then (
chk9 (iR (80 * l1)) <|
chk9 (iR ((80 * l1) + l2)) <|
chk9 (0 ≤ ((80 * l1) + l2) ∧ ((80 * l1) + l2) < 800) <|
stg (ur r 31 ((80 * l1) + l2) 0) fun r5 =>
some (0, r5))
else
chk9 (iR (80 * l1)) <|
chk9 (0 ≤ l1 ∧ l1 < 10) <|
chk9 (iR ((80 * l1) + r 30 l1)) <|
chk9 (iR (r 1 0 + l2)) <|
chk9 (0 ≤ ((80 * l1) + r 30 l1) ∧ ((80 * l1) + r 30 l1) < 800) <|
stg (ur r 31 ((80 * l1) + r 30 l1) (r 1 0 + l2)) fun r15 =>
chk9 (0 ≤ l1 ∧ l1 < 10) <|
chk9 (iR (r15 30 l1 + 1)) <|
chk9 (0 ≤ l1 ∧ l1 < 10) <|
stg (ur r15 30 l1 (r15 30 l1 + 1)) fun r23 =>
some (0, r23)
def G_setsTimer_ (a1 a2 a3 : Int) (r : Rst) : Option G2 := G_setsTimer__0 a1 a2 a3 r
def G_makesChild_71 (l1 s0 s1 : Int) (r : Rst) : Option G2 :=
chk9 (0 ≤ s1 ∧ s1 < 800) <|
stg (ur r 33 s1 s0) fun r3 =>
chk9 (0 ≤ l1 ∧ l1 < 10) <|
chk9 (iR (r3 32 l1 + 1)) <|
chk9 (0 ≤ l1 ∧ l1 < 10) <|
stg (ur r3 32 l1 (r3 32 l1 + 1)) fun r11 =>
some (0, r11)
def G_makesChild_0 (l1 l2 : Int) (r : Rst) : Option G2 :=
chk9 (iR (80 * l1)) <|
chk9 (0 ≤ l1 ∧ l1 < 10) <|
chk9 (iR ((80 * l1) + r 32 l1)) <|
chk9 (0 ≤ l2 ∧ l2 < 5200) <|
chk9 (0 ≤ ((80 * l1) + r 32 l1) ∧ ((80 * l1) + r 32 l1) < 800) <|
stg (ur r 34 ((80 * l1) + r 32 l1) (r 74 l2)) fun r9 =>
if r9 16 0 = 10 then (
G_makesChild_71 l1 (-1) ((80 * l1) + r 32 l1) r9)
else
chk9 (0 ≤ l2 ∧ l2 < 5200) <|
chk9 (0 ≤ l1 ∧ l1 < 10) <|
chk9 (0 ≤ l1 ∧ l1 < 10) <|
chk9 (0 ≤ l2 ∧ l2 < 5200) <|
cag (G_makesFlow (r9 73 l2) (r9 8 l1) l1 (r9 32 l1) (r9 75 l2) r9) fun v21 r20 =>
G_makesChild_71 l1 v21 ((80 * l1) + r 32 l1) r20
def G_makesChild (a1 a2 : Int) (r : Rst) : Option G2 := G_makesChild_0 a1 a2 r
def G_closesOne_116 (k56 : Int → Int → Rst → Option G2) (l1 l2 l3 : Int) (r : Rst) : Option G2 :=
if l3 = (-1) then (
chk9 (iR (l2 + 1)) <|
k56 l1 (l2 + 1) r)
else
cag (G_isRunning l3 r) fun v3 r2 =>
if v3 = 0 then (
chk9 (iR (l2 + 1)) <|
k56 l1 (l2 + 1) r2)
else
chk9 (iR (80 * l1)) <|
chk9 (iR ((80 * l1) + l2)) <|
chk9 (0 ≤ ((80 * l1) + l2) ∧ ((80 * l1) + l2) < 800) <|
if r2 34 ((80 * l1) + l2) = 2 then (
cag (G_rowOfRun l3 r2) fun v13 r12 =>
chk9 (0 ≤ v13 ∧ v13 < 90) <|
stg (ur r12 17 v13 24) fun r18 =>
chk9 (0 ≤ l3 ∧ l3 < 10) <|
stg (ur r18 15 l3 (-1)) fun r23 =>
chk9 (0 ≤ r23 82 0 ∧ r23 82 0 < 16) <|
stg (ur r23 81 (r23 82 0) l3) fun r28 =>
chk9 (iR (r28 82 0 + 1)) <|
stg (ur r28 82 0 (r28 82 0 + 1)) fun r32 =>
chk9 (iR (l2 + 1)) <|
k56 l1 (l2 + 1) r32)
else
chk9 (iR (l2 + 1)) <|
k56 l1 (l2 + 1) r2
def G_closesOne_56 : Nat → Int → Int → Rst → Option G2
  | 0, _, _, _ => none
  | n + 1, l1, l2, r => (
chk9 (0 ≤ l1 ∧ l1 < 10) <|
if r 32 l1 ≤ l2 then (
some (0, r))
else
chk9 (iR (80 * l1)) <|
chk9 (iR ((80 * l1) + l2)) <|
chk9 (0 ≤ ((80 * l1) + l2) ∧ ((80 * l1) + l2) < 800) <|
if r 33 ((80 * l1) + l2) = (-1) then (
G_closesOne_116 (G_closesOne_56 n) l1 l2 (r 33 ((80 * l1) + l2)) r)
else
cag (G_isRunning (r 33 ((80 * l1) + l2)) r) fun v8 r7 =>
if v8 = 0 then (
G_closesOne_116 (G_closesOne_56 n) l1 l2 (r 33 ((80 * l1) + l2)) r7)
else
chk9 (iR (80 * l1)) <|
chk9 (iR ((80 * l1) + l2)) <|
chk9 (0 ≤ ((80 * l1) + l2) ∧ ((80 * l1) + l2) < 800) <|
if r7 34 ((80 * l1) + l2) = 1 then (
cag (G_cancels (r 33 ((80 * l1) + l2)) r7) fun v16 r15 =>
chk9 (iR (l2 + 1)) <|
G_closesOne_56 n l1 (l2 + 1) r15)
else
G_closesOne_116 (G_closesOne_56 n) l1 l2 (r 33 ((80 * l1) + l2)) r7)
def G_closesOne_26 (k56 : Int → Int → Rst → Option G2) : Nat → Int → Int → Rst → Option G2
  | 0, _, _, _ => none
  | n + 1, l1, l2, r => (
chk9 (0 ≤ l1 ∧ l1 < 10) <|
if r 30 l1 ≤ l2 then (
k56 l1 0 r)
else
chk9 (iR (80 * l1)) <|
chk9 (iR ((80 * l1) + l2)) <|
chk9 (0 ≤ ((80 * l1) + l2) ∧ ((80 * l1) + l2) < 800) <|
stg (ur r 31 ((80 * l1) + l2) 0) fun r7 =>
chk9 (iR (l2 + 1)) <|
G_closesOne_26 k56 n l1 (l2 + 1) r7)
def G_closesOne_2 (k26 : Int → Int → Rst → Option G2) : Nat → Int → Int → Rst → Option G2
  | 0, _, _, _ => none
  | n + 1, l1, l2, r => (
chk9 (0 ≤ l1 ∧ l1 < 10) <|
if r 22 l1 ≤ l2 then (
k26 l1 0 r)
else
cag (G_takesOff l1 l2 r) fun _ r3 =>
chk9 (iR (l2 + 1)) <|
G_closesOne_2 k26 n l1 (l2 + 1) r3)
def G_closesOne_0 (l1 : Int) (r : Rst) : Option G2 :=
G_closesOne_2 (G_closesOne_26 (G_closesOne_56 fuel9) fuel9) fuel9 l1 0 r
def G_closesOne (a1 : Int) (r : Rst) : Option G2 := G_closesOne_0 a1 r
def G_closes_25 : Nat → Rst → Option G2
  | 0, _ => none
  | n + 1, r => (
if r 82 0 ≤ 0 then (
some (0, r))
else
chk9 (iR (r 82 0 - 1)) <|
stg (ur r 82 0 (r 82 0 - 1)) fun r2 =>
chk9 (0 ≤ r2 82 0 ∧ r2 82 0 < 16) <|
cag (G_closesOne (r2 81 (r2 82 0)) r2) fun _ r7 =>
G_closes_25 n r7)
def G_closes_0 (l1 : Int) (r : Rst) : Option G2 :=
stg (ur r 82 0 0) fun r1 =>
chk9 (0 ≤ r1 82 0 ∧ r1 82 0 < 16) <|
stg (ur r1 81 (r1 82 0) l1) fun r6 =>
chk9 (iR (r6 82 0 + 1)) <|
stg (ur r6 82 0 (r6 82 0 + 1)) fun r10 =>
G_closes_25 fuel9 r10
def G_closes (a1 : Int) (r : Rst) : Option G2 := G_closes_0 a1 r
def G_over_94 (l1 : Int) (r : Rst) : Option G2 :=
if r 47 0 = 0 then (
some (0, r))
else
cag (G_happens l1 6 0 0 r) fun v2 r1 =>
if v2 = 0 then (
some (0, r1))
else
some (0, r1)
def G_over_39 (k94 : Int → Rst → Option G2) : Nat → Int → Int → Rst → Option G2
  | 0, _, _, _ => none
  | n + 1, l1, l5, r => (
if r 68 0 ≤ l5 then (
k94 l1 r)
else
chk9 (0 ≤ l5 ∧ l5 < 80) <|
if r 67 l5 = 0 then (
chk9 (0 ≤ l5 ∧ l5 < 80) <|
chk9 (0 ≤ l5 ∧ l5 < 80) <|
cag (G_happens l1 4 (r 65 l5) (r 66 l5) r) fun v9 r8 =>
if v9 = 0 then (
chk9 (iR (l5 + 1)) <|
G_over_39 k94 n l1 (l5 + 1) r8)
else
chk9 (iR (l5 + 1)) <|
G_over_39 k94 n l1 (l5 + 1) r8)
else
chk9 (iR (l5 + 1)) <|
G_over_39 k94 n l1 (l5 + 1) r)
def G_over_166 (s0 s1 s2 s3 : Int) (r : Rst) : Option G2 :=
cag (G_happens s3 s2 s1 s0 r) fun v2 r1 =>
some (0, r1)
def G_over_0 (l1 l2 l3 : Int) (r : Rst) : Option G2 :=
cag (G_rowOfRun l1 r) fun v2 r1 =>
chk9 (0 ≤ v2 ∧ v2 < 90) <|
stg (ur r1 17 v2 l2) fun r7 =>
cag (G_closes l1 r7) fun _ r10 =>
chk9 (0 ≤ l1 ∧ l1 < 10) <|
if l2 = 14 then (
cag (G_beginsRun l1 l3 r10) fun _ r22 =>
G_over_39 (G_over_94) fuel9 l1 0 r22)
else
if r10 9 l1 = (-1) then (
some (0, r10))
else
chk9 (0 ≤ r10 9 l1 ∧ r10 9 l1 < 10) <|
chk9 (0 ≤ l1 ∧ l1 < 10) <|
if r10 12 (r10 9 l1) = r10 10 l1 then (
chk9 (0 ≤ l1 ∧ l1 < 10) <|
if l2 = 21 then (
G_over_166 l3 (r10 11 l1) 5 (r10 9 l1) r10)
else
G_over_166 (-1) (r10 11 l1) 5 (r10 9 l1) r10)
else
some (0, r10)
def G_over (a1 a2 a3 : Int) (r : Rst) : Option G2 := G_over_0 a1 a2 a3 r
def G_does_191 : Nat → Int → Int → Rst → Option G2
  | 0, _, _, _ => none
  | n + 1, l1, l3, r => (
chk9 (0 ≤ l1 ∧ l1 < 10) <|
if r 32 l1 ≤ l3 then (
some (0, r))
else
chk9 (iR (80 * l1)) <|
chk9 (iR ((80 * l1) + l3)) <|
chk9 (0 ≤ ((80 * l1) + l3) ∧ ((80 * l1) + l3) < 800) <|
if r 33 ((80 * l1) + l3) = (-1) then (
cag (G_happens l1 5 l3 (-1) r) fun v9 r8 =>
if v9 = 0 then (
chk9 (iR (l3 + 1)) <|
G_does_191 n l1 (l3 + 1) r8)
else
chk9 (iR (l3 + 1)) <|
G_does_191 n l1 (l3 + 1) r8)
else
chk9 (iR (l3 + 1)) <|
G_does_191 n l1 (l3 + 1) r)
def G_does_165 (l1 l2 : Int) (r : Rst) : Option G2 :=
if r 42 0 = 2 then (
cag (G_over l1 (r 49 0) (r 50 0) r) fun _ r1 =>
some (0, r1))
else
G_does_191 fuel9 l1 l2 r
def G_does_9 (k165 : Int → Int → Rst → Option G2) : Nat → Int → Int → Int → Rst → Option G2
  | 0, _, _, _, _ => none
  | n + 1, l1, l2, l3, r => (
if r 76 0 ≤ l3 then (
k165 l1 l2 r)
else
chk9 (0 ≤ l3 ∧ l3 < 5200) <|
if r 72 l3 = 8 then (
chk9 (0 ≤ l3 ∧ l3 < 5200) <|
cag (G_putsActivity l1 (r 74 l3) r) fun _ r5 =>
chk9 (iR (l3 + 1)) <|
G_does_9 k165 n l1 l2 (l3 + 1) r5)
else
if r 72 l3 = 9 then (
chk9 (0 ≤ l3 ∧ l3 < 5200) <|
cag (G_takesOff l1 (r 73 l3) r) fun _ r12 =>
chk9 (iR (l3 + 1)) <|
G_does_9 k165 n l1 l2 (l3 + 1) r12)
else
if r 72 l3 = 10 then (
chk9 (0 ≤ l3 ∧ l3 < 5200) <|
cag (G_setsTimer_ l1 (r 73 l3) 1 r) fun _ r19 =>
chk9 (iR (l3 + 1)) <|
G_does_9 k165 n l1 l2 (l3 + 1) r19)
else
if r 72 l3 = 11 then (
chk9 (0 ≤ l3 ∧ l3 < 5200) <|
cag (G_setsTimer_ l1 (r 73 l3) 0 r) fun _ r26 =>
chk9 (iR (l3 + 1)) <|
G_does_9 k165 n l1 l2 (l3 + 1) r26)
else
if r 72 l3 = 12 then (
cag (G_makesChild l1 l3 r) fun _ r31 =>
chk9 (iR (l3 + 1)) <|
G_does_9 k165 n l1 l2 (l3 + 1) r31)
else
if r 72 l3 = 13 then (
chk9 (iR (l3 + 1)) <|
G_does_9 k165 n l1 l2 (l3 + 1) r)
else
if r 72 l3 = 14 then (
chk9 (iR (2 * l1)) <|
chk9 (0 ≤ l3 ∧ l3 < 5200) <|
chk9 (iR ((2 * l1) + r 73 l3)) <|
chk9 (0 ≤ l3 ∧ l3 < 5200) <|
chk9 (0 ≤ ((2 * l1) + r 73 l3) ∧ ((2 * l1) + r 73 l3) < 20) <|
stg (ur r 13 ((2 * l1) + r 73 l3) (r 74 l3)) fun r45 =>
chk9 (iR (l3 + 1)) <|
G_does_9 k165 n l1 l2 (l3 + 1) r45)
else
if r 72 l3 = 15 then (
chk9 (0 ≤ l3 ∧ l3 < 5200) <|
cag (G_putsActivity l1 (r 74 l3) r) fun _ r51 =>
chk9 (iR (l3 + 1)) <|
G_does_9 k165 n l1 l2 (l3 + 1) r51)
else
chk9 (iR (l3 + 1)) <|
G_does_9 k165 n l1 l2 (l3 + 1) r)
def G_does_0 (l1 : Int) (r : Rst) : Option G2 :=
chk9 (0 ≤ l1 ∧ l1 < 10) <|
G_does_9 (G_does_165) fuel9 l1 (r 32 l1) 0 r
def G_does (a1 : Int) (r : Rst) : Option G2 := G_does_0 a1 r
def G_decide_265 (l1 : Int) (r : Rst) : Option G2 :=
cag (G_does l1 r) fun _ r1 =>
some (r 76 0, r1)
def G_decide_224 (k265 : Int → Rst → Option G2) : Nat → Int → Int → Rst → Option G2
  | 0, _, _, _ => none
  | n + 1, l1, l7, r => (
if r 76 0 ≤ l7 then (
k265 l1 r)
else
chk9 (0 ≤ l7 ∧ l7 < 5200) <|
chk9 (0 ≤ l7 ∧ l7 < 5200) <|
chk9 (0 ≤ l7 ∧ l7 < 5200) <|
cag (G_writes l1 (r 72 l7) (r 73 l7) (r 74 l7) r) fun _ r7 =>
chk9 (iR (l7 + 1)) <|
G_decide_224 k265 n l1 (l7 + 1) r7)
def G_decide_211 (l1 l2 s0 s1 : Int) (r : Rst) : Option G2 :=
chk9 (0 ≤ s1 ∧ s1 < 10) <|
stg (ur r 15 s1 s0) fun r3 =>
cag (G_writes l1 7 l2 0 r3) fun _ r6 =>
G_decide_224 (G_decide_265) fuel9 l1 0 r6
def G_decide_191 (l1 l2 : Int) (r : Rst) : Option G2 :=
if r 42 0 = 0 then (
G_decide_211 l1 l2 (r 40 0) l1 r)
else
G_decide_211 l1 l2 (-1) l1 r
def G_decide_158 (l1 l2 s0 : Int) (r : Rst) : Option G2 :=
if s0 = 0 then (
chk9 (0 ≤ l1 ∧ l1 < 10) <|
stg (ur r 14 l1 (r 41 0)) fun r3 =>
G_decide_191 l1 l2 r3)
else
stg (ur r 76 0 0) fun r6 =>
cag (G_ends 22 8 r6) fun _ r9 =>
G_decide_191 l1 l2 r9
def G_decide_150 (l1 l2 s0 s1 : Int) (r : Rst) : Option G2 :=
if s1 ≤ s0 then (
G_decide_158 l1 l2 0 r)
else
G_decide_158 l1 l2 1 r
def G_decide_55 (l1 l2 s0 : Int) (r : Rst) : Option G2 :=
cag (G_isFine s0 r) fun v2 r1 =>
if v2 = 0 then (
some (0, r1))
else
cag (G_isDueNow l1 r1) fun v6 r5 =>
if v6 = 0 then (
some ((-1), r5))
else
cag (G_plays l1 l2 r5) fun v10 r9 =>
if v10 = (-1) then (
some ((-2), r9))
else
cag (G_rowOfRun l1 r9) fun v14 r13 =>
stg (ur r13 80 0 1) fun r17 =>
chk9 (iR (80 * v14)) <|
chk9 (0 ≤ v14 ∧ v14 < 90) <|
chk9 (iR ((80 * v14) + r17 18 v14)) <|
cag (G_takesAll v10 ((80 * v14) + r17 18 v14) r17) fun _ r24 =>
chk9 (0 ≤ v14 ∧ v14 < 90) <|
chk9 (iR (r24 18 v14 + 1)) <|
chk9 (iR ((r24 18 v14 + 1) + r24 76 0)) <|
if r24 42 0 = 2 then (
G_decide_150 l1 l2 80 ((r24 18 v14 + 1) + r24 76 0) r24)
else
G_decide_150 l1 l2 77 ((r24 18 v14 + 1) + r24 76 0) r24
def G_decide_32 (l1 l2 s0 : Int) (r : Rst) : Option G2 :=
if s0 = 0 then (
G_decide_55 l1 l2 1 r)
else
cag (G_isRunning l1 r) fun v2 r1 =>
if v2 = 0 then (
G_decide_55 l1 l2 2 r1)
else
G_decide_55 l1 l2 0 r1
def G_decide_0 (l1 l2 : Int) (r : Rst) : Option G2 :=
cag (G_isFlow l1 r) fun v2 r1 =>
if v2 = 0 then (
G_decide_32 l1 l2 0 r1)
else
chk9 (0 ≤ l1 ∧ l1 < 10) <|
chk9 (0 ≤ r1 7 l1 ∧ r1 7 l1 < 3) <|
cag (G_isIn l2 1 (r1 6 (r1 7 l1)) r1) fun v10 r9 =>
if v10 = 0 then (
G_decide_32 l1 l2 0 r9)
else
G_decide_32 l1 l2 1 r9
def G_decide (a1 a2 : Int) (r : Rst) : Option G2 := G_decide_0 a1 a2 r
def G_setRate_27 (l1 l2 s0 : Int) (r : Rst) : Option G2 :=
cag (G_isFine s0 r) fun v2 r1 =>
if v2 = 0 then (
some (0, r1))
else
chk9 (0 ≤ l1 ∧ l1 < 2) <|
chk9 (0 ≤ l1 ∧ l1 < 2) <|
stg (ur r1 35 l1 l2) fun r9 =>
some (r1 35 l1, r9)
def G_setRate_0 (l1 l2 : Int) (r : Rst) : Option G2 :=
cag (G_isQueue l1 r) fun v2 r1 =>
if v2 = 0 then (
G_setRate_27 l1 l2 1 r1)
else
cag (G_isIn l2 1 9 r1) fun v6 r5 =>
if v6 = 0 then (
G_setRate_27 l1 l2 2 r5)
else
G_setRate_27 l1 l2 0 r5
def G_setRate (a1 a2 : Int) (r : Rst) : Option G2 := G_setRate_0 a1 a2 r
def G_told_0 (l1 : Int) (r : Rst) : Option G2 :=
chk9 (0 ≤ l1) <|
chk9 (iR (1000 * (l1 / 80))) <|
chk9 (0 ≤ (l1 / 80) ∧ (l1 / 80) < 10) <|
chk9 (iR (100 * r 12 (l1 / 80))) <|
chk9 (iR ((1000 * (l1 / 80)) + (100 * r 12 (l1 / 80)))) <|
chk9 (0 ≤ l1) <|
chk9 (iR (((1000 * (l1 / 80)) + (100 * r 12 (l1 / 80))) + (l1 % 80))) <|
some ((((1000 * (l1 / 80)) + (100 * r 12 (l1 / 80))) + (l1 % 80)), r)
def G_told (a1 : Int) (r : Rst) : Option G2 := G_told_0 a1 r
def G_isAhead_0 (l1 l2 l3 : Int) (r : Rst) : Option G2 :=
chk9 (iR (3 * l3)) <|
chk9 (0 ≤ l1) <|
chk9 (0 ≤ (l1 / 80) ∧ (l1 / 80) < 10) <|
chk9 (iR ((3 * l3) + r 8 (l1 / 80))) <|
chk9 (0 ≤ ((3 * l3) + r 8 (l1 / 80)) ∧ ((3 * l3) + r 8 (l1 / 80)) < 6) <|
chk9 (iR (3 * l3)) <|
chk9 (0 ≤ l2) <|
chk9 (0 ≤ (l2 / 80) ∧ (l2 / 80) < 10) <|
chk9 (iR ((3 * l3) + r 8 (l2 / 80))) <|
chk9 (0 ≤ ((3 * l3) + r 8 (l2 / 80)) ∧ ((3 * l3) + r 8 (l2 / 80)) < 6) <|
chk9 (0 ≤ l1) <|
chk9 (0 ≤ (l1 / 80) ∧ (l1 / 80) < 10) <|
chk9 (0 ≤ l2) <|
chk9 (0 ≤ (l2 / 80) ∧ (l2 / 80) < 10) <|
if r 8 (l1 / 80) = r 8 (l2 / 80) then (
chk9 (0 ≤ l1 ∧ l1 < 800) <|
chk9 (0 ≤ l2 ∧ l2 < 800) <|
if r 26 l1 < r 26 l2 then (
some (1, r))
else
chk9 (0 ≤ l1 ∧ l1 < 800) <|
chk9 (0 ≤ l2 ∧ l2 < 800) <|
if r 26 l1 = r 26 l2 then (
chk9 (0 ≤ l1 ∧ l1 < 800) <|
chk9 (0 ≤ l2 ∧ l2 < 800) <|
if r 28 l2 ≤ r 28 l1 then (
some (0, r))
else
some (1, r))
else
some (0, r))
else
if r 37 ((3 * l3) + r 8 (l1 / 80)) < r 37 ((3 * l3) + r 8 (l2 / 80)) then (
some (1, r))
else
if r 37 ((3 * l3) + r 8 (l1 / 80)) = r 37 ((3 * l3) + r 8 (l2 / 80)) then (
chk9 (0 ≤ l1) <|
chk9 (0 ≤ (l1 / 80) ∧ (l1 / 80) < 10) <|
chk9 (0 ≤ l2) <|
chk9 (0 ≤ (l2 / 80) ∧ (l2 / 80) < 10) <|
if r 8 (l2 / 80) ≤ r 8 (l1 / 80) then (
some (0, r))
else
some (1, r))
else
some (0, r)
def G_isAhead (a1 a2 a3 : Int) (r : Rst) : Option G2 := boolG (G_isAhead_0 a1 a2 a3 r)
def G_isReady_0 (l1 l2 : Int) (r : Rst) : Option G2 :=
chk9 (0 ≤ l1) <|
chk9 (0 ≤ l1) <|
chk9 (0 ≤ (l1 / 80) ∧ (l1 / 80) < 10) <|
if r 22 (l1 / 80) ≤ (l1 % 80) then (
some (0, r))
else
chk9 (0 ≤ l1 ∧ l1 < 800) <|
if r 23 l1 = 1 then (
chk9 (0 ≤ l1 ∧ l1 < 800) <|
if r 24 l1 = l2 then (
some (1, r))
else
some (0, r))
else
some (0, r)
def G_isReady (a1 a2 : Int) (r : Rst) : Option G2 := boolG (G_isReady_0 a1 a2 r)
def G_next_4 : Nat → Int → Int → Int → Rst → Option G2
  | 0, _, _, _, _ => none
  | n + 1, l1, l2, l3, r => (
chk9 (iR (80 * r 16 0)) <|
if (80 * r 16 0) ≤ l3 then (
some (l2, r))
else
cag (G_isReady l3 l1 r) fun v3 r2 =>
if v3 = 0 then (
chk9 (iR (l3 + 1)) <|
G_next_4 n l1 l2 (l3 + 1) r2)
else
if l2 = (-1) then (
chk9 (iR (l3 + 1)) <|
G_next_4 n l1 l3 (l3 + 1) r2)
else
cag (G_isAhead l3 l2 l1 r2) fun v9 r8 =>
if v9 = 0 then (
chk9 (iR (l3 + 1)) <|
G_next_4 n l1 l2 (l3 + 1) r8)
else
chk9 (iR (l3 + 1)) <|
G_next_4 n l1 l3 (l3 + 1) r8)
def G_next_0 (l1 : Int) (r : Rst) : Option G2 :=
G_next_4 fuel9 l1 (-1) 0 r
def G_next (a1 : Int) (r : Rst) : Option G2 := G_next_0 a1 r
def G_take_85 (l1 l2 s0 : Int) (r : Rst) : Option G2 :=
if s0 = (-1) then (
some ((-1), r))
else
chk9 (0 ≤ l2 ∧ l2 < 2) <|
chk9 (iR (r 36 l2 + 1)) <|
chk9 (0 ≤ l2 ∧ l2 < 2) <|
stg (ur r 36 l2 (r 36 l2 + 1)) fun r6 =>
chk9 (iR (3 * l2)) <|
chk9 (0 ≤ s0) <|
chk9 (0 ≤ (s0 / 80) ∧ (s0 / 80) < 10) <|
chk9 (iR ((3 * l2) + r6 8 (s0 / 80))) <|
chk9 (0 ≤ ((3 * l2) + r6 8 (s0 / 80)) ∧ ((3 * l2) + r6 8 (s0 / 80)) < 6) <|
chk9 (iR (r6 37 ((3 * l2) + r6 8 (s0 / 80)) + 1)) <|
chk9 (0 ≤ ((3 * l2) + r6 8 (s0 / 80)) ∧ ((3 * l2) + r6 8 (s0 / 80)) < 6) <|
stg (ur r6 37 ((3 * l2) + r6 8 (s0 / 80)) (r6 37 ((3 * l2) + r6 8 (s0 / 80)) + 1)) fun r19 =>
chk9 (0 ≤ s0 ∧ s0 < 800) <|
stg (ur r19 23 s0 2) fun r24 =>
chk9 (0 ≤ s0 ∧ s0 < 800) <|
chk9 (iR (r24 25 s0 + 1)) <|
chk9 (0 ≤ s0 ∧ s0 < 800) <|
stg (ur r24 25 s0 (r24 25 s0 + 1)) fun r32 =>
chk9 (iR (r32 1 0 + 10)) <|
chk9 (0 ≤ s0 ∧ s0 < 800) <|
stg (ur r32 27 s0 (r32 1 0 + 10)) fun r38 =>
chk9 (0 ≤ l1 ∧ l1 < 4) <|
stg (ur r38 39 l1 s0) fun r43 =>
cag (G_told s0 r43) fun v47 r46 =>
some (v47, r46)
def G_take_53 (l1 l2 s0 : Int) (r : Rst) : Option G2 :=
cag (G_isFine s0 r) fun v2 r1 =>
if v2 = 0 then (
some (0, r1))
else
chk9 (0 ≤ l2 ∧ l2 < 2) <|
chk9 (0 ≤ l2 ∧ l2 < 2) <|
if r1 35 l2 ≤ r1 36 l2 then (
G_take_85 l1 l2 (-1) r1)
else
cag (G_next l2 r1) fun v10 r9 =>
G_take_85 l1 l2 v10 r9
def G_take_19 (l1 l2 s0 : Int) (r : Rst) : Option G2 :=
if s0 = 0 then (
G_take_53 l1 l2 1 r)
else
chk9 (0 ≤ l1 ∧ l1 < 4) <|
if r 38 l1 = 0 then (
G_take_53 l1 l2 2 r)
else
chk9 (0 ≤ l1 ∧ l1 < 4) <|
if r 39 l1 = (-1) then (
G_take_53 l1 l2 0 r)
else
G_take_53 l1 l2 2 r
def G_take_0 (l1 l2 : Int) (r : Rst) : Option G2 :=
cag (G_isWorker l1 r) fun v2 r1 =>
if v2 = 0 then (
G_take_19 l1 l2 0 r1)
else
cag (G_isQueue l2 r1) fun v6 r5 =>
if v6 = 0 then (
G_take_19 l1 l2 0 r5)
else
G_take_19 l1 l2 1 r5
def G_take (a1 a2 : Int) (r : Rst) : Option G2 := G_take_0 a1 a2 r
def G_has_13 (l1 s0 : Int) (r : Rst) : Option G2 :=
cag (G_isFine s0 r) fun v2 r1 =>
if v2 = 0 then (
some (0, r1))
else
chk9 (0 ≤ l1 ∧ l1 < 4) <|
if r1 39 l1 = (-1) then (
some ((-1), r1))
else
chk9 (0 ≤ l1 ∧ l1 < 4) <|
cag (G_told (r1 39 l1) r1) fun v10 r9 =>
some (v10, r9)
def G_has_0 (l1 : Int) (r : Rst) : Option G2 :=
cag (G_isWorker l1 r) fun v2 r1 =>
if v2 = 0 then (
G_has_13 l1 1 r1)
else
G_has_13 l1 0 r1
def G_has (a1 : Int) (r : Rst) : Option G2 := G_has_0 a1 r
def G_beat_29 (l1 s0 : Int) (r : Rst) : Option G2 :=
cag (G_isFine s0 r) fun v2 r1 =>
if v2 = 0 then (
some (0, r1))
else
chk9 (0 ≤ l1 ∧ l1 < 4) <|
chk9 (iR (r1 1 0 + 10)) <|
chk9 (0 ≤ r1 39 l1 ∧ r1 39 l1 < 800) <|
stg (ur r1 27 (r1 39 l1) (r1 1 0 + 10)) fun r10 =>
chk9 (0 ≤ l1 ∧ l1 < 4) <|
chk9 (0 ≤ r10 39 l1 ∧ r10 39 l1 < 800) <|
some (r10 27 (r10 39 l1), r10)
def G_beat_0 (l1 : Int) (r : Rst) : Option G2 :=
cag (G_isWorker l1 r) fun v2 r1 =>
if v2 = 0 then (
G_beat_29 l1 1 r1)
else
chk9 (0 ≤ l1 ∧ l1 < 4) <|
if r1 39 l1 = (-1) then (
G_beat_29 l1 2 r1)
else
G_beat_29 l1 0 r1
def G_beat (a1 : Int) (r : Rst) : Option G2 := G_beat_0 a1 r
def G_end_40 (l1 l2 s0 : Int) (r : Rst) : Option G2 :=
cag (G_isFine s0 r) fun v2 r1 =>
if v2 = 0 then (
some (0, r1))
else
chk9 (0 ≤ l1 ∧ l1 < 4) <|
chk9 (0 ≤ r1 39 l1) <|
chk9 (0 ≤ r1 39 l1) <|
cag (G_takesOff (r1 39 l1 / 80) (r1 39 l1 % 80) r1) fun _ r9 =>
chk9 (0 ≤ r1 39 l1) <|
chk9 (0 ≤ r1 39 l1) <|
cag (G_happens (r1 39 l1 / 80) 1 (r1 39 l1 % 80) l2 r9) fun v16 r15 =>
some (v16, r15)
def G_end_0 (l1 l2 : Int) (r : Rst) : Option G2 :=
cag (G_isWorker l1 r) fun v2 r1 =>
if v2 = 0 then (
G_end_40 l1 l2 1 r1)
else
cag (G_isValue l2 r1) fun v6 r5 =>
if v6 = 0 then (
G_end_40 l1 l2 2 r5)
else
chk9 (0 ≤ l1 ∧ l1 < 4) <|
if r5 39 l1 = (-1) then (
G_end_40 l1 l2 3 r5)
else
G_end_40 l1 l2 0 r5
def G_end (a1 a2 : Int) (r : Rst) : Option G2 := boolG (G_end_0 a1 a2 r)
def G_failsTry_0 (l1 : Int) (r : Rst) : Option G2 :=
chk9 (0 ≤ l1 ∧ l1 < 800) <|
chk9 (0 ≤ l1) <|
chk9 (0 ≤ l1) <|
cag (G_takesOff (l1 / 80) (l1 % 80) r) fun _ r5 =>
if r 25 l1 = 3 then (
chk9 (0 ≤ l1) <|
chk9 (0 ≤ l1) <|
cag (G_happens (l1 / 80) 2 (l1 % 80) 0 r5) fun v24 r23 =>
some (0, r23))
else
chk9 (0 ≤ l1 ∧ l1 < 800) <|
stg (ur r5 23 l1 3) fun r11 =>
chk9 (iR (2 * r 25 l1)) <|
chk9 (iR (r11 1 0 + (2 * r 25 l1))) <|
chk9 (0 ≤ l1 ∧ l1 < 800) <|
stg (ur r11 26 l1 (r11 1 0 + (2 * r 25 l1))) fun r18 =>
some (0, r18)
def G_failsTry (a1 : Int) (r : Rst) : Option G2 := G_failsTry_0 a1 r
def G_fail_29 (l1 s0 : Int) (r : Rst) : Option G2 :=
cag (G_isFine s0 r) fun v2 r1 =>
if v2 = 0 then (
some (0, r1))
else
chk9 (0 ≤ l1 ∧ l1 < 4) <|
chk9 (0 ≤ r1 39 l1 ∧ r1 39 l1 < 800) <|
chk9 (0 ≤ l1 ∧ l1 < 4) <|
cag (G_failsTry (r1 39 l1) r1) fun _ r11 =>
some (r1 25 (r1 39 l1), r11)
def G_fail_0 (l1 : Int) (r : Rst) : Option G2 :=
cag (G_isWorker l1 r) fun v2 r1 =>
if v2 = 0 then (
G_fail_29 l1 1 r1)
else
chk9 (0 ≤ l1 ∧ l1 < 4) <|
if r1 39 l1 = (-1) then (
G_fail_29 l1 2 r1)
else
G_fail_29 l1 0 r1
def G_fail (a1 : Int) (r : Rst) : Option G2 := G_fail_0 a1 r
def G_run_56 (l1 l2 l3 s0 s1 : Int) (r : Rst) : Option G2 :=
chk9 (0 ≤ s1 ∧ s1 < 4) <|
stg (ur r 39 s1 s0) fun r3 =>
chk9 (0 ≤ l1 ∧ l1 < 4 ∧ (l2 = 0 ∨ l2 = 1)) <|
stg (ur r3 38 l1 l2) fun r9 =>
some (l3, r9)
def G_run_36 (l1 l2 s0 : Int) (r : Rst) : Option G2 :=
if l2 = 0 then (
G_run_56 l1 l2 s0 (-1) l1 r)
else
chk9 (0 ≤ l1 ∧ l1 < 4) <|
G_run_56 l1 l2 s0 (r 39 l1) l1 r
def G_run_13 (l1 l2 s0 : Int) (r : Rst) : Option G2 :=
cag (G_isFine s0 r) fun v2 r1 =>
if v2 = 0 then (
some (0, r1))
else
chk9 (0 ≤ l1 ∧ l1 < 4) <|
if r1 39 l1 = (-1) then (
G_run_36 l1 l2 0 r1)
else
G_run_36 l1 l2 1 r1
def G_run_0 (l1 l2 : Int) (r : Rst) : Option G2 :=
cag (G_isWorker l1 r) fun v2 r1 =>
if v2 = 0 then (
G_run_13 l1 l2 1 r1)
else
G_run_13 l1 l2 0 r1
def G_run (a1 a2 : Int) (r : Rst) : Option G2 := boolG (G_run_0 a1 a2 r)
def G_ready_25 : Nat → Int → Int → Int → Rst → Option G2
  | 0, _, _, _, _ => none
  | n + 1, l1, l2, l3, r => (
chk9 (iR (80 * r 16 0)) <|
if (80 * r 16 0) ≤ l3 then (
some (l2, r))
else
cag (G_isReady l3 l1 r) fun v3 r2 =>
if v3 = 0 then (
chk9 (iR (l2 + 0)) <|
chk9 (iR (l3 + 1)) <|
G_ready_25 n l1 (l2 + 0) (l3 + 1) r2)
else
chk9 (iR (l2 + 1)) <|
chk9 (iR (l3 + 1)) <|
G_ready_25 n l1 (l2 + 1) (l3 + 1) r2)
def G_ready_13 (l1 s0 : Int) (r : Rst) : Option G2 :=
cag (G_isFine s0 r) fun v2 r1 =>
if v2 = 0 then (
some (0, r1))
else
G_ready_25 fuel9 l1 0 0 r1
def G_ready_0 (l1 : Int) (r : Rst) : Option G2 :=
cag (G_isQueue l1 r) fun v2 r1 =>
if v2 = 0 then (
G_ready_13 l1 1 r1)
else
G_ready_13 l1 0 r1
def G_ready (a1 : Int) (r : Rst) : Option G2 := G_ready_0 a1 r
def G_taken_32 (l1 l2 s0 : Int) (r : Rst) : Option G2 :=
cag (G_isFine s0 r) fun v2 r1 =>
if v2 = 0 then (
some (0, r1))
else
chk9 (iR (3 * l1)) <|
chk9 (iR ((3 * l1) + l2)) <|
chk9 (0 ≤ ((3 * l1) + l2) ∧ ((3 * l1) + l2) < 6) <|
some (r1 37 ((3 * l1) + l2), r1)
def G_taken_21 (l1 l2 s0 : Int) (r : Rst) : Option G2 :=
if s0 = 0 then (
G_taken_32 l1 l2 1 r)
else
G_taken_32 l1 l2 0 r
def G_taken_0 (l1 l2 : Int) (r : Rst) : Option G2 :=
cag (G_isQueue l1 r) fun v2 r1 =>
if v2 = 0 then (
G_taken_21 l1 l2 0 r1)
else
cag (G_isIn l2 0 2 r1) fun v6 r5 =>
if v6 = 0 then (
G_taken_21 l1 l2 0 r5)
else
G_taken_21 l1 l2 1 r5
def G_taken (a1 a2 : Int) (r : Rst) : Option G2 := G_taken_0 a1 a2 r
def G_ticksOnce_220 (k165 : Int → Rst → Option G2) (l1 s0 : Int) (r : Rst) : Option G2 :=
if s0 = 0 then (
chk9 (0 ≤ l1 ∧ l1 < 800) <|
chk9 (0 ≤ l1 ∧ l1 < 800) <|
stg (ur r 23 l1 (r 23 l1)) fun r5 =>
chk9 (iR (l1 + 1)) <|
k165 (l1 + 1) r5)
else
chk9 (0 ≤ l1 ∧ l1 < 800) <|
stg (ur r 23 l1 1) fun r11 =>
chk9 (iR (l1 + 1)) <|
k165 (l1 + 1) r11
def G_ticksOnce_165 : Nat → Int → Rst → Option G2
  | 0, _, _ => none
  | n + 1, l1, r => (
chk9 (iR (80 * r 16 0)) <|
if (80 * r 16 0) ≤ l1 then (
some (0, r))
else
chk9 (0 ≤ l1) <|
chk9 (0 ≤ l1) <|
chk9 (0 ≤ (l1 / 80) ∧ (l1 / 80) < 10) <|
if r 22 (l1 / 80) ≤ (l1 % 80) then (
G_ticksOnce_220 (G_ticksOnce_165 n) l1 0 r)
else
chk9 (0 ≤ l1 ∧ l1 < 800) <|
if r 23 l1 = 3 then (
chk9 (0 ≤ l1 ∧ l1 < 800) <|
if r 26 l1 = r 1 0 then (
G_ticksOnce_220 (G_ticksOnce_165 n) l1 1 r)
else
G_ticksOnce_220 (G_ticksOnce_165 n) l1 0 r)
else
G_ticksOnce_220 (G_ticksOnce_165 n) l1 0 r)
def G_ticksOnce_102 (k165 : Int → Rst → Option G2) : Nat → Int → Rst → Option G2
  | 0, _, _ => none
  | n + 1, l1, r => (
chk9 (iR (80 * r 16 0)) <|
if (80 * r 16 0) ≤ l1 then (
k165 0 r)
else
chk9 (0 ≤ l1) <|
chk9 (0 ≤ l1) <|
chk9 (0 ≤ (l1 / 80) ∧ (l1 / 80) < 10) <|
if r 22 (l1 / 80) ≤ (l1 % 80) then (
chk9 (iR (l1 + 1)) <|
G_ticksOnce_102 k165 n (l1 + 1) r)
else
chk9 (0 ≤ l1 ∧ l1 < 800) <|
if r 23 l1 = 2 then (
chk9 (0 ≤ l1 ∧ l1 < 800) <|
if r 27 l1 = r 1 0 then (
cag (G_failsTry l1 r) fun _ r13 =>
chk9 (iR (l1 + 1)) <|
G_ticksOnce_102 k165 n (l1 + 1) r13)
else
chk9 (iR (l1 + 1)) <|
G_ticksOnce_102 k165 n (l1 + 1) r)
else
chk9 (iR (l1 + 1)) <|
G_ticksOnce_102 k165 n (l1 + 1) r)
def G_ticksOnce_32 (k102 : Int → Rst → Option G2) : Nat → Int → Rst → Option G2
  | 0, _, _ => none
  | n + 1, l1, r => (
chk9 (iR (80 * r 16 0)) <|
if (80 * r 16 0) ≤ l1 then (
k102 0 r)
else
chk9 (0 ≤ l1) <|
chk9 (0 ≤ l1) <|
chk9 (0 ≤ (l1 / 80) ∧ (l1 / 80) < 10) <|
if r 30 (l1 / 80) ≤ (l1 % 80) then (
chk9 (iR (l1 + 1)) <|
G_ticksOnce_32 k102 n (l1 + 1) r)
else
chk9 (0 ≤ l1 ∧ l1 < 800) <|
if r 31 l1 = r 1 0 then (
chk9 (0 ≤ l1 ∧ l1 < 800) <|
stg (ur r 31 l1 0) fun r12 =>
chk9 (0 ≤ l1) <|
chk9 (0 ≤ l1) <|
cag (G_happens (l1 / 80) 3 (l1 % 80) 0 r12) fun v18 r17 =>
chk9 (iR (l1 + 1)) <|
G_ticksOnce_32 k102 n (l1 + 1) r17)
else
chk9 (iR (l1 + 1)) <|
G_ticksOnce_32 k102 n (l1 + 1) r)
def G_ticksOnce_12 (k32 : Int → Rst → Option G2) : Nat → Int → Rst → Option G2
  | 0, _, _ => none
  | n + 1, l1, r => (
if 2 ≤ l1 then (
k32 0 r)
else
chk9 (0 ≤ l1 ∧ l1 < 2) <|
stg (ur r 36 l1 0) fun r3 =>
chk9 (iR (l1 + 1)) <|
G_ticksOnce_12 k32 n (l1 + 1) r3)
def G_ticksOnce_0 (r : Rst) : Option G2 :=
chk9 (iR (r 1 0 + 1)) <|
stg (ur r 1 0 (r 1 0 + 1)) fun r2 =>
G_ticksOnce_12 (G_ticksOnce_32 (G_ticksOnce_102 (G_ticksOnce_165 fuel9) fuel9) fuel9) fuel9 0 r2
def G_ticksOnce (r : Rst) : Option G2 := G_ticksOnce_0 r
def G_tick_26 : Nat → Int → Int → Rst → Option G2
  | 0, _, _, _ => none
  | n + 1, l1, l2, r => (
if l1 ≤ l2 then (
some (r 1 0, r))
else
cag (G_ticksOnce r) fun _ r1 =>
chk9 (iR (l2 + 1)) <|
G_tick_26 n l1 (l2 + 1) r1)
def G_tick_16 (l1 s0 : Int) (r : Rst) : Option G2 :=
cag (G_isFine s0 r) fun v2 r1 =>
if v2 = 0 then (
some (0, r1))
else
G_tick_26 fuel9 l1 0 r1
def G_tick_0 (l1 : Int) (r : Rst) : Option G2 :=
cag (G_isIn l1 1 50 r) fun v2 r1 =>
if v2 = 0 then (
G_tick_16 l1 1 r1)
else
G_tick_16 l1 0 r1
def G_tick (a1 : Int) (r : Rst) : Option G2 := G_tick_0 a1 r
def G_clock_0 (r : Rst) : Option G2 :=
stg (ur r 0 0 0) fun r1 =>
some (r1 1 0, r1)
def G_clock (r : Rst) : Option G2 := G_clock_0 r
def G_workflows_0 (r : Rst) : Option G2 :=
stg (ur r 0 0 0) fun r1 =>
some (r1 16 0, r1)
def G_workflows (r : Rst) : Option G2 := G_workflows_0 r
def G_parent_14 (l1 s0 : Int) (r : Rst) : Option G2 :=
cag (G_isFine s0 r) fun v2 r1 =>
if v2 = 0 then (
some (0, r1))
else
chk9 (0 ≤ l1 ∧ l1 < 10) <|
some (r1 9 l1, r1)
def G_parent_0 (l1 : Int) (r : Rst) : Option G2 :=
cag (G_isFlow l1 r) fun v2 r1 =>
if v2 = 0 then (
G_parent_14 l1 1 r1)
else
G_parent_14 l1 0 r1
def G_parent (a1 : Int) (r : Rst) : Option G2 := G_parent_0 a1 r
def G_runs_14 (l1 s0 : Int) (r : Rst) : Option G2 :=
cag (G_isFine s0 r) fun v2 r1 =>
if v2 = 0 then (
some (0, r1))
else
chk9 (0 ≤ l1 ∧ l1 < 10) <|
some (r1 12 l1, r1)
def G_runs_0 (l1 : Int) (r : Rst) : Option G2 :=
cag (G_isFlow l1 r) fun v2 r1 =>
if v2 = 0 then (
G_runs_14 l1 1 r1)
else
G_runs_14 l1 0 r1
def G_runs (a1 : Int) (r : Rst) : Option G2 := G_runs_0 a1 r
def G_isRun_0 (l1 l2 : Int) (r : Rst) : Option G2 :=
cag (G_isFlow l1 r) fun v2 r1 =>
if v2 = 0 then (
some (0, r1))
else
chk9 (0 ≤ l1 ∧ l1 < 10) <|
cag (G_isIn l2 1 (r1 12 l1) r1) fun v8 r7 =>
if v8 = 0 then (
some (0, r7))
else
some (1, r7)
def G_isRun (a1 a2 : Int) (r : Rst) : Option G2 := boolG (G_isRun_0 a1 a2 r)
def G_state_15 (l1 l2 s0 : Int) (r : Rst) : Option G2 :=
cag (G_isFine s0 r) fun v2 r1 =>
if v2 = 0 then (
some (0, r1))
else
chk9 (iR (9 * l1)) <|
chk9 (iR ((9 * l1) + l2)) <|
chk9 (iR (((9 * l1) + l2) - 1)) <|
chk9 (0 ≤ (((9 * l1) + l2) - 1) ∧ (((9 * l1) + l2) - 1) < 90) <|
some (r1 17 (((9 * l1) + l2) - 1), r1)
def G_state_0 (l1 l2 : Int) (r : Rst) : Option G2 :=
cag (G_isRun l1 l2 r) fun v2 r1 =>
if v2 = 0 then (
G_state_15 l1 l2 1 r1)
else
G_state_15 l1 l2 0 r1
def G_state (a1 a2 : Int) (r : Rst) : Option G2 := G_state_0 a1 a2 r
def G_events_15 (l1 l2 s0 : Int) (r : Rst) : Option G2 :=
cag (G_isFine s0 r) fun v2 r1 =>
if v2 = 0 then (
some (0, r1))
else
chk9 (iR (9 * l1)) <|
chk9 (iR ((9 * l1) + l2)) <|
chk9 (iR (((9 * l1) + l2) - 1)) <|
chk9 (0 ≤ (((9 * l1) + l2) - 1) ∧ (((9 * l1) + l2) - 1) < 90) <|
some (r1 18 (((9 * l1) + l2) - 1), r1)
def G_events_0 (l1 l2 : Int) (r : Rst) : Option G2 :=
cag (G_isRun l1 l2 r) fun v2 r1 =>
if v2 = 0 then (
G_events_15 l1 l2 1 r1)
else
G_events_15 l1 l2 0 r1
def G_events (a1 a2 : Int) (r : Rst) : Option G2 := G_events_0 a1 a2 r
def G_isEvent_0 (l1 l2 l3 : Int) (r : Rst) : Option G2 :=
cag (G_isRun l1 l2 r) fun v2 r1 =>
if v2 = 0 then (
some (0, r1))
else
chk9 (iR (9 * l1)) <|
chk9 (iR ((9 * l1) + l2)) <|
chk9 (iR (((9 * l1) + l2) - 1)) <|
chk9 (0 ≤ (((9 * l1) + l2) - 1) ∧ (((9 * l1) + l2) - 1) < 90) <|
chk9 (iR (r1 18 (((9 * l1) + l2) - 1) - 1)) <|
cag (G_isIn l3 0 (r1 18 (((9 * l1) + l2) - 1) - 1) r1) fun v12 r11 =>
if v12 = 0 then (
some (0, r11))
else
some (1, r11)
def G_isEvent (a1 a2 a3 : Int) (r : Rst) : Option G2 := boolG (G_isEvent_0 a1 a2 a3 r)
def G_eventKind_16 (l1 l2 l3 s0 : Int) (r : Rst) : Option G2 :=
cag (G_isFine s0 r) fun v2 r1 =>
if v2 = 0 then (
some (0, r1))
else
chk9 (iR (9 * l1)) <|
chk9 (iR ((9 * l1) + l2)) <|
chk9 (iR (((9 * l1) + l2) - 1)) <|
chk9 (iR (80 * (((9 * l1) + l2) - 1))) <|
chk9 (iR ((80 * (((9 * l1) + l2) - 1)) + l3)) <|
chk9 (0 ≤ ((80 * (((9 * l1) + l2) - 1)) + l3) ∧ ((80 * (((9 * l1) + l2) - 1)) + l3) < 7200) <|
some (r1 19 ((80 * (((9 * l1) + l2) - 1)) + l3), r1)
def G_eventKind_0 (l1 l2 l3 : Int) (r : Rst) : Option G2 :=
cag (G_isEvent l1 l2 l3 r) fun v2 r1 =>
if v2 = 0 then (
G_eventKind_16 l1 l2 l3 1 r1)
else
G_eventKind_16 l1 l2 l3 0 r1
def G_eventKind (a1 a2 a3 : Int) (r : Rst) : Option G2 := G_eventKind_0 a1 a2 a3 r
def G_eventNumber_16 (l1 l2 l3 l4 s0 : Int) (r : Rst) : Option G2 :=
cag (G_isFine s0 r) fun v2 r1 =>
if v2 = 0 then (
some (0, r1))
else
chk9 (iR (9 * l1)) <|
chk9 (iR ((9 * l1) + l2)) <|
chk9 (iR (((9 * l1) + l2) - 1)) <|
chk9 (iR (80 * (((9 * l1) + l2) - 1))) <|
chk9 (iR ((80 * (((9 * l1) + l2) - 1)) + l3)) <|
if l4 = 0 then (
chk9 (0 ≤ ((80 * (((9 * l1) + l2) - 1)) + l3) ∧ ((80 * (((9 * l1) + l2) - 1)) + l3) < 7200) <|
some (r1 21 ((80 * (((9 * l1) + l2) - 1)) + l3), r1))
else
chk9 (0 ≤ ((80 * (((9 * l1) + l2) - 1)) + l3) ∧ ((80 * (((9 * l1) + l2) - 1)) + l3) < 7200) <|
some (r1 20 ((80 * (((9 * l1) + l2) - 1)) + l3), r1)
def G_eventNumber_0 (l1 l2 l3 l4 : Int) (r : Rst) : Option G2 :=
cag (G_isEvent l1 l2 l3 r) fun v2 r1 =>
if v2 = 0 then (
G_eventNumber_16 l1 l2 l3 l4 1 r1)
else
G_eventNumber_16 l1 l2 l3 l4 0 r1
def G_eventNumber (a1 a2 a3 a4 : Int) (r : Rst) : Option G2 := G_eventNumber_0 a1 a2 a3 a4 r
def G_property_29 (l1 l2 s0 : Int) (r : Rst) : Option G2 :=
cag (G_isFine s0 r) fun v2 r1 =>
if v2 = 0 then (
some (0, r1))
else
chk9 (iR (2 * l1)) <|
chk9 (iR ((2 * l1) + l2)) <|
chk9 (0 ≤ ((2 * l1) + l2) ∧ ((2 * l1) + l2) < 20) <|
some (r1 13 ((2 * l1) + l2), r1)
def G_property_0 (l1 l2 : Int) (r : Rst) : Option G2 :=
cag (G_isFlow l1 r) fun v2 r1 =>
if v2 = 0 then (
G_property_29 l1 l2 1 r1)
else
cag (G_isIn l2 0 1 r1) fun v6 r5 =>
if v6 = 0 then (
G_property_29 l1 l2 2 r5)
else
G_property_29 l1 l2 0 r5
def G_property (a1 a2 : Int) (r : Rst) : Option G2 := G_property_0 a1 a2 r
def G_found_34 : Nat → Int → Int → Int → Int → Int → Rst → Option G2
  | 0, _, _, _, _, _, _ => none
  | n + 1, l1, l2, l3, l4, l5, r => (
if r 16 0 ≤ l5 then (
some (l4, r))
else
cag (G_isRunning l5 r) fun v2 r1 =>
if v2 = 0 then (
chk9 (iR (l4 + 0)) <|
chk9 (iR (l5 + 1)) <|
G_found_34 n l1 l2 l3 (l4 + 0) (l5 + 1) r1)
else
chk9 (iR (2 * l5)) <|
chk9 (iR ((2 * l5) + l1)) <|
chk9 (0 ≤ ((2 * l5) + l1) ∧ ((2 * l5) + l1) < 20) <|
cag (G_isIn (r1 13 ((2 * l5) + l1)) l2 l3 r1) fun v12 r11 =>
if v12 = 0 then (
chk9 (iR (l4 + 0)) <|
chk9 (iR (l5 + 1)) <|
G_found_34 n l1 l2 l3 (l4 + 0) (l5 + 1) r11)
else
chk9 (iR (l4 + 1)) <|
chk9 (iR (l5 + 1)) <|
G_found_34 n l1 l2 l3 (l4 + 1) (l5 + 1) r11)
def G_found_20 (l1 l2 l3 s0 : Int) (r : Rst) : Option G2 :=
cag (G_isFine s0 r) fun v2 r1 =>
if v2 = 0 then (
some (0, r1))
else
G_found_34 fuel9 l1 l2 l3 0 0 r1
def G_found_0 (l1 l2 l3 : Int) (r : Rst) : Option G2 :=
cag (G_isIn l1 0 1 r) fun v2 r1 =>
if v2 = 0 then (
G_found_20 l1 l2 l3 1 r1)
else
if l2 ≤ l3 then (
G_found_20 l1 l2 l3 0 r1)
else
G_found_20 l1 l2 l3 1 r1
def G_found (a1 a2 a3 : Int) (r : Rst) : Option G2 := G_found_0 a1 a2 a3 r
def G_isDue_14 (l1 s0 : Int) (r : Rst) : Option G2 :=
cag (G_isFine s0 r) fun v2 r1 =>
if v2 = 0 then (
some (0, r1))
else
cag (G_isDueNow l1 r1) fun v6 r5 =>
if v6 = 0 then (
some (0, r5))
else
some (1, r5)
def G_isDue_0 (l1 : Int) (r : Rst) : Option G2 :=
cag (G_isFlow l1 r) fun v2 r1 =>
if v2 = 0 then (
G_isDue_14 l1 1 r1)
else
G_isDue_14 l1 0 r1
def G_isDue (a1 : Int) (r : Rst) : Option G2 := boolG (G_isDue_0 a1 r)
def G_register_14 (l1 s0 : Int) (r : Rst) : Option G2 :=
cag (G_isFine s0 r) fun v2 r1 =>
if v2 = 0 then (
some (0, r1))
else
chk9 (0 ≤ l1 ∧ l1 < 10) <|
some (r1 14 l1, r1)
def G_register_0 (l1 : Int) (r : Rst) : Option G2 :=
cag (G_isFlow l1 r) fun v2 r1 =>
if v2 = 0 then (
G_register_14 l1 1 r1)
else
G_register_14 l1 0 r1
def G_register (a1 : Int) (r : Rst) : Option G2 := G_register_0 a1 r
def G_place_14 (l1 s0 : Int) (r : Rst) : Option G2 :=
cag (G_isFine s0 r) fun v2 r1 =>
if v2 = 0 then (
some (0, r1))
else
chk9 (0 ≤ l1 ∧ l1 < 10) <|
some (r1 15 l1, r1)
def G_place_0 (l1 : Int) (r : Rst) : Option G2 :=
cag (G_isFlow l1 r) fun v2 r1 =>
if v2 = 0 then (
G_place_14 l1 1 r1)
else
G_place_14 l1 0 r1
def G_place (a1 : Int) (r : Rst) : Option G2 := G_place_0 a1 r
def G_registerAnew_43 (l1 l2 s0 : Int) (r : Rst) : Option G2 :=
cag (G_isFine s0 r) fun v2 r1 =>
if v2 = 0 then (
some (0, r1))
else
cag (G_isAny l1 r1) fun v6 r5 =>
if v6 = 0 then (
some (0, r5))
else
cag (G_plays l1 l2 r5) fun v10 r9 =>
if v10 = (-1) then (
some ((-2000), r9))
else
some (r9 41 0, r9)
def G_registerAnew_32 (l1 l2 s0 : Int) (r : Rst) : Option G2 :=
if s0 = 0 then (
G_registerAnew_43 l1 l2 1 r)
else
G_registerAnew_43 l1 l2 0 r
def G_registerAnew_0 (l1 l2 : Int) (r : Rst) : Option G2 :=
cag (G_isFlow l1 r) fun v2 r1 =>
if v2 = 0 then (
G_registerAnew_32 l1 l2 0 r1)
else
chk9 (0 ≤ l1 ∧ l1 < 10) <|
chk9 (0 ≤ r1 7 l1 ∧ r1 7 l1 < 3) <|
cag (G_isIn l2 1 (r1 6 (r1 7 l1)) r1) fun v10 r9 =>
if v10 = 0 then (
G_registerAnew_32 l1 l2 0 r9)
else
G_registerAnew_32 l1 l2 1 r9
def G_registerAnew (a1 a2 : Int) (r : Rst) : Option G2 := G_registerAnew_0 a1 a2 r
end
