/-! the methods as functions of the store, printed by a program of mine out of their bytecode -/
noncomputable section
def f_X0_setLaw (b : Nat) (v1 : Int32) (v2 : Int32) (M0 : Mem) : Option Mem := some (wI (wI M0 b 6 v1) b 7 v2)
def f_X0_become (b : Nat) (b2 : Nat) (M0 : Mem) : Option Mem := (cpI M0 (b2 + 1) 8 (b + 1) 8 (0 : Int32) (0 : Int32) (8 : Int32)).bind fun M1 => (cpI M1 (b2 + 2) 8 (b + 2) 8 (0 : Int32) (0 : Int32) (8 : Int32)).bind fun M2 => (cpI M2 (b2 + 3) 8 (b + 3) 8 (0 : Int32) (0 : Int32) (8 : Int32)).bind fun M3 => (cpI M3 (b2 + 4) 12 (b + 4) 12 (0 : Int32) (0 : Int32) (12 : Int32)).bind fun M4 => (f_X0_setLaw b ((wI (wI M4 b 4 (M4.1 b2 4)) b 5 ((wI M4 b 4 (M4.1 b2 4)).1 b2 5)).1 b2 6) ((wI (wI M4 b 4 (M4.1 b2 4)) b 5 ((wI M4 b 4 (M4.1 b2 4)).1 b2 5)).1 b2 7) (wI (wI M4 b 4 (M4.1 b2 4)) b 5 ((wI M4 b 4 (M4.1 b2 4)).1 b2 5))).bind fun M5 => some M5
def f_X0_hasDoing (b : Nat) (v1 : Int32) (M0 : Mem) : Int32 := (if v1 < 0 then (0 : Int32) else (if (M0.1 b 4) ≤ v1 then (0 : Int32) else (1 : Int32)))
def f_X0_hasPlace (b : Nat) (v1 : Int32) (M0 : Mem) : Int32 := (if v1 < 0 then (0 : Int32) else (if (M0.1 b 5) ≤ v1 then (0 : Int32) else (1 : Int32)))
def f_X0_hasRoomForDoing (b : Nat) (M0 : Mem) : Int32 := (if (8 : Int32) ≤ (M0.1 b 4) then (0 : Int32) else (1 : Int32))
def f_X0_hasRoomForPlace (b : Nat) (M0 : Mem) : Int32 := (if (12 : Int32) ≤ (M0.1 b 5) then (0 : Int32) else (1 : Int32))
def f_X0_setKind (b : Nat) (v1 : Int32) (v2 : Int32) (v3 : Int32) (M0 : Mem) : Option Mem := (stI M0 (b + 1) 8 v1 v2).bind fun M1 => (stI M1 (b + 2) 8 v1 v3).bind fun M2 => some M2
def f_X0_addDoing (b : Nat) (v1 : Int32) (v2 : Int32) (v3 : Int32) (M0 : Mem) : Option (Int32 × Mem) := (if (f_X0_hasRoomForDoing b M0) = 0 then some ((-6 : Int32), M0) else (f_X0_setKind b (M0.1 b 4) v1 v2 (wI M0 b 4 ((M0.1 b 4) + (1 : Int32)))).bind fun M2 => (stI M2 (b + 3) 8 (M0.1 b 4) v3).bind fun M3 => some ((M0.1 b 4), M3))
def f_X0_addPlace (b : Nat) (v1 : Int32) (M0 : Mem) : Option Mem := (if (f_X0_hasRoomForPlace b M0) = 0 then some M0 else (stI (wI M0 b 5 ((M0.1 b 5) + (1 : Int32))) (b + 4) 12 (M0.1 b 5) v1).bind fun M2 => some M2)
def f_X0_flipMark (b : Nat) (v1 : Int32) (v2 : Int32) (M0 : Mem) : Option Mem := (ldI M0 (b + 3) 8 v1).bind fun t1 => (stI M0 (b + 3) 8 v1 (t1 ^^^ (jshl (1 : Int32) v2))).bind fun M2 => some M2
def f_J6_bitCount_0f7a4 (v0 : Int32) : Int32 := ((((((((v0 - ((jushr v0 (1 : Int32)) &&& (1431655765 : Int32))) &&& (858993459 : Int32)) + ((jushr (v0 - ((jushr v0 (1 : Int32)) &&& (1431655765 : Int32))) (2 : Int32)) &&& (858993459 : Int32))) + (jushr (((v0 - ((jushr v0 (1 : Int32)) &&& (1431655765 : Int32))) &&& (858993459 : Int32)) + ((jushr (v0 - ((jushr v0 (1 : Int32)) &&& (1431655765 : Int32))) (2 : Int32)) &&& (858993459 : Int32))) (4 : Int32))) &&& (252645135 : Int32)) + (jushr (((((v0 - ((jushr v0 (1 : Int32)) &&& (1431655765 : Int32))) &&& (858993459 : Int32)) + ((jushr (v0 - ((jushr v0 (1 : Int32)) &&& (1431655765 : Int32))) (2 : Int32)) &&& (858993459 : Int32))) + (jushr (((v0 - ((jushr v0 (1 : Int32)) &&& (1431655765 : Int32))) &&& (858993459 : Int32)) + ((jushr (v0 - ((jushr v0 (1 : Int32)) &&& (1431655765 : Int32))) (2 : Int32)) &&& (858993459 : Int32))) (4 : Int32))) &&& (252645135 : Int32)) (8 : Int32))) + (jushr ((((((v0 - ((jushr v0 (1 : Int32)) &&& (1431655765 : Int32))) &&& (858993459 : Int32)) + ((jushr (v0 - ((jushr v0 (1 : Int32)) &&& (1431655765 : Int32))) (2 : Int32)) &&& (858993459 : Int32))) + (jushr (((v0 - ((jushr v0 (1 : Int32)) &&& (1431655765 : Int32))) &&& (858993459 : Int32)) + ((jushr (v0 - ((jushr v0 (1 : Int32)) &&& (1431655765 : Int32))) (2 : Int32)) &&& (858993459 : Int32))) (4 : Int32))) &&& (252645135 : Int32)) + (jushr (((((v0 - ((jushr v0 (1 : Int32)) &&& (1431655765 : Int32))) &&& (858993459 : Int32)) + ((jushr (v0 - ((jushr v0 (1 : Int32)) &&& (1431655765 : Int32))) (2 : Int32)) &&& (858993459 : Int32))) + (jushr (((v0 - ((jushr v0 (1 : Int32)) &&& (1431655765 : Int32))) &&& (858993459 : Int32)) + ((jushr (v0 - ((jushr v0 (1 : Int32)) &&& (1431655765 : Int32))) (2 : Int32)) &&& (858993459 : Int32))) (4 : Int32))) &&& (252645135 : Int32)) (8 : Int32))) (16 : Int32))) &&& (63 : Int32))
def f_X0_areAlike (b : Nat) (v1 : Int32) (v2 : Int32) (v3 : Int32) (v4 : Int32) (M0 : Mem) : Option Int32 := (if v1 = v2 then some (1 : Int32) else (if v3 = (0 : Int32) then (ldI M0 (b + 3) 8 v1).bind fun t3 => (ldI M0 (b + 3) 8 v2).bind fun t4 => (if t3 = t4 then some (1 : Int32) else some (0 : Int32)) else (if v3 = (1 : Int32) then (ldI M0 (b + 1) 8 v1).bind fun t7 => (ldI M0 (b + 1) 8 v2).bind fun t8 => (if t7 = t8 then some (1 : Int32) else some (0 : Int32)) else (if v3 = (2 : Int32) then (ldI M0 (b + 3) 8 v1).bind fun t11 => (ldI M0 (b + 3) 8 v2).bind fun t12 => (if (f_J6_bitCount_0f7a4 (t11 &&& t12)) < v4 then some (0 : Int32) else some (1 : Int32)) else (ldI M0 (b + 3) 8 v1).bind fun t14 => (ldI M0 (b + 3) 8 v2).bind fun t15 => (if v4 < (f_J6_bitCount_0f7a4 (t14 ^^^ t15)) then some (0 : Int32) else some (1 : Int32))))))
def f_X0_dueFor (b : Nat) (v1 : Int32) (v2 : Int32) (M0 : Mem) : Option Int32 := (ldI M0 (b + 2) 8 v1).bind fun t1 => (ldI M0 (b + 1) 8 v1).bind fun t2 => (if t2 = (1 : Int32) then some (((t1 + (1 : Int32)) * v2) / (2 : Int32)) else (if t2 = (2 : Int32) then some ((2 : Int32) * ((t1 + (1 : Int32)) * v2)) else (if t2 = (3 : Int32) then some (0 : Int32) else (if t2 = (4 : Int32) then (if v2 ≤ 0 then some (0 : Int32) else (ldI M0 (b + 2) 8 v1).bind fun t8 => some (((2 : Int32) * (t8 + (1 : Int32))) * (v2 - (1 : Int32)))) else (if t2 = (5 : Int32) then (if v2 ≤ 0 then some (0 : Int32) else some ((((t1 + (1 : Int32)) * v2) / (2 : Int32)) + (3 : Int32))) else some ((t1 + (1 : Int32)) * v2))))))
def f_X1_add (v1 : Int32) (M0 : Mem) : Option (Int32 × Mem) := (if (96 : Int32) ≤ (M0.1 16 2) then some ((M0.1 16 2), M0) else (stI (wI M0 16 2 ((M0.1 16 2) + (1 : Int32))) 17 96 (M0.1 16 2) v1).bind fun M2 => some ((M2.1 16 2), M2))
def f_X1_letterAt (v1 : Int32) (M0 : Mem) : Option Int32 := (if v1 < 0 then some (-1 : Int32) else (if (M0.1 16 2) ≤ v1 then some (-1 : Int32) else (ldI M0 17 96 v1).bind fun t3 => some t3))
def f_X1_digitsBehind (v0 : Int32) : Int32 := (if v0 = (100 : Int32) then (5 : Int32) else (if v0 = (108 : Int32) then (2 : Int32) else (if v0 = (109 : Int32) then (2 : Int32) else (if v0 = (111 : Int32) then (1 : Int32) else (if v0 = (120 : Int32) then (0 : Int32) else (-1 : Int32))))))
def f_X1_isDigit (v0 : Int32) : Int32 := (if v0 < (48 : Int32) then (0 : Int32) else (if (57 : Int32) < v0 then (0 : Int32) else (1 : Int32)))
def f_X1_firstWithoutForm_b26 (M0 : Mem) (k2 : Int32 → Option Int32) : Nat → Int32 → Int32 → Option Int32
  | 0, _, _ => none
  | n26 + 1, v1, v3 => (if v3 ≤ v1 then (f_X1_letterAt v1 M0).bind fun t4 => (if t4 = (59 : Int32) then (if (v1 + (1 : Int32)) < (M0.1 16 2) then k2 (v1 + (1 : Int32)) else some (-1 : Int32)) else some v1) else (f_X1_letterAt v1 M0).bind fun t7 => (if (f_X1_isDigit t7) = 0 then some v1 else (f_X1_firstWithoutForm_b26 M0 k2 n26) (v1 + (1 : Int32)) v3))
def f_X1_firstWithoutForm_b2 (M0 : Mem) : Nat → Int32 → Option Int32
  | 0, _ => none
  | n2 + 1, v1 => (f_X1_letterAt v1 M0).bind fun t1 => (if 0 ≤ (f_X1_digitsBehind t1) then f_X1_firstWithoutForm_b26 M0 (f_X1_firstWithoutForm_b2 M0 n2) FU (v1 + (1 : Int32)) ((v1 + (1 : Int32)) + (f_X1_digitsBehind t1)) else some v1)
def f_X1_firstWithoutForm (M0 : Mem) : Option Int32 := f_X1_firstWithoutForm_b2 M0 FU (0 : Int32)
def f_X1_beginsStatement (v1 : Int32) (M0 : Mem) : Option Int32 := (if v1 = 0 then some (1 : Int32) else (f_X1_letterAt (v1 - (1 : Int32)) M0).bind fun t2 => (if t2 = (59 : Int32) then some (1 : Int32) else some (0 : Int32)))
def f_X1_digitAt (v1 : Int32) (M0 : Mem) : Option Int32 := (f_X1_letterAt v1 M0).bind fun t1 => (if (f_X1_isDigit t1) = 0 then some (0 : Int32) else some (t1 - (48 : Int32)))
def f_X11_isKind (v0 : Int32) : Int32 := (if v0 < 0 then (0 : Int32) else (if (6 : Int32) ≤ v0 then (0 : Int32) else (1 : Int32)))
def f_X1_comesDoing (v1 : Int32) (v2 : Int32) (v3 : Int32) (M0 : Mem) : Option (Int32 × Mem) := (if (f_X11_isKind v1) = 0 then some ((0 : Int32), M0) else (if (255 : Int32) < v3 then some ((0 : Int32), M0) else (if (f_X0_hasRoomForDoing 18 M0) = 0 then some ((0 : Int32), M0) else (f_X0_addDoing 18 v1 v2 v3 M0).bind fun pt4 => bp pt4 fun t4 M4 => some ((1 : Int32), M4))))
def f_X1_comesDone (v1 : Int32) (M0 : Mem) : Option (Int32 × Mem) := (if (f_X0_hasDoing 18 v1 M0) = 0 then some ((0 : Int32), M0) else (if (f_X0_hasRoomForPlace 18 M0) = 0 then some ((0 : Int32), M0) else (f_X0_addPlace 18 v1 M0).bind fun M3 => some ((1 : Int32), M3)))
def f_X11_isType (v0 : Int32) : Int32 := (if v0 < 0 then (0 : Int32) else (if (4 : Int32) ≤ v0 then (0 : Int32) else (1 : Int32)))
def f_X1_comesLaw (v1 : Int32) (v2 : Int32) (M0 : Mem) : Option (Int32 × Mem) := (if (f_X11_isType v1) = 0 then some ((0 : Int32), M0) else (if v2 ≤ (8 : Int32) then (f_X0_setLaw 18 v1 v2 M0).bind fun M3 => some ((1 : Int32), M3) else some ((0 : Int32), M0)))
def f_X11_isMark (v0 : Int32) : Int32 := (if v0 < 0 then (0 : Int32) else (if (8 : Int32) ≤ v0 then (0 : Int32) else (1 : Int32)))
def f_X1_comesMark (v1 : Int32) (v2 : Int32) (M0 : Mem) : Option (Int32 × Mem) := (if (f_X0_hasDoing 18 v1 M0) = 0 then some ((0 : Int32), M0) else (if (f_X11_isMark v2) = 0 then some ((0 : Int32), M0) else (f_X0_flipMark 18 v1 v2 M0).bind fun M3 => some ((1 : Int32), M3)))
def f_X1_comes (v1 : Int32) (M0 : Mem) : Option (Int32 × Mem) := (f_X1_digitAt (v1 + (1 : Int32)) M0).bind fun t1 => (f_X1_digitAt (v1 + (2 : Int32)) M0).bind fun t2 => (f_X1_letterAt v1 M0).bind fun t3 => (if t3 = (100 : Int32) then (f_X1_digitAt (v1 + (3 : Int32)) M0).bind fun t5 => (f_X1_digitAt (v1 + (4 : Int32)) M0).bind fun t6 => (f_X1_digitAt (v1 + (5 : Int32)) M0).bind fun t7 => (f_X1_comesDoing t1 t2 ((((100 : Int32) * t5) + ((10 : Int32) * t6)) + t7) M0).bind fun pt8 => bp pt8 fun t8 M8 => (gZ t8).bind fun t9 => some (t9, M8) else (if t3 = (108 : Int32) then (f_X1_comesLaw t1 t2 M0).bind fun pt11 => bp pt11 fun t11 M11 => (gZ t11).bind fun t12 => some (t12, M11) else (if t3 = (109 : Int32) then (f_X1_comesMark t1 t2 M0).bind fun pt14 => bp pt14 fun t14 M14 => (gZ t14).bind fun t15 => some (t15, M14) else (if t3 = (111 : Int32) then (f_X1_comesDone t1 M0).bind fun pt17 => bp pt17 fun t17 M17 => (gZ t17).bind fun t18 => some (t18, M17) else some ((1 : Int32), (wI M0 18 5 (0 : Int32)))))))
def f_X1_hear_b28 : Nat → Int32 → Int32 → Mem → Option (Int32 × Mem)
  | 0, _, _, _ => none
  | n28 + 1, v3, v4, M => (if (M.1 16 2) ≤ v4 then (f_X0_become 1 18 M).bind fun M5 => some (v3, M5) else (f_X1_beginsStatement v4 M).bind fun t6 => (if t6 = 0 then (f_X1_hear_b28 n28) v3 (v4 + (1 : Int32)) M else (f_X1_comes v4 M).bind fun pt8 => bp pt8 fun t8 M8 => (if t8 = 0 then some (((-2000 : Int32) - v4), M8) else (f_X1_hear_b28 n28) (v3 + (1 : Int32)) (v4 + (1 : Int32)) M8)))
def f_X1_hear (M0 : Mem) : Option (Int32 × Mem) := (f_X1_firstWithoutForm M0).bind fun t1 => (if t1 < 0 then (f_X0_become 18 1 M0).bind fun M3 => f_X1_hear_b28 FU (0 : Int32) (0 : Int32) M3 else some (((-1000 : Int32) - t1), M0))
def f_X1_tell (M0 : Mem) : Option (Int32 × Mem) := (f_X1_hear M0).bind fun pt1 => bp pt1 fun t1 M1 => some (t1, (wI M1 16 2 (0 : Int32)))
def f_X2_sets (M0 : Mem) : Int32 := (jshl (1 : Int32) (M0.1 1 4))
def f_X2_areApart_b2 (M0 : Mem) : Nat → Int32 → Int32 → Option Int32
  | 0, _, _ => none
  | n2 + 1, v1, v2 => (if (M0.1 1 4) ≤ v2 then some (1 : Int32) else (if ((jshr v1 v2) &&& (1 : Int32)) = 0 then (f_X2_areApart_b2 M0 n2) v1 (v2 + (1 : Int32)) else (ldI M0 26 8 v2).bind fun t3 => (if (t3 &&& v1) = (jshl (1 : Int32) v2) then (f_X2_areApart_b2 M0 n2) v1 (v2 + (1 : Int32)) else some (0 : Int32))))
def f_X2_areApart (v1 : Int32) (M0 : Mem) : Option Int32 := f_X2_areApart_b2 M0 FU v1 (0 : Int32)
def f_J7_fill_53178_b5 (q : Nat) (n : Nat) : Nat → Int32 → Int32 → Int32 → Mem → Option Mem
  | 0, _, _, _, _ => none
  | n5 + 1, v1, v2, v3, M => (if v3 ≤ v2 then some M else (stI M q n v2 v1).bind fun M2 => (f_J7_fill_53178_b5 q n n5) v1 (v2 + (1 : Int32)) v3 M2)
def f_J7_fill_53178 (q : Nat) (n : Nat) (v1 : Int32) (M0 : Mem) : Option Mem := f_J7_fill_53178_b5 q n FU v1 (0 : Int32) (nI n) M0
def f_X8_forgetSteps (M0 : Mem) : Option Mem := (f_J7_fill_53178 27 8 (0 : Int32) M0).bind fun M1 => some M1
def f_X8_openBy_b25 (k2 : Int32 → Int32 → Int32 → Mem → Option Mem) : Nat → Int32 → Int32 → Int32 → Int32 → Mem → Option Mem
  | 0, _, _, _, _, _ => none
  | n25 + 1, v1, v2, v3, v4, M => (if v3 ≤ v4 then k2 v1 v2 (v3 + (1 : Int32)) M else (f_X0_areAlike 1 v3 v4 v1 v2 M).bind fun t6 => (if t6 = 0 then (f_X8_openBy_b25 k2 n25) v1 v2 v3 (v4 + (1 : Int32)) M else (ldI M 26 8 v3).bind fun t8 => (stI M 26 8 v3 (t8 ||| (jshl (1 : Int32) v4))).bind fun M9 => (ldI M9 26 8 v4).bind fun t10 => (stI M9 26 8 v4 (t10 ||| (jshl (1 : Int32) v3))).bind fun M11 => (f_X8_openBy_b25 k2 n25) v1 v2 v3 (v4 + (1 : Int32)) M11))
def f_X8_openBy_b2 : Nat → Int32 → Int32 → Int32 → Mem → Option Mem
  | 0, _, _, _, _ => none
  | n2 + 1, v1, v2, v3, M => (if (M.1 1 4) ≤ v3 then (f_X8_forgetSteps M).bind fun M2 => some M2 else (stI M 26 8 v3 (jshl (1 : Int32) v3)).bind fun M3 => f_X8_openBy_b25 (f_X8_openBy_b2 n2) FU v1 v2 v3 (0 : Int32) M3)
def f_X8_openBy (v1 : Int32) (v2 : Int32) (M0 : Mem) : Option Mem := f_X8_openBy_b2 FU v1 v2 (0 : Int32) M0
def f_X8_open (M0 : Mem) : Option Mem := (f_X8_openBy (M0.1 1 6) (M0.1 1 7) M0).bind fun M1 => some M1
def f_X2_mostApart_b11 : Nat → Int32 → Int32 → Mem → Option (Int32 × Mem)
  | 0, _, _, _ => none
  | n11 + 1, v1, v2, M => (if (f_X2_sets M) ≤ v2 then some (v1, M) else (if (f_J6_bitCount_0f7a4 v2) ≤ (f_J6_bitCount_0f7a4 v1) then (f_X2_mostApart_b11 n11) v1 (v2 + (1 : Int32)) M else (f_X2_areApart v2 M).bind fun t5 => (if t5 = 0 then (f_X2_mostApart_b11 n11) v1 (v2 + (1 : Int32)) M else (f_X2_mostApart_b11 n11) v2 (v2 + (1 : Int32)) M)))
def f_X2_mostApart (M0 : Mem) : Option (Int32 × Mem) := (f_X8_open M0).bind fun M1 => f_X2_mostApart_b11 FU (0 : Int32) (1 : Int32) M1
def f_X2_fewestFor_b5 (M0 : Mem) : Nat → Int32 → Int32 → Int32 → Option Int32
  | 0, _, _, _ => none
  | n5 + 1, v1, v2, v3 => (if v3 ≤ 0 then some v2 else (ldI M0 38 256 v3).bind fun t2 => (if t2 = 0 then (f_X2_fewestFor_b5 M0 n5) v1 v2 ((v3 - (1 : Int32)) &&& v1) else (ldI M0 37 256 (v1 &&& (v3 ^^^ (-1 : Int32)))).bind fun t4 => (f_X2_fewestFor_b5 M0 n5) v1 (mnI v2 (t4 + (1 : Int32))) ((v3 - (1 : Int32)) &&& v1)))
def f_X2_fewestFor (v1 : Int32) (M0 : Mem) : Option Int32 := f_X2_fewestFor_b5 M0 FU v1 (8 : Int32) v1
def f_X2_fewestPeople_b16 : Nat → Int32 → Mem → Option (Int32 × Mem)
  | 0, _, _ => none
  | n16 + 1, v1, M => (if (f_X2_sets M) ≤ v1 then (ldI M 37 256 ((f_X2_sets M) - (1 : Int32))).bind fun t5 => some (t5, M) else (f_X2_areApart v1 M).bind fun t6 => (stZ M 38 256 v1 t6).bind fun M7 => (f_X2_fewestFor v1 M7).bind fun t8 => (stI M7 37 256 v1 t8).bind fun M9 => (f_X2_fewestPeople_b16 n16) (v1 + (1 : Int32)) M9)
def f_X2_fewestPeople (M0 : Mem) : Option (Int32 × Mem) := (f_X8_open M0).bind fun M1 => (stI M1 37 256 (0 : Int32) (0 : Int32)).bind fun M2 => f_X2_fewestPeople_b16 FU (1 : Int32) M2
def f_X2_tiesOf (v1 : Int32) (M0 : Mem) : Option Int32 := (ldI M0 26 8 v1).bind fun t1 => some ((f_J6_bitCount_0f7a4 t1) - (1 : Int32))
def f_X2_likesOf (v1 : Int32) (M0 : Mem) : Option (Int32 × Mem) := (f_X8_open M0).bind fun M1 => (f_X2_tiesOf v1 M1).bind fun t2 => some (t2, M1)
def f_X2_withMostLikes_b14 : Nat → Int32 → Int32 → Int32 → Mem → Option (Int32 × Mem)
  | 0, _, _, _, _ => none
  | n14 + 1, v1, v2, v3, M => (if (M.1 1 4) ≤ v3 then some (v1, M) else (f_X2_tiesOf v3 M).bind fun t4 => (if t4 ≤ v2 then (f_X2_withMostLikes_b14 n14) v1 v2 (v3 + (1 : Int32)) M else (f_X2_withMostLikes_b14 n14) v3 t4 (v3 + (1 : Int32)) M))
def f_X2_withMostLikes (M0 : Mem) : Option (Int32 × Mem) := (f_X8_open M0).bind fun M1 => f_X2_withMostLikes_b14 FU (-9 : Int32) (-1 : Int32) (0 : Int32) M1
def f_X2_spread_b4 (M0 : Mem) : Nat → Int32 → Int32 → Int32 → Option Int32
  | 0, _, _, _ => none
  | n4 + 1, v1, v2, v3 => (if (M0.1 1 4) ≤ v3 then some v2 else (if ((jshr v1 v3) &&& (1 : Int32)) = 0 then (f_X2_spread_b4 M0 n4) v1 v2 (v3 + (1 : Int32)) else (ldI M0 26 8 v3).bind fun t3 => (f_X2_spread_b4 M0 n4) v1 (v2 ||| t3) (v3 + (1 : Int32))))
def f_X2_spread (v1 : Int32) (M0 : Mem) : Option Int32 := f_X2_spread_b4 M0 FU v1 v1 (0 : Int32)
def f_X2_shortestChain_b14 : Nat → Int32 → Int32 → Int32 → Mem → Option (Int32 × Mem)
  | 0, _, _, _, _ => none
  | n14 + 1, v2, v3, v4, M => (if (M.1 1 4) < v4 then some ((-9 : Int32), M) else (if ((jshr v3 v2) &&& (1 : Int32)) = 0 then (f_X2_spread v3 M).bind fun t4 => (f_X2_shortestChain_b14 n14) v2 t4 (v4 + (1 : Int32)) M else some (v4, M)))
def f_X2_shortestChain (v1 : Int32) (v2 : Int32) (M0 : Mem) : Option (Int32 × Mem) := (f_X8_open M0).bind fun M1 => f_X2_shortestChain_b14 FU v2 (jshl (1 : Int32) v1) (1 : Int32) M1
def f_X2_heapOf_b6 (M0 : Mem) : Nat → Int32 → Int32 → Option Int32
  | 0, _, _ => none
  | n6 + 1, v2, v3 => (if (M0.1 1 4) ≤ v3 then some v2 else (f_X2_spread v2 M0).bind fun t3 => (f_X2_heapOf_b6 M0 n6) t3 (v3 + (1 : Int32)))
def f_X2_heapOf (v1 : Int32) (M0 : Mem) : Option Int32 := f_X2_heapOf_b6 M0 FU (jshl (1 : Int32) v1) (0 : Int32)
def f_X2_allHeaps_b17 : Nat → Int32 → Int32 → Int32 → Int32 → Int32 → Mem → Option (Int32 × Mem)
  | 0, _, _, _, _, _, _ => none
  | n17 + 1, v1, v2, v3, v4, v5, M => (if (M.1 1 4) ≤ v5 then (if v1 = 0 then some (v2, M) else some (v3, M)) else (if ((jshr v4 v5) &&& (1 : Int32)) = 0 then (f_X2_heapOf v5 M).bind fun t6 => (f_X2_allHeaps_b17 n17) v1 (v2 + (1 : Int32)) (mxI v3 (f_J6_bitCount_0f7a4 t6)) (v4 ||| t6) (v5 + (1 : Int32)) M else (f_X2_allHeaps_b17 n17) v1 v2 v3 v4 (v5 + (1 : Int32)) M))
def f_X2_allHeaps (v1 : Int32) (M0 : Mem) : Option (Int32 × Mem) := (f_X8_open M0).bind fun M1 => f_X2_allHeaps_b17 FU v1 (0 : Int32) (0 : Int32) (0 : Int32) (0 : Int32) M1
def f_J7_fill_d0a16_b6 (q : Nat) (n : Nat) : Nat → Int64 → Int32 → Int32 → Mem → Option Mem
  | 0, _, _, _, _ => none
  | n6 + 1, v1, v3, v4, M => (if v4 ≤ v3 then some M else (stL M q n v3 v1).bind fun M2 => (f_J7_fill_d0a16_b6 q n n6) v1 (v3 + (1 : Int32)) v4 M2)
def f_J7_fill_d0a16 (q : Nat) (n : Nat) (v1 : Int64) (M0 : Mem) : Option Mem := f_J7_fill_d0a16_b6 q n FU v1 (0 : Int32) (nI n) M0
def f_X2_mayFollow (v1 : Int32) (v2 : Int32) (M0 : Mem) : Option Int32 := (if v2 = (8 : Int32) then some (1 : Int32) else (ldI M0 26 8 v1).bind fun t2 => (if ((jshr t2 v2) &&& (1 : Int32)) = 0 then some (1 : Int32) else some (0 : Int32)))
def f_X2_lengthen_b89 (k10 : Int32 → Int32 → Mem → Option Mem) (k18 : Int32 → Int32 → Int32 → Mem → Option Mem) (k40 : Int32 → Int32 → Int32 → Int64 → Int32 → Mem → Option Mem) (v1 : Int32) (v2 : Int32) (v3 : Int32) (v4 : Int64) (v6 : Int32) (M : Mem) : Option Mem := (ldL M 40 81 ((v3 * (9 : Int32)) + v6)).bind fun t10 => (stL M 40 81 ((v3 * (9 : Int32)) + v6) (t10 + v4)).bind fun M11 => k40 v1 v2 v3 v4 (v6 + (1 : Int32)) M11
def f_X2_lengthen_b74 (k10 : Int32 → Int32 → Mem → Option Mem) (k18 : Int32 → Int32 → Int32 → Mem → Option Mem) (k40 : Int32 → Int32 → Int32 → Int64 → Int32 → Mem → Option Mem) (v1 : Int32) (v2 : Int32) (v3 : Int32) (v4 : Int64) (v6 : Int32) (M : Mem) : Option Mem := (if v1 < (2 : Int32) then f_X2_lengthen_b89 k10 k18 k40 v1 v2 v3 v4 v6 M else (f_X2_mayFollow v6 v2 M).bind fun t12 => (if t12 = 0 then k40 v1 v2 v3 v4 (v6 + (1 : Int32)) M else f_X2_lengthen_b89 k10 k18 k40 v1 v2 v3 v4 v6 M))
def f_X2_lengthen_b40 (k10 : Int32 → Int32 → Mem → Option Mem) (k18 : Int32 → Int32 → Int32 → Mem → Option Mem) : Nat → Int32 → Int32 → Int32 → Int64 → Int32 → Mem → Option Mem
  | 0, _, _, _, _, _, _ => none
  | n40 + 1, v1, v2, v3, v4, v6, M => (if (M.1 1 4) ≤ v6 then k18 v1 v2 (v3 + (1 : Int32)) M else (if (lg_cmp v4 (0 : Int64)) ≤ 0 then k18 v1 v2 (v3 + (1 : Int32)) M else (if v1 < (1 : Int32) then f_X2_lengthen_b74 k10 k18 (f_X2_lengthen_b40 k10 k18 n40) v1 v2 v3 v4 v6 M else (f_X2_mayFollow v6 v3 M).bind fun t14 => (if t14 = 0 then (f_X2_lengthen_b40 k10 k18 n40) v1 v2 v3 v4 (v6 + (1 : Int32)) M else f_X2_lengthen_b74 k10 k18 (f_X2_lengthen_b40 k10 k18 n40) v1 v2 v3 v4 v6 M))))
def f_X2_lengthen_b18 (k10 : Int32 → Int32 → Mem → Option Mem) : Nat → Int32 → Int32 → Int32 → Mem → Option Mem
  | 0, _, _, _, _ => none
  | n18 + 1, v1, v2, v3, M => (if (9 : Int32) ≤ v3 then k10 v1 (v2 + (1 : Int32)) M else (ldL M 39 81 ((v2 * (9 : Int32)) + v3)).bind fun t5 => f_X2_lengthen_b40 k10 (f_X2_lengthen_b18 k10 n18) FU v1 v2 v3 t5 (0 : Int32) M)
def f_X2_lengthen_b10 : Nat → Int32 → Int32 → Mem → Option Mem
  | 0, _, _, _ => none
  | n10 + 1, v1, v2, M => (if (9 : Int32) ≤ v2 then (cpL M 40 81 39 81 (0 : Int32) (0 : Int32) (81 : Int32)).bind fun M3 => some M3 else f_X2_lengthen_b18 (f_X2_lengthen_b10 n10) FU v1 v2 (0 : Int32) M)
def f_X2_lengthen (v1 : Int32) (M0 : Mem) : Option Mem := (f_J7_fill_d0a16 40 81 (0 : Int64) M0).bind fun M1 => f_X2_lengthen_b10 FU v1 (0 : Int32) M1
def f_X2_songRows_b46 : Nat → Int64 → Int32 → Mem → Option (Int64 × Mem)
  | 0, _, _, _ => none
  | n46 + 1, v3, v5, M => (if (nI 81) ≤ v5 then some (v3, M) else (ldL M 39 81 v5).bind fun t7 => (f_X2_songRows_b46 n46) (v3 + t7) (v5 + (1 : Int32)) M)
def f_X2_songRows_b25 : Nat → Int32 → Int32 → Int32 → Mem → Option (Int64 × Mem)
  | 0, _, _, _, _ => none
  | n25 + 1, v1, v2, v3, M => (if v1 ≤ v3 then f_X2_songRows_b46 FU (0 : Int64) (0 : Int32) M else (f_X2_lengthen v2 M).bind fun M8 => (f_X2_songRows_b25 n25) v1 v2 (v3 + (1 : Int32)) M8)
def f_X2_songRows (v1 : Int32) (v2 : Int32) (M0 : Mem) : Option (Int64 × Mem) := (f_X8_open M0).bind fun M1 => (f_J7_fill_d0a16 39 81 (0 : Int64) M1).bind fun M2 => (stL M2 39 81 (80 : Int32) (1 : Int64)).bind fun M3 => f_X2_songRows_b25 FU v1 v2 (0 : Int32) M3
def f_X2_firstCaught_b14 : Nat → Int32 → Int32 → Int32 → Int32 → Mem → Option (Int32 × Mem)
  | 0, _, _, _, _, _ => none
  | n14 + 1, v1, v2, v3, v4, M => (if ((M.1 1 4) + (1 : Int32)) < v4 then some ((-9 : Int32), M) else (if (M.1 1 4) ≤ 0 then some ((-9 : Int32), M) else (ldI M 26 8 v3).bind fun t4 => (if (t4 &&& v2) = 0 then (rmI (v3 + v1) (M.1 1 4)).bind fun t6 => (f_X2_firstCaught_b14 n14) v1 (v2 ||| (jshl (1 : Int32) v3)) t6 (v4 + (1 : Int32)) M else some (v4, M))))
def f_X2_firstCaught (v1 : Int32) (M0 : Mem) : Option (Int32 × Mem) := (f_X8_open M0).bind fun M1 => f_X2_firstCaught_b14 FU v1 (0 : Int32) (0 : Int32) (1 : Int32) M1
def f_X8_shift_b10 : Nat → Int32 → Int32 → Int32 → Mem → Option Mem
  | 0, _, _, _, _ => none
  | n10 + 1, v2, v3, v4, M => (if (M.1 1 4) ≤ v4 then some M else (if ((jshr v3 v4) &&& (1 : Int32)) = 0 then (f_X8_shift_b10 n10) v2 v3 (v4 + (1 : Int32)) M else (ldI M 27 8 v4).bind fun t4 => (stI M 27 8 v4 (t4 + v2)).bind fun M5 => (f_X8_shift_b10 n10) v2 v3 (v4 + (1 : Int32)) M5))
def f_X8_shift (v1 : Int32) (v2 : Int32) (M0 : Mem) : Option Mem := (ldI M0 26 8 v1).bind fun t1 => f_X8_shift_b10 FU v2 t1 (0 : Int32) M0
def f_X8_step (v1 : Int32) (M0 : Mem) : Option (Int32 × Mem) := (ldI M0 27 8 v1).bind fun t1 => (f_X0_dueFor 1 v1 t1 M0).bind fun t2 => (f_X8_shift v1 (1 : Int32) M0).bind fun M3 => some (t2, M3)
def f_X3_reckonPlaces_b9 : Nat → Int32 → Mem → Option Mem
  | 0, _, _ => none
  | n9 + 1, v1, M => (if (M.1 1 5) ≤ v1 then some M else (ldI M 5 12 v1).bind fun t3 => (ldI M 27 8 t3).bind fun t4 => (stI M 29 12 v1 t4).bind fun M5 => (f_X8_step t3 M5).bind fun pt6 => bp pt6 fun t6 M6 => (stI M6 30 12 v1 t6).bind fun M7 => (f_X3_reckonPlaces_b9 n9) (v1 + (1 : Int32)) M7)
def f_X3_reckonPlaces (M0 : Mem) : Option Mem := (f_X8_open M0).bind fun M1 => f_X3_reckonPlaces_b9 FU (0 : Int32) M1
def f_X8_walkLog_b4 : Nat → Int32 → Int32 → Mem → Option (Int32 × Mem)
  | 0, _, _, _ => none
  | n4 + 1, v1, v2, M => (if (M.1 1 5) ≤ v2 then some (v1, M) else (ldI M 5 12 v2).bind fun t2 => (f_X8_step t2 M).bind fun pt3 => bp pt3 fun t3 M3 => (f_X8_walkLog_b4 n4) (v1 + t3) (v2 + (1 : Int32)) M3)
def f_X8_walkLog (M0 : Mem) : Option (Int32 × Mem) := f_X8_walkLog_b4 FU (0 : Int32) (0 : Int32) M0
def f_X8_total (M0 : Mem) : Option (Int32 × Mem) := (f_X8_openBy (M0.1 1 6) (M0.1 1 7) M0).bind fun M1 => (f_X8_walkLog M1).bind fun pt2 => bp pt2 fun t2 M2 => some (t2, M2)
def f_X3_total (M0 : Mem) : Option (Int32 × Mem) := (f_X8_total M0).bind fun pt1 => bp pt1 fun t1 M1 => some (t1, M1)
def f_X3_ofPlace (v1 : Int32) (v2 : Int32) (M0 : Mem) : Option (Int32 × Mem) := (f_X3_reckonPlaces M0).bind fun M1 => (if v2 = (1 : Int32) then (ldI M1 29 12 v1).bind fun t4 => some (t4, M1) else (ldI M1 30 12 v1).bind fun t3 => some (t3, M1))
def f_X3_firstAbove_b6 : Nat → Int32 → Int32 → Mem → Option (Int32 × Mem)
  | 0, _, _, _ => none
  | n6 + 1, v1, v2, M => (if (M.1 1 5) ≤ v2 then some ((-9 : Int32), M) else (ldI M 30 12 v2).bind fun t3 => (if t3 ≤ v1 then (f_X3_firstAbove_b6 n6) v1 (v2 + (1 : Int32)) M else some (v2, M)))
def f_X3_firstAbove (v1 : Int32) (M0 : Mem) : Option (Int32 × Mem) := (f_X3_reckonPlaces M0).bind fun M1 => f_X3_firstAbove_b6 FU v1 (0 : Int32) M1
def f_X3_withoutRepeats_b8 : Nat → Int32 → Int32 → Mem → Option (Int32 × Mem)
  | 0, _, _, _ => none
  | n8 + 1, v1, v2, M => (if (M.1 1 5) ≤ v2 then some (v1, M) else (ldI M 29 12 v2).bind fun t3 => (if t3 = 0 then (f_X3_withoutRepeats_b8 n8) (v1 ||| (jshl (1 : Int32) v2)) (v2 + (1 : Int32)) M else (f_X3_withoutRepeats_b8 n8) v1 (v2 + (1 : Int32)) M))
def f_X3_withoutRepeats (M0 : Mem) : Option (Int32 × Mem) := (f_X3_reckonPlaces M0).bind fun M1 => f_X3_withoutRepeats_b8 FU (0 : Int32) (0 : Int32) M1
def f_X3_sumOfKind_b4 (M0 : Mem) : Nat → Int32 → Int32 → Int32 → Option Int32
  | 0, _, _, _ => none
  | n4 + 1, v1, v2, v3 => (if (M0.1 1 5) ≤ v3 then some v2 else (ldI M0 5 12 v3).bind fun t2 => (ldI M0 2 8 t2).bind fun t3 => (if t3 = v1 then (ldI M0 30 12 v3).bind fun t5 => (f_X3_sumOfKind_b4 M0 n4) v1 (v2 + t5) (v3 + (1 : Int32)) else (f_X3_sumOfKind_b4 M0 n4) v1 v2 (v3 + (1 : Int32))))
def f_X3_sumOfKind (v1 : Int32) (M0 : Mem) : Option Int32 := f_X3_sumOfKind_b4 M0 FU v1 (0 : Int32) (0 : Int32)
def f_X3_totalOfKind (v1 : Int32) (M0 : Mem) : Option (Int32 × Mem) := (f_X3_reckonPlaces M0).bind fun M1 => (f_X3_sumOfKind v1 M1).bind fun t2 => some (t2, M1)
def f_X3_dearestKind_b23 : Nat → Int32 → Int32 → Int32 → Mem → Option (Int32 × Mem)
  | 0, _, _, _, _ => none
  | n23 + 1, v1, v2, v3, M => (if (6 : Int32) ≤ v3 then some (v1, M) else (f_X3_sumOfKind v3 M).bind fun t5 => (if t5 ≤ v2 then (f_X3_dearestKind_b23 n23) v1 v2 (v3 + (1 : Int32)) M else (f_X3_dearestKind_b23 n23) v3 t5 (v3 + (1 : Int32)) M))
def f_X3_dearestKind (M0 : Mem) : Option (Int32 × Mem) := (if (M0.1 1 5) = 0 then some ((-9 : Int32), M0) else (f_X3_reckonPlaces M0).bind fun M2 => f_X3_dearestKind_b23 FU (0 : Int32) (-1 : Int32) (0 : Int32) M2)
def f_X3_sumWithout_b11 : Nat → Int32 → Int32 → Int32 → Mem → Option (Int32 × Mem)
  | 0, _, _, _, _ => none
  | n11 + 1, v1, v2, v3, M => (if (M.1 1 5) ≤ v3 then some (v2, M) else (if v3 = v1 then (f_X3_sumWithout_b11 n11) v1 v2 (v3 + (1 : Int32)) M else (ldI M 5 12 v3).bind fun t4 => (f_X8_step t4 M).bind fun pt5 => bp pt5 fun t5 M5 => (f_X3_sumWithout_b11 n11) v1 (v2 + t5) (v3 + (1 : Int32)) M5))
def f_X3_sumWithout (v1 : Int32) (M0 : Mem) : Option (Int32 × Mem) := (f_X8_forgetSteps M0).bind fun M1 => f_X3_sumWithout_b11 FU v1 (0 : Int32) (0 : Int32) M1
def f_X3_savingOf (v1 : Int32) (M0 : Mem) : Option (Int32 × Mem) := (f_X8_total M0).bind fun pt1 => bp pt1 fun t1 M1 => (f_X3_sumWithout v1 M1).bind fun pt2 => bp pt2 fun t2 M2 => some ((t1 - t2), M2)
def f_X3_bestSaving_b15 : Nat → Int32 → Int32 → Int32 → Mem → Option (Int32 × Mem)
  | 0, _, _, _, _ => none
  | n15 + 1, v1, v2, v3, M => (if (M.1 1 5) ≤ v3 then some (v1, M) else (f_X3_sumWithout v3 M).bind fun pt4 => bp pt4 fun t4 M4 => (if v2 ≤ t4 then (f_X3_bestSaving_b15 n15) v1 v2 (v3 + (1 : Int32)) M4 else (f_X3_bestSaving_b15 n15) v3 t4 (v3 + (1 : Int32)) M4))
def f_X3_bestSaving (M0 : Mem) : Option (Int32 × Mem) := (f_X8_open M0).bind fun M1 => f_X3_bestSaving_b15 FU (-9 : Int32) (2147483647 : Int32) (0 : Int32) M1
def f_X3_sumMoved (v1 : Int32) (M0 : Mem) : Option (Int32 × Mem) := (f_X3_sumWithout v1 M0).bind fun pt1 => bp pt1 fun t1 M1 => (ldI M1 5 12 v1).bind fun t2 => (f_X8_step t2 M1).bind fun pt3 => bp pt3 fun t3 M3 => some ((t1 + t3), M3)
def f_X3_totalMoved (v1 : Int32) (M0 : Mem) : Option (Int32 × Mem) := (f_X8_open M0).bind fun M1 => (f_X3_sumMoved v1 M1).bind fun pt2 => bp pt2 fun t2 M2 => some (t2, M2)
def f_X3_bestMove_b13 : Nat → Int32 → Int32 → Int32 → Mem → Option (Int32 × Mem)
  | 0, _, _, _, _ => none
  | n13 + 1, v1, v2, v3, M => (if (M.1 1 5) ≤ v3 then some (v1, M) else (f_X3_sumMoved v3 M).bind fun pt4 => bp pt4 fun t4 M4 => (if v2 ≤ t4 then (f_X3_bestMove_b13 n13) v1 v2 (v3 + (1 : Int32)) M4 else (f_X3_bestMove_b13 n13) v3 t4 (v3 + (1 : Int32)) M4))
def f_X3_bestMove (M0 : Mem) : Option (Int32 × Mem) := (f_X8_total M0).bind fun pt1 => bp pt1 fun t1 M1 => f_X3_bestMove_b13 FU (-9 : Int32) t1 (0 : Int32) M1
def f_X3_totalFromBehind_b19 : Nat → Int32 → Int32 → Mem → Option (Int32 × Mem)
  | 0, _, _, _ => none
  | n19 + 1, v1, v2, M => (if v2 < 0 then some (v1, M) else (ldI M 5 12 v2).bind fun t3 => (f_X8_step t3 M).bind fun pt4 => bp pt4 fun t4 M4 => (f_X3_totalFromBehind_b19 n19) (v1 + t4) (v2 + (-1 : Int32)) M4)
def f_X3_totalFromBehind (M0 : Mem) : Option (Int32 × Mem) := (f_X8_open M0).bind fun M1 => f_X3_totalFromBehind_b19 FU (0 : Int32) ((M1.1 1 5) - (1 : Int32)) M1
def f_X3_sumExchanged_b46 (k12 : Int32 → Int32 → Int32 → Int32 → Mem → Option (Int32 × Mem)) (v1 : Int32) (v2 : Int32) (v3 : Int32) (v4 : Int32) (s0 : Int32) (M : Mem) : Option (Int32 × Mem) := (ldI M 5 12 s0).bind fun t3 => (f_X8_step t3 M).bind fun pt4 => bp pt4 fun t4 M4 => k12 v1 v2 (v3 + t4) (v4 + (1 : Int32)) M4
def f_X3_sumExchanged_b12 : Nat → Int32 → Int32 → Int32 → Int32 → Mem → Option (Int32 × Mem)
  | 0, _, _, _, _, _ => none
  | n12 + 1, v1, v2, v3, v4, M => (if (M.1 1 5) ≤ v4 then some (v3, M) else f_X3_sumExchanged_b46 (f_X3_sumExchanged_b12 n12) v1 v2 v3 v4 (if v4 = v1 then v2 else (if v4 = v2 then v1 else v4)) M)
def f_X3_sumExchanged (v1 : Int32) (v2 : Int32) (M0 : Mem) : Option (Int32 × Mem) := (f_X8_forgetSteps M0).bind fun M1 => f_X3_sumExchanged_b12 FU v1 v2 (0 : Int32) (0 : Int32) M1
def f_X3_bestExchange_b29 (k13 : Int32 → Int32 → Int32 → Mem → Option (Int32 × Mem)) : Nat → Int32 → Int32 → Int32 → Int32 → Mem → Option (Int32 × Mem)
  | 0, _, _, _, _, _ => none
  | n29 + 1, v1, v2, v3, v4, M => (if (M.1 1 5) ≤ v4 then k13 v1 v2 (v3 + (1 : Int32)) M else (f_X3_sumExchanged v3 v4 M).bind fun pt5 => bp pt5 fun t5 M5 => (if v2 ≤ t5 then (f_X3_bestExchange_b29 k13 n29) v1 v2 v3 (v4 + (1 : Int32)) M5 else (f_X3_bestExchange_b29 k13 n29) (((100 : Int32) * v3) + v4) t5 v3 (v4 + (1 : Int32)) M5))
def f_X3_bestExchange_b13 : Nat → Int32 → Int32 → Int32 → Mem → Option (Int32 × Mem)
  | 0, _, _, _, _ => none
  | n13 + 1, v1, v2, v3, M => (if (M.1 1 5) ≤ v3 then some (v1, M) else f_X3_bestExchange_b29 (f_X3_bestExchange_b13 n13) FU v1 v2 v3 (v3 + (1 : Int32)) M)
def f_X3_bestExchange (M0 : Mem) : Option (Int32 × Mem) := (f_X8_total M0).bind fun pt1 => bp pt1 fun t1 M1 => f_X3_bestExchange_b13 FU (-9 : Int32) t1 (0 : Int32) M1
def f_X3_isInLog_b2 (M0 : Mem) : Nat → Int32 → Int32 → Option Int32
  | 0, _, _ => none
  | n2 + 1, v1, v2 => (if (M0.1 1 5) ≤ v2 then some (0 : Int32) else (ldI M0 5 12 v2).bind fun t2 => (if t2 = v1 then some (1 : Int32) else (f_X3_isInLog_b2 M0 n2) v1 (v2 + (1 : Int32))))
def f_X3_isInLog (v1 : Int32) (M0 : Mem) : Option Int32 := f_X3_isInLog_b2 M0 FU v1 (0 : Int32)
def f_X3_sumBanning_b11 : Nat → Int32 → Int32 → Int32 → Mem → Option (Int32 × Mem)
  | 0, _, _, _, _ => none
  | n11 + 1, v1, v2, v3, M => (if (M.1 1 5) ≤ v3 then some (v2, M) else (ldI M 5 12 v3).bind fun t3 => (if t3 = v1 then (f_X3_sumBanning_b11 n11) v1 v2 (v3 + (1 : Int32)) M else (ldI M 5 12 v3).bind fun t5 => (f_X8_step t5 M).bind fun pt6 => bp pt6 fun t6 M6 => (f_X3_sumBanning_b11 n11) v1 (v2 + t6) (v3 + (1 : Int32)) M6))
def f_X3_sumBanning (v1 : Int32) (M0 : Mem) : Option (Int32 × Mem) := (f_X8_forgetSteps M0).bind fun M1 => f_X3_sumBanning_b11 FU v1 (0 : Int32) (0 : Int32) M1
def f_X3_bestBan_b48 (k16 : Int32 → Int32 → Int32 → Int32 → Mem → Option (Int32 × Mem)) (v1 : Int32) (v2 : Int32) (v3 : Int32) (v4 : Int32) (s0 : Int32) (M : Mem) : Option (Int32 × Mem) := (if v3 ≤ s0 then k16 v1 v2 v3 (v4 + (1 : Int32)) M else k16 v1 v4 s0 (v4 + (1 : Int32)) M)
def f_X3_bestBan_b16 : Nat → Int32 → Int32 → Int32 → Int32 → Mem → Option (Int32 × Mem)
  | 0, _, _, _, _, _ => none
  | n16 + 1, v1, v2, v3, v4, M => (if (M.1 1 4) ≤ v4 then (if v1 = 0 then some (v2, M) else (if v2 = (-9 : Int32) then some (v2, M) else some (v3, M))) else (f_X3_isInLog v4 M).bind fun t6 => (if t6 = 0 then f_X3_bestBan_b48 (f_X3_bestBan_b16 n16) v1 v2 v3 v4 (2147483647 : Int32) M else (f_X3_sumBanning v4 M).bind fun pt10 => bp pt10 fun t10 M10 => f_X3_bestBan_b48 (f_X3_bestBan_b16 n16) v1 v2 v3 v4 t10 M10))
def f_X3_bestBan (v1 : Int32) (M0 : Mem) : Option (Int32 × Mem) := (f_X8_open M0).bind fun M1 => f_X3_bestBan_b16 FU v1 (-9 : Int32) (2147483647 : Int32) (0 : Int32) M1
def f_X3_areAlikePlaces (v1 : Int32) (v2 : Int32) (M0 : Mem) : Option Int32 := (ldI M0 5 12 v1).bind fun t1 => (ldI M0 26 8 t1).bind fun t2 => (ldI M0 5 12 v2).bind fun t3 => (if ((jshr t2 t3) &&& (1 : Int32)) = 0 then some (0 : Int32) else some (1 : Int32))
def f_X3_readAhead_b29 (k9 : Int32 → Mem → Option Mem) : Nat → Int32 → Int32 → Mem → Option Mem
  | 0, _, _, _ => none
  | n29 + 1, v1, v2, M => (if v1 ≤ v2 then k9 (v1 + (1 : Int32)) M else (f_X3_areAlikePlaces v2 v1 M).bind fun t6 => (if t6 = 0 then (f_X3_readAhead_b29 k9 n29) v1 (v2 + (1 : Int32)) M else (ldI M 31 12 v1).bind fun t8 => (stI M 31 12 v1 (t8 ||| (jshl (1 : Int32) v2))).bind fun M9 => (f_X3_readAhead_b29 k9 n29) v1 (v2 + (1 : Int32)) M9))
def f_X3_readAhead_b9 : Nat → Int32 → Mem → Option Mem
  | 0, _, _ => none
  | n9 + 1, v1, M => (if (M.1 1 5) ≤ v1 then some M else (stI M 31 12 v1 (0 : Int32)).bind fun M3 => f_X3_readAhead_b29 (f_X3_readAhead_b9 n9) FU v1 (0 : Int32) M3)
def f_X3_readAhead (M0 : Mem) : Option Mem := (f_X8_open M0).bind fun M1 => f_X3_readAhead_b9 FU (0 : Int32) M1
def f_X3_sumSplit_b38 (M0 : Mem) (k5 : Int32 → Int32 → Int32 → Int32 → Option Int32) (v1 : Int32) (v2 : Int32) (v3 : Int32) (v4 : Int32) (s0 : Int32) : Option Int32 := (ldI M0 5 12 v4).bind fun t3 => (ldI M0 31 12 v4).bind fun t4 => (f_X0_dueFor 1 t3 (f_J6_bitCount_0f7a4 (t4 &&& s0)) M0).bind fun t5 => k5 v1 v2 (v3 + t5) (v4 + (1 : Int32))
def f_X3_sumSplit_b5 (M0 : Mem) : Nat → Int32 → Int32 → Int32 → Int32 → Option Int32
  | 0, _, _, _, _ => none
  | n5 + 1, v1, v2, v3, v4 => (if (M0.1 1 5) ≤ v4 then some v3 else (if v2 ≤ v3 then some v3 else f_X3_sumSplit_b38 M0 (f_X3_sumSplit_b5 M0 n5) v1 v2 v3 v4 (if ((jshr v1 v4) &&& (1 : Int32)) = 0 then (v1 ^^^ (-1 : Int32)) else v1)))
def f_X3_sumSplit (v1 : Int32) (v2 : Int32) (M0 : Mem) : Option Int32 := f_X3_sumSplit_b5 M0 FU v1 v2 (0 : Int32) (0 : Int32)
def f_X3_splitInTwo_b17 : Nat → Int32 → Int32 → Int32 → Int32 → Mem → Option (Int32 × Mem)
  | 0, _, _, _, _, _ => none
  | n17 + 1, v1, v2, v3, v4, M => (if (jshl (1 : Int32) (mxI (0 : Int32) ((M.1 1 5) - (1 : Int32)))) ≤ v4 then (if v1 = 0 then some (v3, M) else some (v2, M)) else (f_X3_sumSplit v4 v3 M).bind fun t6 => (if v3 ≤ t6 then (f_X3_splitInTwo_b17 n17) v1 v2 v3 (v4 + (1 : Int32)) M else (f_X3_splitInTwo_b17 n17) v1 v4 t6 (v4 + (1 : Int32)) M))
def f_X3_splitInTwo (v1 : Int32) (M0 : Mem) : Option (Int32 × Mem) := (f_X3_readAhead M0).bind fun M1 => (f_X8_walkLog M1).bind fun pt2 => bp pt2 fun t2 M2 => f_X3_splitInTwo_b17 FU v1 (0 : Int32) t2 (1 : Int32) M2
def f_X3_pureFrom_b15 (M0 : Mem) (k2 : Int32 → Int32 → Option Int32) : Nat → Int32 → Int32 → Int32 → Option Int32
  | 0, _, _, _ => none
  | n15 + 1, v1, v2, v3 => (if v2 ≤ v3 then k2 v1 (v2 + (1 : Int32)) else (f_X3_areAlikePlaces v3 v2 M0).bind fun t3 => (if t3 = 0 then (f_X3_pureFrom_b15 M0 k2 n15) v1 v2 (v3 + (1 : Int32)) else some (v2 - v1)))
def f_X3_pureFrom_b2 (M0 : Mem) : Nat → Int32 → Int32 → Option Int32
  | 0, _, _ => none
  | n2 + 1, v1, v2 => (if (M0.1 1 5) ≤ v2 then some ((M0.1 1 5) - v1) else f_X3_pureFrom_b15 M0 (f_X3_pureFrom_b2 M0 n2) FU v1 v2 v1)
def f_X3_pureFrom (v1 : Int32) (M0 : Mem) : Option Int32 := f_X3_pureFrom_b2 M0 FU v1 v1
def f_X3_longestPure_b15 : Nat → Int32 → Int32 → Int32 → Int32 → Mem → Option (Int32 × Mem)
  | 0, _, _, _, _, _ => none
  | n15 + 1, v1, v2, v3, v4, M => (if (M.1 1 5) ≤ v4 then (if v1 = 0 then some (v2, M) else some (v3, M)) else (f_X3_pureFrom v4 M).bind fun t5 => (if t5 ≤ v2 then (f_X3_longestPure_b15 n15) v1 v2 v3 (v4 + (1 : Int32)) M else (f_X3_longestPure_b15 n15) v1 t5 v4 (v4 + (1 : Int32)) M))
def f_X3_longestPure (v1 : Int32) (M0 : Mem) : Option (Int32 × Mem) := (f_X8_open M0).bind fun M1 => f_X3_longestPure_b15 FU v1 (0 : Int32) (-9 : Int32) (0 : Int32) M1
def f_X3_longestStreak_b44 (k13 : Int32 → Int32 → Int32 → Mem → Option (Int32 × Mem)) (v1 : Int32) (v2 : Int32) (v3 : Int32) (s0 : Int32) (M : Mem) : Option (Int32 × Mem) := k13 (mxI v1 (if s0 = 0 then (1 : Int32) else (v2 + (1 : Int32)))) (if s0 = 0 then (1 : Int32) else (v2 + (1 : Int32))) (v3 + (1 : Int32)) M
def f_X3_longestStreak_b43 (k13 : Int32 → Int32 → Int32 → Mem → Option (Int32 × Mem)) (v1 : Int32) (v2 : Int32) (v3 : Int32) (M : Mem) : Option (Int32 × Mem) := f_X3_longestStreak_b44 k13 v1 v2 v3 (0 : Int32) M
def f_X3_longestStreak_b13 : Nat → Int32 → Int32 → Int32 → Mem → Option (Int32 × Mem)
  | 0, _, _, _, _ => none
  | n13 + 1, v1, v2, v3, M => (if (M.1 1 5) ≤ v3 then some (v1, M) else (if v3 ≤ 0 then f_X3_longestStreak_b43 (f_X3_longestStreak_b13 n13) v1 v2 v3 M else (f_X3_areAlikePlaces (v3 - (1 : Int32)) v3 M).bind fun t7 => f_X3_longestStreak_b44 (f_X3_longestStreak_b13 n13) v1 v2 v3 (if t7 = 0 then (0 : Int32) else (1 : Int32)) M))
def f_X3_longestStreak (M0 : Mem) : Option (Int32 × Mem) := (f_X8_open M0).bind fun M1 => f_X3_longestStreak_b13 FU (0 : Int32) (0 : Int32) (0 : Int32) M1
def f_X8_dueNow (v1 : Int32) (M0 : Mem) : Option Int32 := (ldI M0 27 8 v1).bind fun t1 => (f_X0_dueFor 1 v1 t1 M0).bind fun t2 => some t2
def f_X4_luckyRows_S_b11 (rec : Int32 → Mem → Option (Int32 × Mem)) : Nat → Int32 → Int32 → Int32 → Mem → Option (Int32 × Mem)
  | 0, _, _, _, _ => none
  | n11 + 1, v2, v3, v4, M => (if (M.1 1 4) ≤ v4 then some (v3, M) else (f_X8_dueNow v4 M).bind fun t4 => (if t4 = 0 then (if v2 = (1 : Int32) then (f_X4_luckyRows_S_b11 rec n11) v2 (v3 + (1 : Int32)) (v4 + (1 : Int32)) M else (f_X8_shift v4 (1 : Int32) M).bind fun M9 => (rec (v2 - (1 : Int32)) M9).bind fun pt10 => bp pt10 fun t10 M10 => (f_X8_shift v4 (-1 : Int32) M10).bind fun M11 => (f_X4_luckyRows_S_b11 rec n11) v2 (v3 + t10) (v4 + (1 : Int32)) M11) else (f_X4_luckyRows_S_b11 rec n11) v2 v3 (v4 + (1 : Int32)) M))
def f_X4_luckyRows_S (rec : Int32 → Mem → Option (Int32 × Mem)) (v2 : Int32) (M0 : Mem) : Option (Int32 × Mem) := (if 0 < v2 then f_X4_luckyRows_S_b11 rec FU v2 (0 : Int32) (0 : Int32) M0 else some ((1 : Int32), M0))
def f_X4_luckyRows : Nat → Int32 → Mem → Option (Int32 × Mem)
  | 0 => fun _ _ => none
  | k + 1 => f_X4_luckyRows_S (f_X4_luckyRows k)
def f_X4_lowest_b60 (v0 : Int64) (v2 : Int64) (v4 : Int32) (v5 : Int64) : Option Int64 := (dvL (if v4 = 0 then v0 else v2) (mxL (1 : Int64) v5)).bind fun t5 => some t5
def f_X4_lowest_b25 : Nat → Int64 → Int64 → Int32 → Int64 → Int64 → Int32 → Option Int64
  | 0, _, _, _, _, _, _ => none
  | n25 + 1, v0, v2, v4, v5, v7, v9 => (if (64 : Int32) ≤ v9 then f_X4_lowest_b60 v0 v2 v4 v5 else (if (lg_cmp v7 (0 : Int64)) = 0 then f_X4_lowest_b60 v0 v2 v4 v5 else (rmL v5 v7).bind fun t10 => (f_X4_lowest_b25 n25) v0 v2 v4 v7 t10 (v9 + (1 : Int32))))
def f_X4_lowest (v0 : Int64) (v2 : Int64) (v4 : Int32) : Option Int64 := (if (lg_cmp v0 (0 : Int64)) = 0 then some (v4).toInt64 else (if (lg_cmp v2 (0 : Int64)) = 0 then some (v4).toInt64 else f_X4_lowest_b25 FU v0 v2 v4 v0 v2 (0 : Int32)))
def f_X4_nothingDue_b12 : Nat → Int32 → Int32 → Int64 → Int32 → Mem → Option (Int64 × Mem)
  | 0, _, _, _, _, _ => none
  | n12 + 1, v1, v2, v3, v5, M => (if v1 ≤ v5 then (f_X4_luckyRows 5 v1 M).bind fun pt3 => bp pt3 fun t3 M3 => (f_X4_lowest (t3).toInt64 v3 v2).bind fun t4 => some (t4, M3) else (f_X4_nothingDue_b12 n12) v1 v2 (v3 * ((M.1 1 4)).toInt64) (v5 + (1 : Int32)) M)
def f_X4_nothingDue (v1 : Int32) (v2 : Int32) (M0 : Mem) : Option (Int64 × Mem) := (f_X8_open M0).bind fun M1 => f_X4_nothingDue_b12 FU v1 v2 (1 : Int64) (0 : Int32) M1
def f_X8_openBehindLog (M0 : Mem) : Option Mem := (f_X8_open M0).bind fun M1 => (f_X8_walkLog M1).bind fun pt2 => bp pt2 fun t2 M2 => some M2
def f_X4_meanNext_b12 : Nat → Int32 → Int64 → Int32 → Mem → Option (Int64 × Mem)
  | 0, _, _, _, _ => none
  | n12 + 1, v1, v2, v4, M => (if (M.1 1 4) ≤ v4 then (f_X4_lowest v2 ((M.1 1 4)).toInt64 v1).bind fun t4 => some (t4, M) else (f_X8_dueNow v4 M).bind fun t5 => (f_X4_meanNext_b12 n12) v1 (v2 + (t5).toInt64) (v4 + (1 : Int32)) M)
def f_X4_meanNext (v1 : Int32) (M0 : Mem) : Option (Int64 × Mem) := (f_X8_openBehindLog M0).bind fun M1 => f_X4_meanNext_b12 FU v1 (0 : Int64) (0 : Int32) M1
def f_X4_weeks_b128 (v3 : Int32) (v5 : Int32) (v6 : Int32) (M : Mem) : Option (Int32 × Mem) := (if v3 = 0 then some (v5, M) else some (v6, M))
def f_X4_weeks_b48 (k19 : Int32 → Int32 → Int32 → Int32 → Int32 → Int32 → Mem → Option (Int32 × Mem)) : Nat → Int32 → Int32 → Int32 → Int32 → Int32 → Int32 → Int32 → Int32 → Mem → Option (Int32 × Mem)
  | 0, _, _, _, _, _, _, _, _, _ => none
  | n48 + 1, v1, v3, v4, v5, v6, v7, v8, v9, M => (if (12 : Int32) ≤ v9 then k19 v1 v3 v4 (v5 + v8) (v6 + (if v8 = 0 then (1 : Int32) else (0 : Int32))) (v7 + (1 : Int32)) M else (rmI ((((v4 * (1103515245 : Int32)) + (12345 : Int32)) &&& (2147483647 : Int32)) / (65536 : Int32)) (M.1 1 4)).bind fun t11 => (f_X8_step t11 M).bind fun pt12 => bp pt12 fun t12 M12 => (f_X4_weeks_b48 k19 n48) v1 v3 ((v4 * (1103515245 : Int32)) + (12345 : Int32)) v5 v6 v7 (v8 + t12) (v9 + (1 : Int32)) M12)
def f_X4_weeks_b19 : Nat → Int32 → Int32 → Int32 → Int32 → Int32 → Int32 → Mem → Option (Int32 × Mem)
  | 0, _, _, _, _, _, _, _ => none
  | n19 + 1, v1, v3, v4, v5, v6, v7, M => (if v1 ≤ v7 then f_X4_weeks_b128 v3 v5 v6 M else (if (M.1 1 4) ≤ 0 then f_X4_weeks_b128 v3 v5 v6 M else (f_X8_forgetSteps M).bind fun M7 => f_X4_weeks_b48 (f_X4_weeks_b19 n19) FU v1 v3 v4 v5 v6 v7 (0 : Int32) (0 : Int32) M7))
def f_X4_weeks (v1 : Int32) (v2 : Int32) (v3 : Int32) (M0 : Mem) : Option (Int32 × Mem) := (f_X8_open M0).bind fun M1 => f_X4_weeks_b19 FU v1 v3 v2 (0 : Int32) (0 : Int32) (0 : Int32) M1
def f_X5_allCounted_b4 (M0 : Mem) : Nat → Int32 → Int32 → Option Int32
  | 0, _, _ => none
  | n4 + 1, v1, v2 => (if (M0.1 1 4) ≤ v2 then some v1 else (ldI M0 4 8 v2).bind fun t2 => (f_X5_allCounted_b4 M0 n4) (v1 + (f_J6_bitCount_0f7a4 t2)) (v2 + (1 : Int32)))
def f_X5_allCounted (M0 : Mem) : Option Int32 := f_X5_allCounted_b4 M0 FU (0 : Int32) (0 : Int32)
def f_X5_totalFlipped (v1 : Int32) (v2 : Int32) (M0 : Mem) : Option (Int32 × Mem) := (f_X0_flipMark 1 v1 v2 M0).bind fun M1 => (f_X8_total M1).bind fun pt2 => bp pt2 fun t2 M2 => (f_X0_flipMark 1 v1 v2 M2).bind fun M3 => some (t2, M3)
def f_X5_bestFlip_b27 (k13 : Int32 → Int32 → Int32 → Mem → Option (Int32 × Mem)) : Nat → Int32 → Int32 → Int32 → Int32 → Mem → Option (Int32 × Mem)
  | 0, _, _, _, _, _ => none
  | n27 + 1, v1, v2, v3, v4, M => (if (8 : Int32) ≤ v4 then k13 v1 v2 (v3 + (1 : Int32)) M else (f_X5_totalFlipped v3 v4 M).bind fun pt5 => bp pt5 fun t5 M5 => (if v2 ≤ t5 then (f_X5_bestFlip_b27 k13 n27) v1 v2 v3 (v4 + (1 : Int32)) M5 else (f_X5_bestFlip_b27 k13 n27) (((10 : Int32) * v3) + v4) t5 v3 (v4 + (1 : Int32)) M5))
def f_X5_bestFlip_b13 : Nat → Int32 → Int32 → Int32 → Mem → Option (Int32 × Mem)
  | 0, _, _, _, _ => none
  | n13 + 1, v1, v2, v3, M => (if (M.1 1 4) ≤ v3 then some (v1, M) else f_X5_bestFlip_b27 (f_X5_bestFlip_b13 n13) FU v1 v2 v3 (0 : Int32) M)
def f_X5_bestFlip (M0 : Mem) : Option (Int32 × Mem) := (f_X8_total M0).bind fun pt1 => bp pt1 fun t1 M1 => f_X5_bestFlip_b13 FU (-9 : Int32) t1 (0 : Int32) M1
def f_X5_marksOf_b4 (M0 : Mem) : Nat → Int32 → Int32 → Int32 → Option Int32
  | 0, _, _, _ => none
  | n4 + 1, v1, v2, v3 => (if (M0.1 1 4) ≤ v3 then some v2 else (if ((jshr v1 v3) &&& (1 : Int32)) = 0 then (f_X5_marksOf_b4 M0 n4) v1 v2 (v3 + (1 : Int32)) else (ldI M0 4 8 v3).bind fun t3 => (f_X5_marksOf_b4 M0 n4) v1 (v2 ||| t3) (v3 + (1 : Int32))))
def f_X5_marksOf (v1 : Int32) (M0 : Mem) : Option Int32 := f_X5_marksOf_b4 M0 FU v1 (0 : Int32) (0 : Int32)
def f_X5_nextOf_b4 (M0 : Mem) : Nat → Int32 → Int32 → Int32 → Option Int32
  | 0, _, _, _ => none
  | n4 + 1, v1, v2, v3 => (if (M0.1 1 4) ≤ v3 then some v2 else (if ((jshr v1 v3) &&& (1 : Int32)) = 0 then (f_X5_nextOf_b4 M0 n4) v1 v2 (v3 + (1 : Int32)) else (f_X8_dueNow v3 M0).bind fun t4 => (f_X5_nextOf_b4 M0 n4) v1 (v2 + t4) (v3 + (1 : Int32))))
def f_X5_nextOf (v1 : Int32) (M0 : Mem) : Option Int32 := f_X5_nextOf_b4 M0 FU v1 (0 : Int32) (0 : Int32)
def f_X5_covering_b80 (k25 : Int32 → Int32 → Int32 → Int32 → Int32 → Int32 → Int32 → Mem → Option (Int32 × Mem)) (v1 : Int32) (v2 : Int32) (v3 : Int32) (v4 : Int32) (v5 : Int32) (v6 : Int32) (v7 : Int32) (v8 : Int32) (M : Mem) : Option (Int32 × Mem) := (if v6 ≤ v8 then k25 v1 v2 v3 v4 v5 v6 (v7 + (1 : Int32)) M else k25 v1 v2 v3 v7 v5 v8 (v7 + (1 : Int32)) M)
def f_X5_covering_b25 : Nat → Int32 → Int32 → Int32 → Int32 → Int32 → Int32 → Int32 → Mem → Option (Int32 × Mem)
  | 0, _, _, _, _, _, _, _, _ => none
  | n25 + 1, v1, v2, v3, v4, v5, v6, v7, M => (if (jshl (1 : Int32) (M.1 1 4)) ≤ v7 then (if v2 = 0 then some (v3, M) else (if v2 = (1 : Int32) then some (v4, M) else (if v4 = (-9 : Int32) then some (v4, M) else some (v6, M)))) else (f_X5_marksOf v7 M).bind fun t7 => (if (v1 &&& (t7 ^^^ (-1 : Int32))) = 0 then (f_X5_nextOf v7 M).bind fun t10 => (if v5 ≤ (f_J6_bitCount_0f7a4 v7) then f_X5_covering_b80 (f_X5_covering_b25 n25) v1 v2 v3 v4 v5 v6 v7 t10 M else f_X5_covering_b80 (f_X5_covering_b25 n25) v1 v2 v7 v4 (f_J6_bitCount_0f7a4 v7) v6 v7 t10 M) else (f_X5_covering_b25 n25) v1 v2 v3 v4 v5 v6 (v7 + (1 : Int32)) M))
def f_X5_covering (v1 : Int32) (v2 : Int32) (M0 : Mem) : Option (Int32 × Mem) := (f_X8_openBehindLog M0).bind fun M1 => f_X5_covering_b25 FU v1 v2 (-9 : Int32) (-9 : Int32) (9 : Int32) (2147483647 : Int32) (0 : Int32) M1
def f_X5_closestTwo_b26 (M0 : Mem) (k8 : Int32 → Int32 → Int32 → Int32 → Option Int32) : Nat → Int32 → Int32 → Int32 → Int32 → Int32 → Option Int32
  | 0, _, _, _, _, _ => none
  | n26 + 1, v1, v2, v3, v4, v5 => (if (M0.1 1 4) ≤ v5 then k8 v1 v2 v3 (v4 + (1 : Int32)) else (ldI M0 4 8 v4).bind fun t5 => (ldI M0 4 8 v5).bind fun t6 => (if (f_J6_bitCount_0f7a4 (t5 &&& t6)) ≤ v3 then (f_X5_closestTwo_b26 M0 k8 n26) v1 v2 v3 v4 (v5 + (1 : Int32)) else (f_X5_closestTwo_b26 M0 k8 n26) v1 (((10 : Int32) * v4) + v5) (f_J6_bitCount_0f7a4 (t5 &&& t6)) v4 (v5 + (1 : Int32))))
def f_X5_closestTwo_b8 (M0 : Mem) : Nat → Int32 → Int32 → Int32 → Int32 → Option Int32
  | 0, _, _, _, _ => none
  | n8 + 1, v1, v2, v3, v4 => (if (M0.1 1 4) ≤ v4 then (if v1 = 0 then some v2 else (if v2 = (-9 : Int32) then some v2 else some v3)) else f_X5_closestTwo_b26 M0 (f_X5_closestTwo_b8 M0 n8) FU v1 v2 v3 v4 (v4 + (1 : Int32)))
def f_X5_closestTwo (v1 : Int32) (M0 : Mem) : Option Int32 := f_X5_closestTwo_b8 M0 FU v1 (-9 : Int32) (-1 : Int32) (0 : Int32)
def f_X5_distance (v1 : Int32) (v2 : Int32) (M0 : Mem) : Option Int32 := (ldI M0 4 8 v1).bind fun t1 => (ldI M0 4 8 v2).bind fun t2 => some (f_J6_bitCount_0f7a4 (t1 ^^^ t2))
def f_X5_farthestTwo_b19 (M0 : Mem) (k4 : Int32 → Int32 → Option Int32) : Nat → Int32 → Int32 → Int32 → Option Int32
  | 0, _, _, _ => none
  | n19 + 1, v1, v2, v3 => (if (M0.1 1 4) ≤ v3 then k4 v1 (v2 + (1 : Int32)) else (f_X5_distance v2 v3 M0).bind fun t4 => (f_X5_farthestTwo_b19 M0 k4 n19) (mxI v1 t4) v2 (v3 + (1 : Int32)))
def f_X5_farthestTwo_b4 (M0 : Mem) : Nat → Int32 → Int32 → Option Int32
  | 0, _, _ => none
  | n4 + 1, v1, v2 => (if (M0.1 1 4) ≤ v2 then some v1 else f_X5_farthestTwo_b19 M0 (f_X5_farthestTwo_b4 M0 n4) FU v1 v2 (v2 + (1 : Int32)))
def f_X5_farthestTwo (M0 : Mem) : Option Int32 := f_X5_farthestTwo_b4 M0 FU (0 : Int32) (0 : Int32)
def f_X5_distancesFrom_b4 (M0 : Mem) : Nat → Int32 → Int32 → Int32 → Option Int32
  | 0, _, _, _ => none
  | n4 + 1, v1, v2, v3 => (if (M0.1 1 4) ≤ v3 then some v2 else (f_X5_distance v1 v3 M0).bind fun t3 => (f_X5_distancesFrom_b4 M0 n4) v1 (v2 + t3) (v3 + (1 : Int32)))
def f_X5_distancesFrom (v1 : Int32) (M0 : Mem) : Option Int32 := f_X5_distancesFrom_b4 M0 FU v1 (0 : Int32) (0 : Int32)
def f_X5_centre_b8 (M0 : Mem) : Nat → Int32 → Int32 → Int32 → Option Int32
  | 0, _, _, _ => none
  | n8 + 1, v1, v2, v3 => (if (M0.1 1 4) ≤ v3 then some v1 else (f_X5_distancesFrom v3 M0).bind fun t3 => (if v2 ≤ t3 then (f_X5_centre_b8 M0 n8) v1 v2 (v3 + (1 : Int32)) else (f_X5_centre_b8 M0 n8) v3 t3 (v3 + (1 : Int32))))
def f_X5_centre (M0 : Mem) : Option Int32 := f_X5_centre_b8 M0 FU (-9 : Int32) (2147483647 : Int32) (0 : Int32)
def f_X5_mostlyHad_b15 (M0 : Mem) (k4 : Int32 → Int32 → Option Int32) : Nat → Int32 → Int32 → Int32 → Int32 → Option Int32
  | 0, _, _, _, _ => none
  | n15 + 1, v1, v2, v3, v4 => (if (M0.1 1 4) ≤ v4 then (if ((2 : Int32) * v3) ≤ (M0.1 1 4) then k4 v1 (v2 + (1 : Int32)) else k4 (v1 ||| (jshl (1 : Int32) v2)) (v2 + (1 : Int32))) else (ldI M0 4 8 v4).bind fun t4 => (f_X5_mostlyHad_b15 M0 k4 n15) v1 v2 (v3 + ((jshr t4 v2) &&& (1 : Int32))) (v4 + (1 : Int32)))
def f_X5_mostlyHad_b4 (M0 : Mem) : Nat → Int32 → Int32 → Option Int32
  | 0, _, _ => none
  | n4 + 1, v1, v2 => (if (8 : Int32) ≤ v2 then some v1 else f_X5_mostlyHad_b15 M0 (f_X5_mostlyHad_b4 M0 n4) FU v1 v2 (0 : Int32) (0 : Int32))
def f_X5_mostlyHad (M0 : Mem) : Option Int32 := f_X5_mostlyHad_b4 M0 FU (0 : Int32) (0 : Int32)
def f_X5_isNewSet_b2 (M0 : Mem) : Nat → Int32 → Int32 → Option Int32
  | 0, _, _ => none
  | n2 + 1, v1, v2 => (if v1 ≤ v2 then some (1 : Int32) else (ldI M0 4 8 v2).bind fun t2 => (ldI M0 4 8 v1).bind fun t3 => (if t2 = t3 then some (0 : Int32) else (f_X5_isNewSet_b2 M0 n2) v1 (v2 + (1 : Int32))))
def f_X5_isNewSet (v1 : Int32) (M0 : Mem) : Option Int32 := f_X5_isNewSet_b2 M0 FU v1 (0 : Int32)
def f_X5_unlikeSets_b4 (M0 : Mem) : Nat → Int32 → Int32 → Option Int32
  | 0, _, _ => none
  | n4 + 1, v1, v2 => (if (M0.1 1 4) ≤ v2 then some v1 else (f_X5_isNewSet v2 M0).bind fun t3 => (if t3 = 0 then (f_X5_unlikeSets_b4 M0 n4) v1 (v2 + (1 : Int32)) else (f_X5_unlikeSets_b4 M0 n4) (v1 + (1 : Int32)) (v2 + (1 : Int32))))
def f_X5_unlikeSets (M0 : Mem) : Option Int32 := f_X5_unlikeSets_b4 M0 FU (0 : Int32) (0 : Int32)
def f_X6_dueBehind (v1 : Int32) (v2 : Int32) (M0 : Mem) : Option Int32 := (ldI M0 26 8 v1).bind fun t1 => (ldI M0 27 8 v1).bind fun t2 => (f_X0_dueFor 1 v1 (t2 + (f_J6_bitCount_0f7a4 (t1 &&& v2))) M0).bind fun t3 => some t3
def f_X6_leastRest_b6 (M0 : Mem) : Nat → Int32 → Int32 → Int32 → Int32 → Option Int32
  | 0, _, _, _, _ => none
  | n6 + 1, v1, v2, v3, v4 => (if (M0.1 1 4) ≤ v4 then some v3 else (if ((jshr (v1 &&& (v2 ^^^ (-1 : Int32))) v4) &&& (1 : Int32)) = 0 then (f_X6_leastRest_b6 M0 n6) v1 v2 v3 (v4 + (1 : Int32)) else (f_X6_dueBehind v4 v2 M0).bind fun t4 => (ldI M0 35 256 (v2 ||| (jshl (1 : Int32) v4))).bind fun t5 => (f_X6_leastRest_b6 M0 n6) v1 v2 (mnI v3 (t4 + t5)) (v4 + (1 : Int32))))
def f_X6_leastRest (v1 : Int32) (v2 : Int32) (M0 : Mem) : Option Int32 := f_X6_leastRest_b6 M0 FU v1 v2 (2147483647 : Int32) (0 : Int32)
def f_X6_reckonRests_b11 : Nat → Int32 → Int32 → Mem → Option Mem
  | 0, _, _, _ => none
  | n11 + 1, v1, v2, M => (if v2 < 0 then some M else (if (v2 &&& (v1 ^^^ (-1 : Int32))) = 0 then (f_X6_leastRest v1 v2 M).bind fun t5 => (stI M 35 256 v2 t5).bind fun M6 => (f_X6_reckonRests_b11 n11) v1 (v2 + (-1 : Int32)) M6 else (f_X6_reckonRests_b11 n11) v1 (v2 + (-1 : Int32)) M))
def f_X6_reckonRests (v1 : Int32) (M0 : Mem) : Option Mem := (stI M0 35 256 v1 (0 : Int32)).bind fun M1 => f_X6_reckonRests_b11 FU v1 (v1 - (1 : Int32)) M1
def f_X6_firstOnBestWay_b2 (M0 : Mem) : Nat → Int32 → Int32 → Int32 → Option Int32
  | 0, _, _, _ => none
  | n2 + 1, v1, v2, v3 => (if (M0.1 1 4) ≤ v3 then some (-9 : Int32) else (if ((jshr (v1 &&& (v2 ^^^ (-1 : Int32))) v3) &&& (1 : Int32)) = 0 then (f_X6_firstOnBestWay_b2 M0 n2) v1 v2 (v3 + (1 : Int32)) else (f_X6_dueBehind v3 v2 M0).bind fun t3 => (ldI M0 35 256 (v2 ||| (jshl (1 : Int32) v3))).bind fun t4 => (ldI M0 35 256 v2).bind fun t5 => (if (t3 + t4) = t5 then some v3 else (f_X6_firstOnBestWay_b2 M0 n2) v1 v2 (v3 + (1 : Int32)))))
def f_X6_firstOnBestWay (v1 : Int32) (v2 : Int32) (M0 : Mem) : Option Int32 := f_X6_firstOnBestWay_b2 M0 FU v1 v2 (0 : Int32)
def f_X6_ithDone_b5 (M0 : Mem) : Nat → Int32 → Int32 → Int32 → Int32 → Option Int32
  | 0, _, _, _, _ => none
  | n5 + 1, v1, v2, v3, v4 => (if (M0.1 1 4) ≤ v4 then some (-9 : Int32) else (f_X6_firstOnBestWay v1 v3 M0).bind fun t2 => (if t2 < 0 then some t2 else (if v4 = v2 then some t2 else (f_X6_ithDone_b5 M0 n5) v1 v2 (v3 ||| (jshl (1 : Int32) t2)) (v4 + (1 : Int32)))))
def f_X6_ithDone (v1 : Int32) (v2 : Int32) (M0 : Mem) : Option Int32 := f_X6_ithDone_b5 M0 FU v1 v2 (0 : Int32) (0 : Int32)
def f_X6_inOrder (v1 : Int32) (v2 : Int32) (M0 : Mem) : Option (Int32 × Mem) := (f_X8_openBehindLog M0).bind fun M1 => (f_X6_reckonRests v1 M1).bind fun M2 => (if 0 ≤ v2 then (f_X6_ithDone v1 v2 M2).bind fun t4 => some (t4, M2) else (ldI M2 35 256 (0 : Int32)).bind fun t5 => some (t5, M2))
def f_X6_timesMore_b12 : Nat → Int32 → Int32 → Int32 → Int32 → Mem → Option (Int32 × Mem)
  | 0, _, _, _, _, _ => none
  | n12 + 1, v1, v2, v3, v4, M => (if (60 : Int32) ≤ v4 then some ((60 : Int32), M) else (f_X8_step v1 M).bind fun pt3 => bp pt3 fun t3 M3 => (if (v3 + t3) ≤ v2 then (f_X6_timesMore_b12 n12) v1 v2 (v3 + t3) (v4 + (1 : Int32)) M3 else some (v4, M3)))
def f_X6_timesMore (v1 : Int32) (v2 : Int32) (M0 : Mem) : Option (Int32 × Mem) := (f_X8_openBehindLog M0).bind fun M1 => f_X6_timesMore_b12 FU v1 v2 (0 : Int32) (0 : Int32) M1
def f_X8_cheapestNext_b8 (M0 : Mem) : Nat → Int32 → Int32 → Int32 → Option Int32
  | 0, _, _, _ => none
  | n8 + 1, v1, v2, v3 => (if (M0.1 1 4) ≤ v3 then some v1 else (f_X8_dueNow v3 M0).bind fun t3 => (if v2 ≤ t3 then (f_X8_cheapestNext_b8 M0 n8) v1 v2 (v3 + (1 : Int32)) else (f_X8_cheapestNext_b8 M0 n8) v3 t3 (v3 + (1 : Int32))))
def f_X8_cheapestNext (M0 : Mem) : Option Int32 := f_X8_cheapestNext_b8 M0 FU (-9 : Int32) (2147483647 : Int32) (0 : Int32)
def f_X6_cheapestSteps_b59 (v2 : Int32) (v3 : Int32) (v4 : Int32) (M : Mem) : Option (Int32 × Mem) := (if v2 = 0 then some (v3, M) else some (v4, M))
def f_X6_cheapestSteps_b16 : Nat → Int32 → Int32 → Int32 → Int32 → Int32 → Mem → Option (Int32 × Mem)
  | 0, _, _, _, _, _, _ => none
  | n16 + 1, v1, v2, v3, v4, v5, M => (if v1 ≤ v5 then f_X6_cheapestSteps_b59 v2 v3 v4 M else (if (M.1 1 4) ≤ 0 then f_X6_cheapestSteps_b59 v2 v3 v4 M else (f_X8_cheapestNext M).bind fun t7 => (f_X8_step t7 M).bind fun pt8 => bp pt8 fun t8 M8 => (f_X6_cheapestSteps_b16 n16) v1 v2 (v3 + t8) t7 (v5 + (1 : Int32)) M8))
def f_X6_cheapestSteps (v1 : Int32) (v2 : Int32) (M0 : Mem) : Option (Int32 × Mem) := (f_X8_openBehindLog M0).bind fun M1 => f_X6_cheapestSteps_b16 FU v1 v2 (0 : Int32) (-9 : Int32) (0 : Int32) M1
def f_X6_stepsWithin_b11 : Nat → Int32 → Int32 → Int32 → Mem → Option (Int32 × Mem)
  | 0, _, _, _, _ => none
  | n11 + 1, v1, v2, v3, M => (if (60 : Int32) ≤ v3 then some ((60 : Int32), M) else (if (M.1 1 4) ≤ 0 then some ((60 : Int32), M) else (f_X8_cheapestNext M).bind fun t4 => (f_X8_step t4 M).bind fun pt5 => bp pt5 fun t5 M5 => (if (v2 + t5) ≤ v1 then (f_X6_stepsWithin_b11 n11) v1 (v2 + t5) (v3 + (1 : Int32)) M5 else some (v3, M5))))
def f_X6_stepsWithin (v1 : Int32) (M0 : Mem) : Option (Int32 × Mem) := (f_X8_openBehindLog M0).bind fun M1 => f_X6_stepsWithin_b11 FU v1 (0 : Int32) (0 : Int32) M1
def f_X6_totalByTurns_b13 : Nat → Int32 → Int32 → Int32 → Int32 → Int32 → Mem → Option (Int32 × Mem)
  | 0, _, _, _, _, _, _ => none
  | n13 + 1, v1, v2, v3, v4, v5, M => (if v3 ≤ v5 then some (v4, M) else (f_X8_step v1 M).bind fun pt4 => bp pt4 fun t4 M4 => (f_X8_step v2 M4).bind fun pt5 => bp pt5 fun t5 M5 => (f_X6_totalByTurns_b13 n13) v1 v2 v3 ((v4 + t4) + t5) (v5 + (1 : Int32)) M5)
def f_X6_totalByTurns (v1 : Int32) (v2 : Int32) (v3 : Int32) (M0 : Mem) : Option (Int32 × Mem) := (f_X8_forgetSteps M0).bind fun M1 => f_X6_totalByTurns_b13 FU v1 v2 v3 (0 : Int32) (0 : Int32) M1
def f_X6_cheapestTwo_b35 (k17 : Int32 → Int32 → Int32 → Int32 → Int32 → Mem → Option (Int32 × Mem)) : Nat → Int32 → Int32 → Int32 → Int32 → Int32 → Int32 → Mem → Option (Int32 × Mem)
  | 0, _, _, _, _, _, _, _ => none
  | n35 + 1, v1, v2, v3, v4, v5, v6, M => (if (M.1 1 4) ≤ v6 then k17 v1 v2 v3 v4 (v5 + (1 : Int32)) M else (f_X6_totalByTurns v5 v6 v1 M).bind fun pt7 => bp pt7 fun t7 M7 => (if v4 ≤ t7 then (f_X6_cheapestTwo_b35 k17 n35) v1 v2 v3 v4 v5 (v6 + (1 : Int32)) M7 else (f_X6_cheapestTwo_b35 k17 n35) v1 v2 (((10 : Int32) * v5) + v6) t7 v5 (v6 + (1 : Int32)) M7))
def f_X6_cheapestTwo_b17 : Nat → Int32 → Int32 → Int32 → Int32 → Int32 → Mem → Option (Int32 × Mem)
  | 0, _, _, _, _, _, _ => none
  | n17 + 1, v1, v2, v3, v4, v5, M => (if (M.1 1 4) ≤ v5 then (if v2 = 0 then some (v3, M) else (if v3 = (-9 : Int32) then some (v3, M) else some (v4, M))) else f_X6_cheapestTwo_b35 (f_X6_cheapestTwo_b17 n17) FU v1 v2 v3 v4 v5 (v5 + (1 : Int32)) M)
def f_X6_cheapestTwo (v1 : Int32) (v2 : Int32) (M0 : Mem) : Option (Int32 × Mem) := (f_X8_open M0).bind fun M1 => f_X6_cheapestTwo_b17 FU v1 v2 (-9 : Int32) (2147483647 : Int32) (0 : Int32) M1
def f_X8_totalBy (v1 : Int32) (v2 : Int32) (M0 : Mem) : Option (Int32 × Mem) := (f_X8_openBy v1 v2 M0).bind fun M1 => (f_X8_walkLog M1).bind fun pt2 => bp pt2 fun t2 M2 => some (t2, M2)
def f_X7_mildest_b17 (k8 : Int32 → Int32 → Int32 → Int32 → Mem → Option (Int32 × Mem)) : Nat → Int32 → Int32 → Int32 → Int32 → Int32 → Mem → Option (Int32 × Mem)
  | 0, _, _, _, _, _, _ => none
  | n17 + 1, v1, v2, v3, v4, v5, M => (if (8 : Int32) < v5 then k8 v1 v2 v3 (v4 + (1 : Int32)) M else (f_X8_totalBy v4 v5 M).bind fun pt5 => bp pt5 fun t5 M5 => (if v3 ≤ t5 then (f_X7_mildest_b17 k8 n17) v1 v2 v3 v4 (v5 + (1 : Int32)) M5 else (f_X7_mildest_b17 k8 n17) v1 (((10 : Int32) * v4) + v5) t5 v4 (v5 + (1 : Int32)) M5))
def f_X7_mildest_b8 : Nat → Int32 → Int32 → Int32 → Int32 → Mem → Option (Int32 × Mem)
  | 0, _, _, _, _, _ => none
  | n8 + 1, v1, v2, v3, v4, M => (if (4 : Int32) ≤ v4 then (if v1 = 0 then some (v2, M) else some (v3, M)) else f_X7_mildest_b17 (f_X7_mildest_b8 n8) FU v1 v2 v3 v4 (0 : Int32) M)
def f_X7_mildest (v1 : Int32) (M0 : Mem) : Option (Int32 × Mem) := f_X7_mildest_b8 FU v1 (0 : Int32) (2147483647 : Int32) (0 : Int32) M0
def f_X7_mildestT_b7 : Nat → Int32 → Int32 → Int32 → Mem → Option (Int32 × Mem)
  | 0, _, _, _, _ => none
  | n7 + 1, v1, v2, v3, M => (if (8 : Int32) < v3 then some (v1, M) else (f_X8_totalBy (M.1 1 6) v3 M).bind fun pt3 => bp pt3 fun t3 M3 => (if v2 ≤ t3 then (f_X7_mildestT_b7 n7) v1 v2 (v3 + (1 : Int32)) M3 else (f_X7_mildestT_b7 n7) v3 t3 (v3 + (1 : Int32)) M3))
def f_X7_mildestT (M0 : Mem) : Option (Int32 × Mem) := f_X7_mildestT_b7 FU (0 : Int32) (2147483647 : Int32) (0 : Int32) M0
def f_X7_isAsTold_b11 : Nat → Int32 → Mem → Option (Int32 × Mem)
  | 0, _, _ => none
  | n11 + 1, v3, M => (if (M.1 23 1) ≤ v3 then some ((1 : Int32), M) else (if (M.1 1 5) ≤ v3 then some ((1 : Int32), M) else (ldI M 5 12 v3).bind fun t4 => (f_X8_step t4 M).bind fun pt5 => bp pt5 fun t5 M5 => (ldI M5 24 12 v3).bind fun t6 => (if (mnI t5 (99 : Int32)) = t6 then (f_X7_isAsTold_b11 n11) (v3 + (1 : Int32)) M5 else some ((0 : Int32), M5))))
def f_X7_isAsTold (v1 : Int32) (v2 : Int32) (M0 : Mem) : Option (Int32 × Mem) := (f_X8_openBy v1 v2 M0).bind fun M1 => f_X7_isAsTold_b11 FU (0 : Int32) M1
def f_X7_howManyFit_b11 (k4 : Int32 → Int32 → Mem → Option (Int32 × Mem)) : Nat → Int32 → Int32 → Int32 → Mem → Option (Int32 × Mem)
  | 0, _, _, _, _ => none
  | n11 + 1, v1, v2, v3, M => (if (8 : Int32) < v3 then k4 v1 (v2 + (1 : Int32)) M else (f_X7_isAsTold v2 v3 M).bind fun pt4 => bp pt4 fun t4 M4 => (if t4 = 0 then (f_X7_howManyFit_b11 k4 n11) v1 v2 (v3 + (1 : Int32)) M4 else (f_X7_howManyFit_b11 k4 n11) (v1 + (1 : Int32)) v2 (v3 + (1 : Int32)) M4))
def f_X7_howManyFit_b4 : Nat → Int32 → Int32 → Mem → Option (Int32 × Mem)
  | 0, _, _, _ => none
  | n4 + 1, v1, v2, M => (if (4 : Int32) ≤ v2 then some (v1, M) else f_X7_howManyFit_b11 (f_X7_howManyFit_b4 n4) FU v1 v2 (0 : Int32) M)
def f_X7_howManyFit (M0 : Mem) : Option (Int32 × Mem) := f_X7_howManyFit_b4 FU (0 : Int32) (0 : Int32) M0
def f_X7_firstFitting_b9 (k2 : Int32 → Mem → Option (Int32 × Mem)) : Nat → Int32 → Int32 → Mem → Option (Int32 × Mem)
  | 0, _, _, _ => none
  | n9 + 1, v1, v2, M => (if (8 : Int32) < v2 then k2 (v1 + (1 : Int32)) M else (f_X7_isAsTold v1 v2 M).bind fun pt3 => bp pt3 fun t3 M3 => (if t3 = 0 then (f_X7_firstFitting_b9 k2 n9) v1 (v2 + (1 : Int32)) M3 else some ((((10 : Int32) * v1) + v2), M3)))
def f_X7_firstFitting_b2 : Nat → Int32 → Mem → Option (Int32 × Mem)
  | 0, _, _ => none
  | n2 + 1, v1, M => (if (4 : Int32) ≤ v1 then some ((-9 : Int32), M) else f_X7_firstFitting_b9 (f_X7_firstFitting_b2 n2) FU v1 (0 : Int32) M)
def f_X7_firstFitting (M0 : Mem) : Option (Int32 × Mem) := f_X7_firstFitting_b2 FU (0 : Int32) M0
def f_X7_keepNexts_b2 : Nat → Int32 → Int32 → Mem → Option Mem
  | 0, _, _, _ => none
  | n2 + 1, v1, v2, M => (if (M.1 1 4) ≤ v2 then some M else (f_X8_dueNow v2 M).bind fun t3 => (stI M 33 288 ((v1 * (8 : Int32)) + v2) t3).bind fun M4 => (f_X7_keepNexts_b2 n2) v1 (v2 + (1 : Int32)) M4)
def f_X7_keepNexts (v1 : Int32) (M0 : Mem) : Option Mem := f_X7_keepNexts_b2 FU v1 (0 : Int32) M0
def f_X7_gatherNexts_b11 (k4 : Int32 → Int32 → Mem → Option (Int32 × Mem)) : Nat → Int32 → Int32 → Int32 → Mem → Option (Int32 × Mem)
  | 0, _, _, _, _ => none
  | n11 + 1, v1, v2, v3, M => (if (8 : Int32) < v3 then k4 v1 (v2 + (1 : Int32)) M else (f_X7_isAsTold v2 v3 M).bind fun pt4 => bp pt4 fun t4 M4 => (if t4 = 0 then (f_X7_gatherNexts_b11 k4 n11) v1 v2 (v3 + (1 : Int32)) M4 else (f_X8_totalBy v2 v3 M4).bind fun pt7 => bp pt7 fun t7 M7 => (f_X7_keepNexts v1 M7).bind fun M8 => (f_X7_gatherNexts_b11 k4 n11) (v1 + (1 : Int32)) v2 (v3 + (1 : Int32)) M8))
def f_X7_gatherNexts_b4 : Nat → Int32 → Int32 → Mem → Option (Int32 × Mem)
  | 0, _, _, _ => none
  | n4 + 1, v1, v2, M => (if (4 : Int32) ≤ v2 then some (v1, M) else f_X7_gatherNexts_b11 (f_X7_gatherNexts_b4 n4) FU v1 v2 (0 : Int32) M)
def f_X7_gatherNexts (M0 : Mem) : Option (Int32 × Mem) := f_X7_gatherNexts_b4 FU (0 : Int32) (0 : Int32) M0
def f_X7_isNewNext_b2 (M0 : Mem) : Nat → Int32 → Int32 → Int32 → Option Int32
  | 0, _, _, _ => none
  | n2 + 1, v1, v2, v3 => (if v2 ≤ v3 then some (1 : Int32) else (ldI M0 33 288 ((v3 * (8 : Int32)) + v1)).bind fun t2 => (ldI M0 33 288 ((v2 * (8 : Int32)) + v1)).bind fun t3 => (if t2 = t3 then some (0 : Int32) else (f_X7_isNewNext_b2 M0 n2) v1 v2 (v3 + (1 : Int32))))
def f_X7_isNewNext (v1 : Int32) (v2 : Int32) (M0 : Mem) : Option Int32 := f_X7_isNewNext_b2 M0 FU v1 v2 (0 : Int32)
def f_X7_unlikeNexts_b5 (M0 : Mem) : Nat → Int32 → Int32 → Int32 → Int32 → Option Int32
  | 0, _, _, _, _ => none
  | n5 + 1, v1, v2, v3, v4 => (if v2 ≤ v4 then some v3 else (f_X7_isNewNext v1 v4 M0).bind fun t3 => (if t3 = 0 then (f_X7_unlikeNexts_b5 M0 n5) v1 v2 v3 (v4 + (1 : Int32)) else (f_X7_unlikeNexts_b5 M0 n5) v1 v2 (v3 + (1 : Int32)) (v4 + (1 : Int32))))
def f_X7_unlikeNexts (v1 : Int32) (v2 : Int32) (M0 : Mem) : Option Int32 := f_X7_unlikeNexts_b5 M0 FU v1 v2 (0 : Int32) (0 : Int32)
def f_X7_mostTelling_b14 : Nat → Int32 → Int32 → Int32 → Int32 → Int32 → Mem → Option (Int32 × Mem)
  | 0, _, _, _, _, _, _ => none
  | n14 + 1, v1, v2, v3, v4, v5, M => (if (M.1 1 4) ≤ v5 then (if v1 = 0 then some (v3, M) else (if v3 = (-9 : Int32) then some (v3, M) else some (v4, M))) else (f_X7_unlikeNexts v5 v2 M).bind fun t6 => (if t6 ≤ v4 then (f_X7_mostTelling_b14 n14) v1 v2 v3 v4 (v5 + (1 : Int32)) M else (f_X7_mostTelling_b14 n14) v1 v2 v5 t6 (v5 + (1 : Int32)) M))
def f_X7_mostTelling (v1 : Int32) (M0 : Mem) : Option (Int32 × Mem) := (f_X7_gatherNexts M0).bind fun pt1 => bp pt1 fun t1 M1 => f_X7_mostTelling_b14 FU v1 t1 (-9 : Int32) (0 : Int32) (0 : Int32) M1
def f_X8_nextDue (v1 : Int32) (M0 : Mem) : Option (Int32 × Mem) := (f_X8_openBehindLog M0).bind fun M1 => (f_X8_dueNow v1 M1).bind fun t2 => some (t2, M1)
def f_X8_dearestNext_b7 (M0 : Mem) : Nat → Int32 → Int32 → Int32 → Option Int32
  | 0, _, _, _ => none
  | n7 + 1, v1, v2, v3 => (if (M0.1 1 4) ≤ v3 then some v1 else (f_X8_dueNow v3 M0).bind fun t3 => (if t3 ≤ v2 then (f_X8_dearestNext_b7 M0 n7) v1 v2 (v3 + (1 : Int32)) else (f_X8_dearestNext_b7 M0 n7) v3 t3 (v3 + (1 : Int32))))
def f_X8_dearestNext (M0 : Mem) : Option Int32 := f_X8_dearestNext_b7 M0 FU (-9 : Int32) (-1 : Int32) (0 : Int32)
def f_X9_add (v1 : Int32) (M0 : Mem) : Option (Int32 × Mem) := (if (12 : Int32) ≤ (M0.1 23 1) then some ((M0.1 23 1), M0) else (stI (wI M0 23 1 ((M0.1 23 1) + (1 : Int32))) 24 12 (M0.1 23 1) v1).bind fun M2 => some ((M2.1 23 1), M2))
def f_X9_firstNotIn_b2 (M0 : Mem) : Nat → Int32 → Option Int32
  | 0, _ => none
  | n2 + 1, v2 => (if (M0.1 23 1) ≤ v2 then some (-9 : Int32) else (if (f_X0_hasPlace 1 v2 M0) = 0 then some v2 else (ldI M0 5 12 v2).bind fun t3 => (ldI M0 24 12 v2).bind fun t4 => (if t3 = t4 then (f_X9_firstNotIn_b2 M0 n2) (v2 + (1 : Int32)) else some v2)))
def f_X9_firstNotIn (M0 : Mem) : Option Int32 := f_X9_firstNotIn_b2 M0 FU (0 : Int32)
def f_X10_forget (M0 : Mem) : Option Mem := some (wI M0 11 4 (0 : Int32))
def f_X10_dropOldest (M0 : Mem) : Option Mem := (cpI (wI M0 11 4 (7 : Int32)) 12 8 12 8 (1 : Int32) (0 : Int32) ((wI M0 11 4 (7 : Int32)).1 11 4)).bind fun M1 => (cpI M1 13 8 13 8 (1 : Int32) (0 : Int32) (M1.1 11 4)).bind fun M2 => (cpI M2 14 8 14 8 (1 : Int32) (0 : Int32) (M2.1 11 4)).bind fun M3 => (cpI M3 15 8 15 8 (1 : Int32) (0 : Int32) (M3.1 11 4)).bind fun M4 => some M4
def f_X10_keep_b13 (v1 : Int32) (v2 : Int32) (v3 : Int32) (v4 : Int32) (M : Mem) : Option Mem := (stI M 12 8 (M.1 11 4) v1).bind fun M3 => (stI M3 13 8 (M3.1 11 4) v2).bind fun M4 => (stI M4 14 8 (M4.1 11 4) v3).bind fun M5 => (stI M5 15 8 (M5.1 11 4) v4).bind fun M6 => some (wI M6 11 4 ((M6.1 11 4) + (1 : Int32)))
def f_X10_keep (v1 : Int32) (v2 : Int32) (v3 : Int32) (v4 : Int32) (M0 : Mem) : Option Mem := (if (M0.1 11 4) < (8 : Int32) then f_X10_keep_b13 v1 v2 v3 v4 M0 else (f_X10_dropOldest M0).bind fun M7 => f_X10_keep_b13 v1 v2 v3 v4 M7)
def f_X10_undoLatest (M0 : Mem) : Option (Int32 × Mem) := (if 0 < (M0.1 11 4) then (ldI (wI M0 11 4 ((M0.1 11 4) - (1 : Int32))) 12 8 ((wI M0 11 4 ((M0.1 11 4) - (1 : Int32))).1 11 4)).bind fun t2 => (if t2 = (0 : Int32) then some (((wI (wI M0 11 4 ((M0.1 11 4) - (1 : Int32))) 1 5 (mxI (0 : Int32) (((wI M0 11 4 ((M0.1 11 4) - (1 : Int32))).1 1 5) - (1 : Int32)))).1 11 4), (wI (wI M0 11 4 ((M0.1 11 4) - (1 : Int32))) 1 5 (mxI (0 : Int32) (((wI M0 11 4 ((M0.1 11 4) - (1 : Int32))).1 1 5) - (1 : Int32))))) else (if t2 = (1 : Int32) then (ldI (wI M0 11 4 ((M0.1 11 4) - (1 : Int32))) 13 8 ((wI M0 11 4 ((M0.1 11 4) - (1 : Int32))).1 11 4)).bind fun t5 => (ldI (wI M0 11 4 ((M0.1 11 4) - (1 : Int32))) 14 8 ((wI M0 11 4 ((M0.1 11 4) - (1 : Int32))).1 11 4)).bind fun t6 => (ldI (wI M0 11 4 ((M0.1 11 4) - (1 : Int32))) 15 8 ((wI M0 11 4 ((M0.1 11 4) - (1 : Int32))).1 11 4)).bind fun t7 => (f_X0_setKind 1 t5 t6 t7 (wI M0 11 4 ((M0.1 11 4) - (1 : Int32)))).bind fun M8 => some ((M8.1 11 4), M8) else (if t2 = (2 : Int32) then (ldI (wI M0 11 4 ((M0.1 11 4) - (1 : Int32))) 13 8 ((wI M0 11 4 ((M0.1 11 4) - (1 : Int32))).1 11 4)).bind fun t10 => (ldI (wI M0 11 4 ((M0.1 11 4) - (1 : Int32))) 14 8 ((wI M0 11 4 ((M0.1 11 4) - (1 : Int32))).1 11 4)).bind fun t11 => (f_X0_flipMark 1 t10 t11 (wI M0 11 4 ((M0.1 11 4) - (1 : Int32)))).bind fun M12 => some ((M12.1 11 4), M12) else (ldI (wI M0 11 4 ((M0.1 11 4) - (1 : Int32))) 14 8 ((wI M0 11 4 ((M0.1 11 4) - (1 : Int32))).1 11 4)).bind fun t13 => (ldI (wI M0 11 4 ((M0.1 11 4) - (1 : Int32))) 15 8 ((wI M0 11 4 ((M0.1 11 4) - (1 : Int32))).1 11 4)).bind fun t14 => (f_X0_setLaw 1 t13 t14 (wI M0 11 4 ((M0.1 11 4) - (1 : Int32)))).bind fun M15 => some ((M15.1 11 4), M15)))) else some ((0 : Int32), M0))
def f_X11_refuse (v1 : Int32) (M0 : Mem) : Option (Int32 × Mem) := (if (-v1) < 0 then some (v1, M0) else (if (nI 7) ≤ (-v1) then some (v1, M0) else (ldI M0 43 7 (-v1)).bind fun t3 => (stI M0 43 7 (-v1) (t3 + (1 : Int32))).bind fun M4 => some (v1, M4)))
def f_X11_feed (v1 : Int32) (M0 : Mem) : Option (Int32 × Mem) := (if 0 ≤ v1 then (if (255 : Int32) < v1 then (f_X11_refuse (-6 : Int32) M0).bind fun pt3 => bp pt3 fun t3 M3 => some (t3, M3) else (if (M0.1 16 2) < (96 : Int32) then (f_X1_add v1 M0).bind fun pt5 => bp pt5 fun t5 M5 => some (t5, M5) else (f_X11_refuse (-6 : Int32) M0).bind fun pt6 => bp pt6 fun t6 M6 => some (t6, M6))) else (f_X11_refuse (-4 : Int32) M0).bind fun pt7 => bp pt7 fun t7 M7 => some (t7, M7))
def f_X11_state (M0 : Mem) : Option (Int32 × Mem) := (f_X1_tell M0).bind fun pt1 => bp pt1 fun t1 M1 => (if t1 < 0 then some (t1, M1) else (f_X10_forget M1).bind fun M4 => some (t1, M4))
def f_X11_doingOf (v1 : Int32) (v2 : Int32) (M0 : Mem) : Option (Int32 × Mem) := (if (f_X0_hasDoing 1 v1 M0) = 0 then (f_X11_refuse (-1 : Int32) M0).bind fun pt9 => bp pt9 fun t9 M9 => some (t9, M9) else (if v2 = (0 : Int32) then (ldI M0 2 8 v1).bind fun t3 => some (t3, M0) else (if v2 = (1 : Int32) then (ldI M0 3 8 v1).bind fun t5 => some (t5, M0) else (if v2 = (2 : Int32) then (ldI M0 4 8 v1).bind fun t7 => some (t7, M0) else (f_X11_refuse (-2 : Int32) M0).bind fun pt8 => bp pt8 fun t8 M8 => some (t8, M8)))))
def f_X11_doing (v1 : Int32) (v2 : Int32) (v3 : Int32) (M0 : Mem) : Option (Int32 × Mem) := (if (f_X11_isKind v1) = 0 then (f_X11_refuse (-2 : Int32) M0).bind fun pt14 => bp pt14 fun t14 M14 => some (t14, M14) else (if v2 < 0 then (f_X11_refuse (-4 : Int32) M0).bind fun pt3 => bp pt3 fun t3 M3 => some (t3, M3) else (if 0 ≤ v3 then (if (9 : Int32) < v2 then (f_X11_refuse (-6 : Int32) M0).bind fun pt6 => bp pt6 fun t6 M6 => some (t6, M6) else (if (255 : Int32) < v3 then (f_X11_refuse (-6 : Int32) M0).bind fun pt8 => bp pt8 fun t8 M8 => some (t8, M8) else (if (f_X0_hasRoomForDoing 1 M0) = 0 then (f_X11_refuse (-6 : Int32) M0).bind fun pt12 => bp pt12 fun t12 M12 => some (t12, M12) else (f_X10_forget M0).bind fun M10 => (f_X0_addDoing 1 v1 v2 v3 M10).bind fun pt11 => bp pt11 fun t11 M11 => some (t11, M11)))) else (f_X11_refuse (-4 : Int32) M0).bind fun pt13 => bp pt13 fun t13 M13 => some (t13, M13))))
def f_X11_does (v1 : Int32) (M0 : Mem) : Option (Int32 × Mem) := (if (f_X0_hasDoing 1 v1 M0) = 0 then (f_X11_refuse (-1 : Int32) M0).bind fun pt7 => bp pt7 fun t7 M7 => some (t7, M7) else (if (f_X0_hasRoomForPlace 1 M0) = 0 then (f_X11_refuse (-6 : Int32) M0).bind fun pt6 => bp pt6 fun t6 M6 => some (t6, M6) else (f_X8_nextDue v1 M0).bind fun pt3 => bp pt3 fun t3 M3 => (f_X0_addPlace 1 v1 M3).bind fun M4 => (f_X10_keep (0 : Int32) v1 (0 : Int32) (0 : Int32) M4).bind fun M5 => some (t3, M5)))
def f_X11_empties (M0 : Mem) : Option (Int32 × Mem) := (f_X10_forget (wI M0 1 5 (0 : Int32))).bind fun M1 => some ((M0.1 1 5), M1)
def f_X11_turn (v1 : Int32) (v2 : Int32) (v3 : Int32) (M0 : Mem) : Option (Int32 × Mem) := (if (f_X0_hasDoing 1 v1 M0) = 0 then (f_X11_refuse (-1 : Int32) M0).bind fun pt12 => bp pt12 fun t12 M12 => some (t12, M12) else (if (f_X11_isKind v2) = 0 then (f_X11_refuse (-2 : Int32) M0).bind fun pt11 => bp pt11 fun t11 M11 => some (t11, M11) else (if 0 ≤ v3 then (if v3 ≤ (9 : Int32) then (ldI M0 2 8 v1).bind fun t5 => (ldI M0 3 8 v1).bind fun t6 => (f_X0_setKind 1 v1 v2 v3 M0).bind fun M7 => (f_X10_keep (1 : Int32) v1 t5 t6 M7).bind fun M8 => some ((((10 : Int32) * t5) + t6), M8) else (f_X11_refuse (-6 : Int32) M0).bind fun pt9 => bp pt9 fun t9 M9 => some (t9, M9)) else (f_X11_refuse (-4 : Int32) M0).bind fun pt10 => bp pt10 fun t10 M10 => some (t10, M10))))
def f_X11_marks (v1 : Int32) (v2 : Int32) (M0 : Mem) : Option (Int32 × Mem) := (if (f_X0_hasDoing 1 v1 M0) = 0 then (f_X11_refuse (-1 : Int32) M0).bind fun pt2 => bp pt2 fun t2 M2 => some (t2, M2) else (if (f_X11_isMark v2) = 0 then (f_X11_refuse (-1 : Int32) M0).bind fun pt7 => bp pt7 fun t7 M7 => some (t7, M7) else (f_X0_flipMark 1 v1 v2 M0).bind fun M4 => (f_X10_keep (2 : Int32) v1 v2 (0 : Int32) M4).bind fun M5 => (ldI M5 4 8 v1).bind fun t6 => some (((jshr t6 v2) &&& (1 : Int32)), M5)))
def f_X11_law (v1 : Int32) (v2 : Int32) (M0 : Mem) : Option (Int32 × Mem) := (if (f_X11_isType v1) = 0 then (f_X11_refuse (-2 : Int32) M0).bind fun pt8 => bp pt8 fun t8 M8 => some (t8, M8) else (if 0 ≤ v2 then (if v2 ≤ (8 : Int32) then (f_X0_setLaw 1 v1 v2 M0).bind fun M4 => (f_X10_keep (3 : Int32) (0 : Int32) (M0.1 1 6) (M0.1 1 7) M4).bind fun M5 => some ((((10 : Int32) * (M0.1 1 6)) + (M0.1 1 7)), M5) else (f_X11_refuse (-6 : Int32) M0).bind fun pt6 => bp pt6 fun t6 M6 => some (t6, M6)) else (f_X11_refuse (-4 : Int32) M0).bind fun pt7 => bp pt7 fun t7 M7 => some (t7, M7)))
def f_X11_back (M0 : Mem) : Option (Int32 × Mem) := (if 0 < (M0.1 11 4) then (f_X10_undoLatest M0).bind fun pt2 => bp pt2 fun t2 M2 => some (t2, M2) else (f_X11_refuse (-3 : Int32) M0).bind fun pt3 => bp pt3 fun t3 M3 => some (t3, M3))
def f_X11_same (v1 : Int32) (v2 : Int32) (M0 : Mem) : Option (Int32 × Mem) := (if (f_X0_hasDoing 1 v1 M0) = 0 then (f_X11_refuse (-1 : Int32) M0).bind fun pt2 => bp pt2 fun t2 M2 => some (t2, M2) else (if (f_X0_hasDoing 1 v2 M0) = 0 then (f_X11_refuse (-1 : Int32) M0).bind fun pt6 => bp pt6 fun t6 M6 => some (t6, M6) else (f_X0_areAlike 1 v1 v2 (M0.1 1 6) (M0.1 1 7) M0).bind fun t4 => (if t4 = 0 then some ((0 : Int32), M0) else some ((1 : Int32), M0))))
def f_X11_place (v1 : Int32) (v2 : Int32) (M0 : Mem) : Option (Int32 × Mem) := (if (f_X0_hasPlace 1 v1 M0) = 0 then (f_X11_refuse (-1 : Int32) M0).bind fun pt9 => bp pt9 fun t9 M9 => some (t9, M9) else (if v2 < 0 then (f_X11_refuse (-2 : Int32) M0).bind fun pt3 => bp pt3 fun t3 M3 => some (t3, M3) else (if v2 ≤ (2 : Int32) then (if v2 = 0 then (ldI M0 5 12 v1).bind fun t7 => some (t7, M0) else (f_X3_ofPlace v1 v2 M0).bind fun pt6 => bp pt6 fun t6 M6 => some (t6, M6)) else (f_X11_refuse (-2 : Int32) M0).bind fun pt8 => bp pt8 fun t8 M8 => some (t8, M8))))
def f_X11_allDue (M0 : Mem) : Option (Int32 × Mem) := (f_X3_total M0).bind fun pt1 => bp pt1 fun t1 M1 => some (t1, M1)
def f_X11_next (v1 : Int32) (M0 : Mem) : Option (Int32 × Mem) := (if (f_X0_hasDoing 1 v1 M0) = 0 then (f_X11_refuse (-1 : Int32) M0).bind fun pt3 => bp pt3 fun t3 M3 => some (t3, M3) else (f_X8_nextDue v1 M0).bind fun pt2 => bp pt2 fun t2 M2 => some (t2, M2))
def f_X11_isEither (v0 : Int32) : Int32 := (if v0 = 0 then (1 : Int32) else (if v0 = (1 : Int32) then (1 : Int32) else (0 : Int32)))
def f_X11_best (v1 : Int32) (M0 : Mem) : Option (Int32 × Mem) := (if (f_X11_isEither v1) = 0 then (f_X11_refuse (-2 : Int32) M0).bind fun pt6 => bp pt6 fun t6 M6 => some (t6, M6) else (f_X8_openBehindLog M0).bind fun M2 => (if v1 = 0 then (f_X8_cheapestNext M2).bind fun t5 => some (t5, M2) else (f_X8_dearestNext M2).bind fun t4 => some (t4, M2)))
def f_X11_charged (v1 : Int32) (M0 : Mem) : Option (Int32 × Mem) := (if 0 ≤ v1 then (if v1 ≤ (999 : Int32) then (f_X3_firstAbove v1 M0).bind fun pt3 => bp pt3 fun t3 M3 => some (t3, M3) else (f_X11_refuse (-6 : Int32) M0).bind fun pt4 => bp pt4 fun t4 M4 => some (t4, M4)) else (f_X11_refuse (-4 : Int32) M0).bind fun pt5 => bp pt5 fun t5 M5 => some (t5, M5))
def f_X11_order (v1 : Int32) (v2 : Int32) (M0 : Mem) : Option (Int32 × Mem) := (if v1 < 0 then (f_X11_refuse (-4 : Int32) M0).bind fun pt2 => bp pt2 fun t2 M2 => some (t2, M2) else (if (-1 : Int32) ≤ v2 then (if (jshr v1 (M0.1 1 4)) = 0 then (if (f_J6_bitCount_0f7a4 v1) ≤ (6 : Int32) then (f_X6_inOrder v1 v2 M0).bind fun pt6 => bp pt6 fun t6 M6 => some (t6, M6) else (f_X11_refuse (-3 : Int32) M0).bind fun pt7 => bp pt7 fun t7 M7 => some (t7, M7)) else (f_X11_refuse (-6 : Int32) M0).bind fun pt8 => bp pt8 fun t8 M8 => some (t8, M8)) else (f_X11_refuse (-4 : Int32) M0).bind fun pt9 => bp pt9 fun t9 M9 => some (t9, M9)))
def f_X11_unlike (M0 : Mem) : Option (Int32 × Mem) := (f_X2_mostApart M0).bind fun pt1 => bp pt1 fun t1 M1 => some (t1, M1)
def f_X11_people (M0 : Mem) : Option (Int32 × Mem) := (f_X2_fewestPeople M0).bind fun pt1 => bp pt1 fun t1 M1 => some (t1, M1)
def f_X11_like (v1 : Int32) (M0 : Mem) : Option (Int32 × Mem) := (if v1 < (-1 : Int32) then (f_X11_refuse (-1 : Int32) M0).bind fun pt2 => bp pt2 fun t2 M2 => some (t2, M2) else (if v1 < (M0.1 1 4) then (if 0 ≤ v1 then (f_X2_likesOf v1 M0).bind fun pt5 => bp pt5 fun t5 M5 => some (t5, M5) else (f_X2_withMostLikes M0).bind fun pt6 => bp pt6 fun t6 M6 => some (t6, M6)) else (f_X11_refuse (-1 : Int32) M0).bind fun pt7 => bp pt7 fun t7 M7 => some (t7, M7)))
def f_X11_reading (v1 : Int32) (M0 : Mem) : Option (Int32 × Mem) := (if (f_X11_isEither v1) = 0 then (f_X11_refuse (-2 : Int32) M0).bind fun pt3 => bp pt3 fun t3 M3 => some (t3, M3) else (f_X7_mildest v1 M0).bind fun pt2 => bp pt2 fun t2 M2 => some (t2, M2))
def f_X11_fits (v1 : Int32) (M0 : Mem) : Option (Int32 × Mem) := (if (f_X11_isEither v1) = 0 then (f_X11_refuse (-2 : Int32) M0).bind fun pt7 => bp pt7 fun t7 M7 => some (t7, M7) else (if (M0.1 23 1) ≤ (M0.1 1 5) then (if v1 = 0 then (f_X7_howManyFit M0).bind fun pt5 => bp pt5 fun t5 M5 => some (t5, M5) else (f_X7_firstFitting M0).bind fun pt4 => bp pt4 fun t4 M4 => some (t4, M4)) else (f_X11_refuse (-3 : Int32) M0).bind fun pt6 => bp pt6 fun t6 M6 => some (t6, M6)))
def f_X11_tellsMost (v1 : Int32) (M0 : Mem) : Option (Int32 × Mem) := (if (f_X11_isEither v1) = 0 then (f_X11_refuse (-2 : Int32) M0).bind fun pt5 => bp pt5 fun t5 M5 => some (t5, M5) else (if (M0.1 23 1) ≤ (M0.1 1 5) then (f_X7_mostTelling v1 M0).bind fun pt3 => bp pt3 fun t3 M3 => some (t3, M3) else (f_X11_refuse (-3 : Int32) M0).bind fun pt4 => bp pt4 fun t4 M4 => some (t4, M4)))
def f_X11_loophole (M0 : Mem) : Option (Int32 × Mem) := (f_X5_bestFlip M0).bind fun pt1 => bp pt1 fun t1 M1 => some (t1, M1)
def f_X11_shared (v1 : Int32) (M0 : Mem) : Option (Int32 × Mem) := (if (f_X11_isEither v1) = 0 then (f_X11_refuse (-2 : Int32) M0).bind fun pt3 => bp pt3 fun t3 M3 => some (t3, M3) else (f_X3_splitInTwo v1 M0).bind fun pt2 => bp pt2 fun t2 M2 => some (t2, M2))
def f_X11_saves (v1 : Int32) (M0 : Mem) : Option (Int32 × Mem) := (if v1 < (-1 : Int32) then (f_X11_refuse (-1 : Int32) M0).bind fun pt2 => bp pt2 fun t2 M2 => some (t2, M2) else (if v1 < (M0.1 1 5) then (if 0 ≤ v1 then (f_X3_savingOf v1 M0).bind fun pt5 => bp pt5 fun t5 M5 => some (t5, M5) else (f_X3_bestSaving M0).bind fun pt6 => bp pt6 fun t6 M6 => some (t6, M6)) else (f_X11_refuse (-1 : Int32) M0).bind fun pt7 => bp pt7 fun t7 M7 => some (t7, M7)))
def f_X11_turned (M0 : Mem) : Option (Int32 × Mem) := (f_X3_totalFromBehind M0).bind fun pt1 => bp pt1 fun t1 M1 => some (t1, M1)
def f_X11_changed (M0 : Mem) : Option (Int32 × Mem) := (f_X3_bestExchange M0).bind fun pt1 => bp pt1 fun t1 M1 => some (t1, M1)
def f_X11_wants (v1 : Int32) (v2 : Int32) (M0 : Mem) : Option (Int32 × Mem) := (if 0 ≤ v1 then (if v1 ≤ (255 : Int32) then (if v2 < 0 then (f_X11_refuse (-2 : Int32) M0).bind fun pt4 => bp pt4 fun t4 M4 => some (t4, M4) else (if v2 ≤ (2 : Int32) then (f_X5_covering v1 v2 M0).bind fun pt6 => bp pt6 fun t6 M6 => some (t6, M6) else (f_X11_refuse (-2 : Int32) M0).bind fun pt7 => bp pt7 fun t7 M7 => some (t7, M7))) else (f_X11_refuse (-6 : Int32) M0).bind fun pt8 => bp pt8 fun t8 M8 => some (t8, M8)) else (f_X11_refuse (-4 : Int32) M0).bind fun pt9 => bp pt9 fun t9 M9 => some (t9, M9))
def f_X11_refuseLong (v1 : Int32) (M0 : Mem) : Option (Int64 × Mem) := (f_X11_refuse v1 M0).bind fun pt1 => bp pt1 fun t1 M1 => some (((4000000000000000000 : Int64) - (t1).toInt64), M1)
def f_X11_songs (v1 : Int32) (v2 : Int32) (M0 : Mem) : Option (Int64 × Mem) := (if v1 < 0 then (f_X11_refuseLong (-4 : Int32) M0).bind fun pt2 => bp pt2 fun t2 M2 => some (t2, M2) else (if 0 ≤ v2 then (if (8 : Int32) < v1 then (f_X11_refuseLong (-6 : Int32) M0).bind fun pt5 => bp pt5 fun t5 M5 => some (t5, M5) else (if v2 ≤ (2 : Int32) then (f_X2_songRows v1 v2 M0).bind fun pt7 => bp pt7 fun t7 M7 => some (t7, M7) else (f_X11_refuseLong (-6 : Int32) M0).bind fun pt8 => bp pt8 fun t8 M8 => some (t8, M8))) else (f_X11_refuseLong (-4 : Int32) M0).bind fun pt9 => bp pt9 fun t9 M9 => some (t9, M9)))
def f_X11_inspectors (v1 : Int32) (M0 : Mem) : Option (Int32 × Mem) := (if (1 : Int32) ≤ v1 then (if v1 ≤ (9 : Int32) then (f_X2_firstCaught v1 M0).bind fun pt3 => bp pt3 fun t3 M3 => some (t3, M3) else (f_X11_refuse (-6 : Int32) M0).bind fun pt4 => bp pt4 fun t4 M4 => some (t4, M4)) else (f_X11_refuse (-4 : Int32) M0).bind fun pt5 => bp pt5 fun t5 M5 => some (t5, M5))
def f_X11_chance (v1 : Int32) (v2 : Int32) (M0 : Mem) : Option (Int64 × Mem) := (if 0 ≤ v1 then (if v1 ≤ (5 : Int32) then (if (f_X11_isEither v2) = 0 then (f_X11_refuseLong (-2 : Int32) M0).bind fun pt5 => bp pt5 fun t5 M5 => some (t5, M5) else (f_X4_nothingDue v1 v2 M0).bind fun pt4 => bp pt4 fun t4 M4 => some (t4, M4)) else (f_X11_refuseLong (-6 : Int32) M0).bind fun pt6 => bp pt6 fun t6 M6 => some (t6, M6)) else (f_X11_refuseLong (-4 : Int32) M0).bind fun pt7 => bp pt7 fun t7 M7 => some (t7, M7))
def f_X11_mean (v1 : Int32) (M0 : Mem) : Option (Int64 × Mem) := (if (f_X11_isEither v1) = 0 then (f_X11_refuseLong (-2 : Int32) M0).bind fun pt3 => bp pt3 fun t3 M3 => some (t3, M3) else (f_X4_meanNext v1 M0).bind fun pt2 => bp pt2 fun t2 M2 => some (t2, M2))
def f_X11_twins (v1 : Int32) (M0 : Mem) : Option (Int32 × Mem) := (if (f_X11_isEither v1) = 0 then (f_X11_refuse (-2 : Int32) M0).bind fun pt3 => bp pt3 fun t3 M3 => some (t3, M3) else (f_X5_closestTwo v1 M0).bind fun t2 => some (t2, M0))
def f_X11_chain (v1 : Int32) (v2 : Int32) (M0 : Mem) : Option (Int32 × Mem) := (if (f_X0_hasDoing 1 v1 M0) = 0 then (f_X11_refuse (-1 : Int32) M0).bind fun pt2 => bp pt2 fun t2 M2 => some (t2, M2) else (if (f_X0_hasDoing 1 v2 M0) = 0 then (f_X11_refuse (-1 : Int32) M0).bind fun pt5 => bp pt5 fun t5 M5 => some (t5, M5) else (f_X2_shortestChain v1 v2 M0).bind fun pt4 => bp pt4 fun t4 M4 => some (t4, M4)))
def f_X11_heaps (v1 : Int32) (M0 : Mem) : Option (Int32 × Mem) := (if (f_X11_isEither v1) = 0 then (f_X11_refuse (-2 : Int32) M0).bind fun pt3 => bp pt3 fun t3 M3 => some (t3, M3) else (f_X2_allHeaps v1 M0).bind fun pt2 => bp pt2 fun t2 M2 => some (t2, M2))
def f_X11_pure (v1 : Int32) (M0 : Mem) : Option (Int32 × Mem) := (if (f_X11_isEither v1) = 0 then (f_X11_refuse (-2 : Int32) M0).bind fun pt3 => bp pt3 fun t3 M3 => some (t3, M3) else (f_X3_longestPure v1 M0).bind fun pt2 => bp pt2 fun t2 M2 => some (t2, M2))
def f_X11_bestT (M0 : Mem) : Option (Int32 × Mem) := (f_X7_mildestT M0).bind fun pt1 => bp pt1 fun t1 M1 => some (t1, M1)
def f_X11_margin (v1 : Int32) (v2 : Int32) (M0 : Mem) : Option (Int32 × Mem) := (if (f_X0_hasDoing 1 v1 M0) = 0 then (f_X11_refuse (-1 : Int32) M0).bind fun pt7 => bp pt7 fun t7 M7 => some (t7, M7) else (if 0 ≤ v2 then (if v2 ≤ (999 : Int32) then (f_X6_timesMore v1 v2 M0).bind fun pt4 => bp pt4 fun t4 M4 => some (t4, M4) else (f_X11_refuse (-6 : Int32) M0).bind fun pt5 => bp pt5 fun t5 M5 => some (t5, M5)) else (f_X11_refuse (-4 : Int32) M0).bind fun pt6 => bp pt6 fun t6 M6 => some (t6, M6)))
def f_X11_firsts (M0 : Mem) : Option (Int32 × Mem) := (f_X3_withoutRepeats M0).bind fun pt1 => bp pt1 fun t1 M1 => some (t1, M1)
def f_X11_greedily (v1 : Int32) (v2 : Int32) (M0 : Mem) : Option (Int32 × Mem) := (if 0 ≤ v1 then (if v1 ≤ (12 : Int32) then (if (f_X11_isEither v2) = 0 then (f_X11_refuse (-2 : Int32) M0).bind fun pt5 => bp pt5 fun t5 M5 => some (t5, M5) else (f_X6_cheapestSteps v1 v2 M0).bind fun pt4 => bp pt4 fun t4 M4 => some (t4, M4)) else (f_X11_refuse (-6 : Int32) M0).bind fun pt6 => bp pt6 fun t6 M6 => some (t6, M6)) else (f_X11_refuse (-4 : Int32) M0).bind fun pt7 => bp pt7 fun t7 M7 => some (t7, M7))
def f_X11_pair (v1 : Int32) (v2 : Int32) (M0 : Mem) : Option (Int32 × Mem) := (if 0 ≤ v1 then (if v1 ≤ (6 : Int32) then (if (f_X11_isEither v2) = 0 then (f_X11_refuse (-2 : Int32) M0).bind fun pt5 => bp pt5 fun t5 M5 => some (t5, M5) else (f_X6_cheapestTwo v1 v2 M0).bind fun pt4 => bp pt4 fun t4 M4 => some (t4, M4)) else (f_X11_refuse (-6 : Int32) M0).bind fun pt6 => bp pt6 fun t6 M6 => some (t6, M6)) else (f_X11_refuse (-4 : Int32) M0).bind fun pt7 => bp pt7 fun t7 M7 => some (t7, M7))
def f_X11_quota (v1 : Int32) (M0 : Mem) : Option (Int32 × Mem) := (if 0 ≤ v1 then (if v1 ≤ (999 : Int32) then (f_X6_stepsWithin v1 M0).bind fun pt3 => bp pt3 fun t3 M3 => some (t3, M3) else (f_X11_refuse (-6 : Int32) M0).bind fun pt4 => bp pt4 fun t4 M4 => some (t4, M4)) else (f_X11_refuse (-4 : Int32) M0).bind fun pt5 => bp pt5 fun t5 M5 => some (t5, M5))
def f_X11_radius (v1 : Int32) (M0 : Mem) : Option (Int32 × Mem) := (if (f_X11_isEither v1) = 0 then (f_X11_refuse (-2 : Int32) M0).bind fun pt5 => bp pt5 fun t5 M5 => some (t5, M5) else (if v1 = 0 then (f_X5_farthestTwo M0).bind fun t4 => some (t4, M0) else (f_X5_centre M0).bind fun t3 => some (t3, M0)))
def f_X11_majority (M0 : Mem) : Option Int32 := (f_X5_mostlyHad M0).bind fun t1 => some t1
def f_X11_byKind (v1 : Int32) (M0 : Mem) : Option (Int32 × Mem) := (if v1 < (-1 : Int32) then (f_X11_refuse (-2 : Int32) M0).bind fun pt2 => bp pt2 fun t2 M2 => some (t2, M2) else (if v1 < (6 : Int32) then (if 0 ≤ v1 then (f_X3_totalOfKind v1 M0).bind fun pt5 => bp pt5 fun t5 M5 => some (t5, M5) else (f_X3_dearestKind M0).bind fun pt6 => bp pt6 fun t6 M6 => some (t6, M6)) else (f_X11_refuse (-2 : Int32) M0).bind fun pt7 => bp pt7 fun t7 M7 => some (t7, M7)))
def f_X11_banned (v1 : Int32) (M0 : Mem) : Option (Int32 × Mem) := (if (f_X11_isEither v1) = 0 then (f_X11_refuse (-2 : Int32) M0).bind fun pt3 => bp pt3 fun t3 M3 => some (t3, M3) else (f_X3_bestBan v1 M0).bind fun pt2 => bp pt2 fun t2 M2 => some (t2, M2))
def f_X11_moved (v1 : Int32) (M0 : Mem) : Option (Int32 × Mem) := (if v1 < (-1 : Int32) then (f_X11_refuse (-1 : Int32) M0).bind fun pt2 => bp pt2 fun t2 M2 => some (t2, M2) else (if v1 < (M0.1 1 5) then (if 0 ≤ v1 then (f_X3_totalMoved v1 M0).bind fun pt5 => bp pt5 fun t5 M5 => some (t5, M5) else (f_X3_bestMove M0).bind fun pt6 => bp pt6 fun t6 M6 => some (t6, M6)) else (f_X11_refuse (-1 : Int32) M0).bind fun pt7 => bp pt7 fun t7 M7 => some (t7, M7)))
def f_X11_unlikeMarks (M0 : Mem) : Option Int32 := (f_X5_unlikeSets M0).bind fun t1 => some t1
def f_X11_streak (M0 : Mem) : Option (Int32 × Mem) := (f_X3_longestStreak M0).bind fun pt1 => bp pt1 fun t1 M1 => some (t1, M1)
def f_X11_row (v1 : Int32) (M0 : Mem) : Option (Int32 × Mem) := (if 0 ≤ v1 then (if (99 : Int32) < v1 then (f_X11_refuse (-6 : Int32) M0).bind fun pt3 => bp pt3 fun t3 M3 => some (t3, M3) else (if (M0.1 23 1) < (12 : Int32) then (f_X9_add v1 M0).bind fun pt5 => bp pt5 fun t5 M5 => some (t5, M5) else (f_X11_refuse (-6 : Int32) M0).bind fun pt6 => bp pt6 fun t6 M6 => some (t6, M6))) else (f_X11_refuse (-4 : Int32) M0).bind fun pt7 => bp pt7 fun t7 M7 => some (t7, M7))
def f_X11_judge (M0 : Mem) : Option (Int32 × Mem) := (f_X9_firstNotIn M0).bind fun t1 => some (t1, (wI M0 23 1 (0 : Int32)))
def f_X11_clear (M0 : Mem) : Option (Int32 × Mem) := some ((M0.1 23 1), (wI M0 23 1 (0 : Int32)))
def f_X11_lots (v1 : Int32) (v2 : Int32) (v3 : Int32) (M0 : Mem) : Option (Int32 × Mem) := (if (1 : Int32) ≤ v1 then (if v1 ≤ (20 : Int32) then (if (f_X11_isEither v3) = 0 then (f_X11_refuse (-2 : Int32) M0).bind fun pt5 => bp pt5 fun t5 M5 => some (t5, M5) else (f_X4_weeks v1 v2 v3 M0).bind fun pt4 => bp pt4 fun t4 M4 => some (t4, M4)) else (f_X11_refuse (-6 : Int32) M0).bind fun pt6 => bp pt6 fun t6 M6 => some (t6, M6)) else (f_X11_refuse (-4 : Int32) M0).bind fun pt7 => bp pt7 fun t7 M7 => some (t7, M7))
def f_X11_image (M0 : Mem) : Option (Int32 × Mem) := (f_X0_become 6 1 M0).bind fun M1 => some (((wI M1 0 2 (1 : Int32)).1 1 5), (wI M1 0 2 (1 : Int32)))
def f_X11_restore (M0 : Mem) : Option (Int32 × Mem) := (if (M0.1 0 2) = 0 then (f_X11_refuse (-3 : Int32) M0).bind fun pt4 => bp pt4 fun t4 M4 => some (t4, M4) else (f_X0_become 1 6 M0).bind fun M2 => (f_X10_forget M2).bind fun M3 => some ((M3.1 1 5), M3))
def f_X11_countRefused (v1 : Int32) (M0 : Mem) : Option Int32 := (if v1 < (1 : Int32) then some (-9 : Int32) else (if (nI 7) ≤ v1 then some (-9 : Int32) else (ldI M0 43 7 v1).bind fun t3 => some t3))
def f_X11_count (v1 : Int32) (M0 : Mem) : Option (Int32 × Mem) := (if v1 = (0 : Int32) then some ((M0.1 1 4), M0) else (if v1 = (1 : Int32) then some ((M0.1 1 5), M0) else (if v1 = (2 : Int32) then some ((M0.1 1 6), M0) else (if v1 = (3 : Int32) then some ((M0.1 1 7), M0) else (if v1 = (4 : Int32) then (f_X3_total M0).bind fun pt6 => bp pt6 fun t6 M6 => some (t6, M6) else (if v1 = (5 : Int32) then (f_X5_allCounted M0).bind fun t8 => some (t8, M0) else (if v1 = (6 : Int32) then some ((M0.1 16 2), M0) else (if v1 = (7 : Int32) then some ((M0.1 23 1), M0) else (if v1 = (8 : Int32) then some ((M0.1 11 4), M0) else (f_X11_countRefused (v1 - (10 : Int32)) M0).bind fun t12 => some (t12, M0))))))))))
def f_X12_no (v1 : Int32) (M0 : Mem) : Option (Int32 × Mem) := (ldI M0 1 7 (-v1)).bind fun t1 => (stI M0 1 7 (-v1) (t1 + (1 : Int32))).bind fun M2 => some (v1, M2)
def f_X12_lowest (v1 : Int32) (M0 : Mem) : Option (Int64 × Mem) := (ldI M0 1 7 (-v1)).bind fun t1 => (stI M0 1 7 (-v1) (t1 + (1 : Int32))).bind fun M2 => some (((4000000000000000000 : Int64) - (v1).toInt64), M2)
def f_X12_isIn (v0 : Int32) (v1 : Int32) (v2 : Int32) : Int32 := (if v0 < v1 then (0 : Int32) else (if v2 < v0 then (0 : Int32) else (1 : Int32)))
def f_X12_bound (v0 : Int32) (v1 : Int32) (v2 : Int32) : Int32 := (if v1 ≤ v0 then (if v0 ≤ v2 then (0 : Int32) else (-6 : Int32)) else (-4 : Int32))
def f_X12_has (v0 : Int32) (v1 : Int32) : Int32 := (if ((jshr v0 v1) &&& (1 : Int32)) = (1 : Int32) then (1 : Int32) else (0 : Int32))
def f_X12_bits_b4 : Nat → Int32 → Int32 → Int32 → Option Int32
  | 0, _, _, _ => none
  | n4 + 1, v0, v1, v2 => (if (31 : Int32) ≤ v2 then some v1 else (f_X12_bits_b4 n4) v0 (v1 + ((jshr v0 v2) &&& (1 : Int32))) (v2 + (1 : Int32)))
def f_X12_bits (v0 : Int32) : Option Int32 := f_X12_bits_b4 FU v0 (0 : Int32) (0 : Int32)
def f_X12_isDoing (v1 : Int32) (M0 : Mem) : Int32 := (if v1 < 0 then (0 : Int32) else (if (M0.1 0 5) ≤ v1 then (0 : Int32) else (1 : Int32)))
def f_X12_isMark (v0 : Int32) : Int32 := (if v0 < 0 then (0 : Int32) else (if (8 : Int32) ≤ v0 then (0 : Int32) else (1 : Int32)))
def f_X12_feed_b25 (v1 : Int32) (v2 : Int32) (M : Mem) : Option (Int32 × Mem) := (if v2 = 0 then (stI M 6 96 (M.1 0 13) v1).bind fun M3 => some (((wI M3 0 13 ((M3.1 0 13) + (1 : Int32))).1 0 13), (wI M3 0 13 ((M3.1 0 13) + (1 : Int32)))) else (f_X12_no v2 M).bind fun pt4 => bp pt4 fun t4 M4 => some (t4, M4))
def f_X12_feed (v1 : Int32) (M0 : Mem) : Option (Int32 × Mem) := (if (f_X12_bound v1 (0 : Int32) (255 : Int32)) = 0 then (if (M0.1 0 13) = (96 : Int32) then f_X12_feed_b25 v1 (-6 : Int32) M0 else f_X12_feed_b25 v1 (f_X12_bound v1 (0 : Int32) (255 : Int32)) M0) else f_X12_feed_b25 v1 (f_X12_bound v1 (0 : Int32) (255 : Int32)) M0)
def f_X12_peeked (M0 : Mem) : Option Int32 := (if (M0.1 0 13) ≤ (M0.1 0 14) then some (-1 : Int32) else (ldI M0 6 96 (M0.1 0 14)).bind fun t2 => some t2)
def f_X12_readsDigits_b5 : Nat → Int32 → Int32 → Int32 → Int32 → Mem → Option (Int32 × Mem)
  | 0, _, _, _, _, _ => none
  | n5 + 1, v1, v2, v3, v4, M => (if v2 ≤ v4 then (stI M 9 144 v1 v3).bind fun M2 => some ((1 : Int32), M2) else (f_X12_peeked M).bind fun t3 => (if (f_X12_isIn t3 (48 : Int32) (57 : Int32)) = 0 then some ((0 : Int32), M) else (f_X12_peeked M).bind fun t5 => (f_X12_readsDigits_b5 n5) v1 v2 ((((10 : Int32) * v3) + t5) - (48 : Int32)) (v4 + (1 : Int32)) (wI M 0 14 ((M.1 0 14) + (1 : Int32)))))
def f_X12_readsDigits (v1 : Int32) (v2 : Int32) (M0 : Mem) : Option (Int32 × Mem) := f_X12_readsDigits_b5 FU v1 v2 (0 : Int32) (0 : Int32) M0
def f_X12_readsAll (v1 : Int32) (v2 : Int32) (M0 : Mem) : Option (Int32 × Mem) := (if v1 = (100 : Int32) then (f_X12_readsDigits v2 (1 : Int32) M0).bind fun pt2 => bp pt2 fun t2 M2 => (if t2 = 0 then some ((0 : Int32), M2) else (f_X12_readsDigits (v2 + (1 : Int32)) (1 : Int32) M2).bind fun pt4 => bp pt4 fun t4 M4 => (if t4 = 0 then some ((0 : Int32), M4) else (f_X12_readsDigits (v2 + (2 : Int32)) (3 : Int32) M4).bind fun pt6 => bp pt6 fun t6 M6 => (if t6 = 0 then some ((0 : Int32), M6) else some ((1 : Int32), M6)))) else (if v1 = (111 : Int32) then (f_X12_readsDigits v2 (1 : Int32) M0).bind fun pt9 => bp pt9 fun t9 M9 => (gZ t9).bind fun t10 => some (t10, M9) else (if v1 = (120 : Int32) then some ((1 : Int32), M0) else (f_X12_readsDigits v2 (1 : Int32) M0).bind fun pt12 => bp pt12 fun t12 M12 => (if t12 = 0 then some ((0 : Int32), M12) else (f_X12_readsDigits (v2 + (1 : Int32)) (1 : Int32) M12).bind fun pt14 => bp pt14 fun t14 M14 => (if t14 = 0 then some ((0 : Int32), M14) else some ((1 : Int32), M14))))))
def f_X12_statement_b37 (v1 : Int32) (M : Mem) : Option (Int32 × Mem) := (stI M 7 48 (M.1 0 15) v1).bind fun M3 => (stI M3 8 48 (M3.1 0 15) (M3.1 0 14)).bind fun M4 => (f_X12_readsAll v1 ((3 : Int32) * ((wI M4 0 14 ((M4.1 0 14) + (1 : Int32))).1 0 15)) (wI M4 0 14 ((M4.1 0 14) + (1 : Int32)))).bind fun pt5 => bp pt5 fun t5 M5 => (if t5 = 0 then some ((0 : Int32), M5) else (f_X12_peeked M5).bind fun t7 => (if t7 = (59 : Int32) then some ((1 : Int32), (wI M5 0 14 ((M5.1 0 14) + (1 : Int32)))) else some ((0 : Int32), M5)))
def f_X12_statement (M0 : Mem) : Option (Int32 × Mem) := (f_X12_peeked M0).bind fun t1 => (if t1 = (100 : Int32) then f_X12_statement_b37 t1 M0 else (if t1 = (111 : Int32) then f_X12_statement_b37 t1 M0 else (if t1 = (108 : Int32) then f_X12_statement_b37 t1 M0 else (if t1 = (109 : Int32) then f_X12_statement_b37 t1 M0 else (if t1 = (120 : Int32) then f_X12_statement_b37 t1 M0 else some ((0 : Int32), M0))))))
def f_X12_adds (v1 : Int32) (v2 : Int32) (v3 : Int32) (M0 : Mem) : Option Mem := (stI M0 2 8 (M0.1 0 5) v1).bind fun M1 => (stI M1 3 8 (M1.1 0 5) v2).bind fun M2 => (stI M2 4 8 (M2.1 0 5) v3).bind fun M3 => some (wI M3 0 5 ((M3.1 0 5) + (1 : Int32)))
def f_X12_comes (v1 : Int32) (M0 : Mem) : Option (Int32 × Mem) := (ldI M0 9 144 ((3 : Int32) * v1)).bind fun t1 => (ldI M0 9 144 (((3 : Int32) * v1) + (1 : Int32))).bind fun t2 => (ldI M0 7 48 v1).bind fun t3 => (if t3 = (100 : Int32) then (if (5 : Int32) < t1 then some ((0 : Int32), M0) else (ldI M0 9 144 (((3 : Int32) * v1) + (2 : Int32))).bind fun t6 => (if (255 : Int32) < t6 then some ((0 : Int32), M0) else (if (M0.1 0 5) = (8 : Int32) then some ((0 : Int32), M0) else (ldI M0 9 144 (((3 : Int32) * v1) + (2 : Int32))).bind fun t9 => (f_X12_adds t1 t2 t9 M0).bind fun M10 => some ((1 : Int32), M10)))) else (if t3 = (108 : Int32) then (if (4 : Int32) ≤ t1 then some ((0 : Int32), (wI (wI M0 0 7 t1) 0 8 t2)) else (if (8 : Int32) < t2 then some ((0 : Int32), (wI (wI M0 0 7 t1) 0 8 t2)) else some ((1 : Int32), (wI (wI M0 0 7 t1) 0 8 t2)))) else (if t3 = (109 : Int32) then (if (f_X12_isDoing t1 M0) = 0 then some ((0 : Int32), M0) else (if (f_X12_isMark t2) = 0 then some ((0 : Int32), M0) else (ldI M0 4 8 t1).bind fun t17 => (stI M0 4 8 t1 (t17 ^^^ (jshl (1 : Int32) t2))).bind fun M18 => some ((1 : Int32), M18))) else (if t3 = (111 : Int32) then (if (f_X12_isDoing t1 M0) = 0 then some ((0 : Int32), M0) else (if (M0.1 0 6) = (12 : Int32) then some ((0 : Int32), M0) else (stI M0 5 12 (M0.1 0 6) t1).bind fun M22 => some ((1 : Int32), (wI M22 0 6 ((M22.1 0 6) + (1 : Int32)))))) else some ((1 : Int32), (wI M0 0 6 (0 : Int32)))))))
def f_X12_passes_b2 (q : Nat) (n : Nat) : Nat → Int32 → Mem → Option Mem
  | 0, _, _ => none
  | n2 + 1, v2, M => (if (nI n) ≤ v2 then some M else (if (M.1 0 18) = 0 then (ldI M 10 480 (M.1 0 19)).bind fun t3 => (stI M q n v2 t3).bind fun M4 => (f_X12_passes_b2 q n n2) (v2 + (1 : Int32)) (wI M4 0 19 ((M4.1 0 19) + (1 : Int32))) else (ldI M q n v2).bind fun t5 => (stI M 10 480 (M.1 0 19) t5).bind fun M6 => (f_X12_passes_b2 q n n2) (v2 + (1 : Int32)) (wI M6 0 19 ((M6.1 0 19) + (1 : Int32)))))
def f_X12_passes (q : Nat) (n : Nat) (M0 : Mem) : Option Mem := f_X12_passes_b2 q n FU (0 : Int32) M0
def f_X12_passOne_b20 (v1 : Int32) (s0 : Int32) (M : Mem) : Option (Int32 × Mem) := (if (M.1 0 18) = 0 then some (s0, (wI M 0 19 ((M.1 0 19) + (1 : Int32)))) else (stI M 10 480 (M.1 0 19) v1).bind fun M4 => some (s0, (wI M4 0 19 ((M4.1 0 19) + (1 : Int32)))))
def f_X12_passOne (v1 : Int32) (M0 : Mem) : Option (Int32 × Mem) := (if (M0.1 0 18) = 0 then (ldI M0 10 480 (M0.1 0 19)).bind fun t2 => f_X12_passOne_b20 v1 t2 M0 else f_X12_passOne_b20 v1 v1 M0)
def f_X12_passesAll (v1 : Int32) (v2 : Int32) (M0 : Mem) : Option Mem := (gZ v2).bind fun t1 => (f_X12_passes 2 8 (wI (wI M0 0 19 ((40 : Int32) * v1)) 0 18 t1)).bind fun M2 => (f_X12_passes 3 8 M2).bind fun M3 => (f_X12_passes 4 8 M3).bind fun M4 => (f_X12_passes 5 12 M4).bind fun M5 => (f_X12_passOne (M5.1 0 5) M5).bind fun pt6 => bp pt6 fun t6 M6 => (f_X12_passOne ((wI M6 0 5 t6).1 0 6) (wI M6 0 5 t6)).bind fun pt7 => bp pt7 fun t7 M7 => (f_X12_passOne ((wI M7 0 6 t7).1 0 7) (wI M7 0 6 t7)).bind fun pt8 => bp pt8 fun t8 M8 => (f_X12_passOne ((wI M8 0 7 t8).1 0 8) (wI M8 0 7 t8)).bind fun pt9 => bp pt9 fun t9 M9 => some (wI M9 0 8 t9)
def f_X12_state_b86 : Nat → Int32 → Mem → Option (Int32 × Mem)
  | 0, _, _ => none
  | n86 + 1, v2, M => (if (M.1 0 15) ≤ v2 then some (((wI M 0 20 (0 : Int32)).1 0 15), (wI M 0 20 (0 : Int32))) else (f_X12_comes v2 M).bind fun pt6 => bp pt6 fun t6 M6 => (if t6 = 0 then (f_X12_passesAll (1 : Int32) (0 : Int32) M6).bind fun M8 => (ldI M8 8 48 v2).bind fun t9 => some (((-2000 : Int32) - t9), M8) else (f_X12_state_b86 n86) (v2 + (1 : Int32)) M6))
def f_X12_state_b60 (v1 : Int32) (M : Mem) : Option (Int32 × Mem) := (if v1 = 0 then some (((-1000 : Int32) - ((wI M 0 13 (0 : Int32)).1 0 14)), (wI M 0 13 (0 : Int32))) else (f_X12_passesAll (1 : Int32) (1 : Int32) (wI M 0 13 (0 : Int32))).bind fun M4 => f_X12_state_b86 FU (0 : Int32) M4)
def f_X12_state_b34 (k12 : Int32 → Mem → Option (Int32 × Mem)) (M : Mem) : Option (Int32 × Mem) := (f_X12_statement M).bind fun pt12 => bp pt12 fun t12 M12 => k12 t12 (wI M12 0 15 ((M12.1 0 15) + (if t12 = 0 then (0 : Int32) else (1 : Int32))))
def f_X12_state_b12 : Nat → Int32 → Mem → Option (Int32 × Mem)
  | 0, _, _ => none
  | n12 + 1, v1, M => (if v1 = 0 then f_X12_state_b60 v1 M else (if (M.1 0 14) < (M.1 0 13) then f_X12_state_b34 (f_X12_state_b12 n12) M else (if (M.1 0 15) = 0 then f_X12_state_b34 (f_X12_state_b12 n12) M else f_X12_state_b60 v1 M)))
def f_X12_state (M0 : Mem) : Option (Int32 × Mem) := f_X12_state_b12 FU (1 : Int32) (wI (wI M0 0 14 (0 : Int32)) 0 15 (0 : Int32))
def f_X12_thinks (M0 : Mem) : Option Mem := (f_X12_passesAll (2 : Int32) (1 : Int32) M0).bind fun M1 => some M1
def f_X12_forgets (M0 : Mem) : Option Mem := (f_X12_passesAll (2 : Int32) (0 : Int32) M0).bind fun M1 => some M1
def f_X12_keepsBack_b12 : Nat → Int32 → Mem → Option Mem
  | 0, _, _ => none
  | n12 + 1, v1, M => (if (400 : Int32) ≤ v1 then (f_X12_passesAll ((3 : Int32) + ((wI M 0 20 ((M.1 0 20) - (1 : Int32))).1 0 20)) (1 : Int32) (wI M 0 20 ((M.1 0 20) - (1 : Int32)))).bind fun M4 => some (wI M4 0 20 ((M4.1 0 20) + (1 : Int32))) else (ldI M 10 480 (v1 + (40 : Int32))).bind fun t5 => (stI M 10 480 v1 t5).bind fun M6 => (f_X12_keepsBack_b12 n12) (v1 + (1 : Int32)) M6)
def f_X12_keepsBack (M0 : Mem) : Option Mem := (if (M0.1 0 20) = (8 : Int32) then f_X12_keepsBack_b12 FU (120 : Int32) M0 else (f_X12_passesAll ((3 : Int32) + (M0.1 0 20)) (1 : Int32) M0).bind fun M2 => some (wI M2 0 20 ((M2.1 0 20) + (1 : Int32))))
def f_X12_back (M0 : Mem) : Option (Int32 × Mem) := (if (M0.1 0 20) = 0 then (f_X12_no (-3 : Int32) M0).bind fun pt3 => bp pt3 fun t3 M3 => some (t3, M3) else (f_X12_passesAll ((3 : Int32) + ((wI M0 0 20 ((M0.1 0 20) - (1 : Int32))).1 0 20)) (0 : Int32) (wI M0 0 20 ((M0.1 0 20) - (1 : Int32)))).bind fun M2 => some ((M2.1 0 20), M2))
def f_X12_image (M0 : Mem) : Option (Int32 × Mem) := (f_X12_passesAll (0 : Int32) (1 : Int32) (wI M0 0 17 (1 : Int32))).bind fun M1 => some ((M1.1 0 6), M1)
def f_X12_restore (M0 : Mem) : Option (Int32 × Mem) := (if (M0.1 0 17) = 0 then (f_X12_no (-3 : Int32) M0).bind fun pt3 => bp pt3 fun t3 M3 => some (t3, M3) else (f_X12_passesAll (0 : Int32) (0 : Int32) M0).bind fun M2 => some (((wI M2 0 20 (0 : Int32)).1 0 6), (wI M2 0 20 (0 : Int32))))
def f_X12_areSame (v1 : Int32) (v2 : Int32) (M0 : Mem) : Option Int32 := (if v1 = v2 then some (1 : Int32) else (if (M0.1 0 7) = (0 : Int32) then (ldI M0 4 8 v1).bind fun t3 => (ldI M0 4 8 v2).bind fun t4 => (if t3 = t4 then some (1 : Int32) else some (0 : Int32)) else (if (M0.1 0 7) = (1 : Int32) then (ldI M0 2 8 v1).bind fun t7 => (ldI M0 2 8 v2).bind fun t8 => (if t7 = t8 then some (1 : Int32) else some (0 : Int32)) else (if (M0.1 0 7) = (2 : Int32) then (ldI M0 4 8 v1).bind fun t11 => (ldI M0 4 8 v2).bind fun t12 => (f_X12_bits (t11 &&& t12)).bind fun t13 => (if t13 < (M0.1 0 8) then some (0 : Int32) else some (1 : Int32)) else (ldI M0 4 8 v1).bind fun t15 => (ldI M0 4 8 v2).bind fun t16 => (f_X12_bits (t15 ^^^ t16)).bind fun t17 => (if (M0.1 0 8) < t17 then some (0 : Int32) else some (1 : Int32))))))
def f_X12_dueOf (v1 : Int32) (v2 : Int32) (M0 : Mem) : Option Int32 := (ldI M0 3 8 v1).bind fun t1 => (ldI M0 2 8 v1).bind fun t2 => (if t2 = (1 : Int32) then some (((t1 + (1 : Int32)) * v2) / (2 : Int32)) else (if t2 = (2 : Int32) then some ((2 : Int32) * ((t1 + (1 : Int32)) * v2)) else (if t2 = (3 : Int32) then some (0 : Int32) else (if t2 = (4 : Int32) then (if v2 = 0 then some (0 : Int32) else (ldI M0 3 8 v1).bind fun t8 => some ((2 : Int32) * ((((t1 + (1 : Int32)) * v2) - t8) - (1 : Int32)))) else (if t2 = (5 : Int32) then some ((((t1 + (1 : Int32)) * v2) / (2 : Int32)) + (if v2 ≤ 0 then (0 : Int32) else (3 : Int32))) else some ((t1 + (1 : Int32)) * v2))))))
def f_X12_repeatsAt_b5 (M0 : Mem) : Nat → Int32 → Int32 → Int32 → Int32 → Option Int32
  | 0, _, _, _, _ => none
  | n5 + 1, v1, v2, v3, v4 => (if v1 ≤ v4 then some v3 else (ldI M0 5 12 v4).bind fun t2 => (f_X12_areSame t2 v2 M0).bind fun t3 => (f_X12_repeatsAt_b5 M0 n5) v1 v2 (v3 + (if t3 = 0 then (0 : Int32) else (1 : Int32))) (v4 + (1 : Int32)))
def f_X12_repeatsAt (v1 : Int32) (v2 : Int32) (M0 : Mem) : Option Int32 := f_X12_repeatsAt_b5 M0 FU v1 v2 (0 : Int32) (0 : Int32)
def f_X12_dueAt (v1 : Int32) (M0 : Mem) : Option Int32 := (ldI M0 5 12 v1).bind fun t1 => (ldI M0 5 12 v1).bind fun t2 => (f_X12_repeatsAt v1 t2 M0).bind fun t3 => (f_X12_dueOf t1 t3 M0).bind fun t4 => some t4
def f_X12_all_b4 (M0 : Mem) : Nat → Int32 → Int32 → Option Int32
  | 0, _, _ => none
  | n4 + 1, v1, v2 => (if (M0.1 0 6) ≤ v2 then some v1 else (f_X12_dueAt v2 M0).bind fun t3 => (f_X12_all_b4 M0 n4) (v1 + t3) (v2 + (1 : Int32)))
def f_X12_all (M0 : Mem) : Option Int32 := f_X12_all_b4 M0 FU (0 : Int32) (0 : Int32)
def f_X12_nextOf (v1 : Int32) (M0 : Mem) : Option Int32 := (f_X12_repeatsAt (M0.1 0 6) v1 M0).bind fun t1 => (f_X12_dueOf v1 t1 M0).bind fun t2 => some t2
def f_X12_doingOf (v1 : Int32) (v2 : Int32) (M0 : Mem) : Option (Int32 × Mem) := (if (f_X12_isDoing v1 M0) = 0 then (f_X12_no (-1 : Int32) M0).bind fun pt9 => bp pt9 fun t9 M9 => some (t9, M9) else (if v2 = 0 then (ldI M0 2 8 v1).bind fun t8 => some (t8, M0) else (if v2 = (1 : Int32) then (ldI M0 3 8 v1).bind fun t7 => some (t7, M0) else (if v2 = (2 : Int32) then (ldI M0 4 8 v1).bind fun t6 => some (t6, M0) else (f_X12_no (-2 : Int32) M0).bind fun pt5 => bp pt5 fun t5 M5 => some (t5, M5)))))
def f_X12_doing_b55 (v1 : Int32) (v2 : Int32) (v3 : Int32) (s0 : Int32) (M : Mem) : Option (Int32 × Mem) := (if s0 = 0 then (f_X12_adds v1 v2 v3 (wI M 0 20 (0 : Int32))).bind fun M2 => some (((M2.1 0 5) - (1 : Int32)), M2) else (f_X12_no s0 M).bind fun pt3 => bp pt3 fun t3 M3 => some (t3, M3))
def f_X12_doing (v1 : Int32) (v2 : Int32) (v3 : Int32) (M0 : Mem) : Option (Int32 × Mem) := f_X12_doing_b55 v1 v2 v3 (if (f_X12_isIn v1 (0 : Int32) (5 : Int32)) = 0 then (-2 : Int32) else (if v2 < 0 then (-4 : Int32) else (if 0 ≤ v3 then (if (9 : Int32) < v2 then (-6 : Int32) else (if (255 : Int32) < v3 then (-6 : Int32) else (if (M0.1 0 5) = (8 : Int32) then (-6 : Int32) else (0 : Int32)))) else (-4 : Int32)))) M0
def f_X12_does_b27 (v1 : Int32) (s0 : Int32) (M : Mem) : Option (Int32 × Mem) := (if s0 = 0 then (f_X12_keepsBack M).bind fun M2 => (stI M2 5 12 (M2.1 0 6) v1).bind fun M3 => (f_X12_dueAt (((wI M3 0 6 ((M3.1 0 6) + (1 : Int32))).1 0 6) - (1 : Int32)) (wI M3 0 6 ((M3.1 0 6) + (1 : Int32)))).bind fun t4 => some (t4, (wI M3 0 6 ((M3.1 0 6) + (1 : Int32)))) else (f_X12_no s0 M).bind fun pt5 => bp pt5 fun t5 M5 => some (t5, M5))
def f_X12_does (v1 : Int32) (M0 : Mem) : Option (Int32 × Mem) := f_X12_does_b27 v1 (if (f_X12_isDoing v1 M0) = 0 then (-1 : Int32) else (if (M0.1 0 6) = (12 : Int32) then (-6 : Int32) else (0 : Int32))) M0
def f_X12_empties (M0 : Mem) : Option (Int32 × Mem) := some (((wI M0 0 20 (0 : Int32)).1 0 6), (wI (wI M0 0 20 (0 : Int32)) 0 6 (0 : Int32)))
def f_X12_turn_b33 (v1 : Int32) (v2 : Int32) (v3 : Int32) (s0 : Int32) (M : Mem) : Option (Int32 × Mem) := (if s0 = 0 then (f_X12_keepsBack M).bind fun M2 => (ldI M2 2 8 v1).bind fun t3 => (ldI M2 3 8 v1).bind fun t4 => (stI M2 2 8 v1 v2).bind fun M5 => (stI M5 3 8 v1 v3).bind fun M6 => some ((((10 : Int32) * t3) + t4), M6) else (f_X12_no s0 M).bind fun pt7 => bp pt7 fun t7 M7 => some (t7, M7))
def f_X12_turn (v1 : Int32) (v2 : Int32) (v3 : Int32) (M0 : Mem) : Option (Int32 × Mem) := f_X12_turn_b33 v1 v2 v3 (if (f_X12_isDoing v1 M0) = 0 then (-1 : Int32) else (if (f_X12_isIn v2 (0 : Int32) (5 : Int32)) = 0 then (-2 : Int32) else (f_X12_bound v3 (0 : Int32) (9 : Int32)))) M0
def f_X12_marks (v1 : Int32) (v2 : Int32) (M0 : Mem) : Option (Int32 × Mem) := (if (f_X12_isDoing v1 M0) = 0 then (f_X12_no (-1 : Int32) M0).bind fun pt2 => bp pt2 fun t2 M2 => some (t2, M2) else (if (f_X12_isMark v2) = 0 then (f_X12_no (-1 : Int32) M0).bind fun pt8 => bp pt8 fun t8 M8 => some (t8, M8) else (f_X12_keepsBack M0).bind fun M4 => (ldI M4 4 8 v1).bind fun t5 => (stI M4 4 8 v1 (t5 ^^^ (jshl (1 : Int32) v2))).bind fun M6 => (ldI M6 4 8 v1).bind fun t7 => some (((jshr t7 v2) &&& (1 : Int32)), M6)))
def f_X12_law_b21 (v1 : Int32) (v2 : Int32) (s0 : Int32) (M : Mem) : Option (Int32 × Mem) := (if s0 = 0 then (f_X12_keepsBack M).bind fun M2 => some ((((10 : Int32) * (M2.1 0 7)) + (M2.1 0 8)), (wI (wI M2 0 7 v1) 0 8 v2)) else (f_X12_no s0 M).bind fun pt3 => bp pt3 fun t3 M3 => some (t3, M3))
def f_X12_law (v1 : Int32) (v2 : Int32) (M0 : Mem) : Option (Int32 × Mem) := f_X12_law_b21 v1 v2 (if (f_X12_isIn v1 (0 : Int32) (3 : Int32)) = 0 then (-2 : Int32) else (f_X12_bound v2 (0 : Int32) (8 : Int32))) M0
def f_X12_same (v1 : Int32) (v2 : Int32) (M0 : Mem) : Option (Int32 × Mem) := (if (f_X12_isDoing v1 M0) = 0 then (f_X12_no (-1 : Int32) M0).bind fun pt2 => bp pt2 fun t2 M2 => some (t2, M2) else (if (f_X12_isDoing v2 M0) = 0 then (f_X12_no (-1 : Int32) M0).bind fun pt6 => bp pt6 fun t6 M6 => some (t6, M6) else (f_X12_areSame v1 v2 M0).bind fun t4 => (if t4 = 0 then some ((0 : Int32), M0) else some ((1 : Int32), M0))))
def f_X12_isPlace (v1 : Int32) (M0 : Mem) : Int32 := (if v1 < 0 then (0 : Int32) else (if (M0.1 0 6) ≤ v1 then (0 : Int32) else (1 : Int32)))
def f_X12_place (v1 : Int32) (v2 : Int32) (M0 : Mem) : Option (Int32 × Mem) := (if (f_X12_isPlace v1 M0) = 0 then (f_X12_no (-1 : Int32) M0).bind fun pt10 => bp pt10 fun t10 M10 => some (t10, M10) else (if v2 = 0 then (ldI M0 5 12 v1).bind fun t9 => some (t9, M0) else (if v2 = (1 : Int32) then (ldI M0 5 12 v1).bind fun t7 => (f_X12_repeatsAt v1 t7 M0).bind fun t8 => some (t8, M0) else (if v2 = (2 : Int32) then (f_X12_dueAt v1 M0).bind fun t6 => some (t6, M0) else (f_X12_no (-2 : Int32) M0).bind fun pt5 => bp pt5 fun t5 M5 => some (t5, M5)))))
def f_X12_allDue (M0 : Mem) : Option Int32 := (f_X12_all M0).bind fun t1 => some t1
def f_X12_next (v1 : Int32) (M0 : Mem) : Option (Int32 × Mem) := (if (f_X12_isDoing v1 M0) = 0 then (f_X12_no (-1 : Int32) M0).bind fun pt2 => bp pt2 fun t2 M2 => some (t2, M2) else (f_X12_nextOf v1 M0).bind fun t3 => some (t3, M0))
def f_X12_best_b48 (k21 : Int32 → Int32 → Int32 → Mem → Option (Int32 × Mem)) (v1 : Int32) (v2 : Int32) (v3 : Int32) (s0 : Int32) (M : Mem) : Option (Int32 × Mem) := (if v2 < 0 then k21 v1 v3 (v3 + (1 : Int32)) M else (if v1 = 0 then (if 0 ≤ s0 then k21 v1 v2 (v3 + (1 : Int32)) M else k21 v1 v3 (v3 + (1 : Int32)) M) else (if s0 ≤ 0 then k21 v1 v2 (v3 + (1 : Int32)) M else k21 v1 v3 (v3 + (1 : Int32)) M)))
def f_X12_best_b21 : Nat → Int32 → Int32 → Int32 → Mem → Option (Int32 × Mem)
  | 0, _, _, _, _ => none
  | n21 + 1, v1, v2, v3, M => (if (M.1 0 5) ≤ v3 then some (v2, M) else (if 0 ≤ v2 then (f_X12_nextOf v3 M).bind fun t6 => (f_X12_nextOf v2 M).bind fun t7 => f_X12_best_b48 (f_X12_best_b21 n21) v1 v2 v3 (t6 - t7) M else f_X12_best_b48 (f_X12_best_b21 n21) v1 v2 v3 (0 : Int32) M))
def f_X12_best (v1 : Int32) (M0 : Mem) : Option (Int32 × Mem) := (if (f_X12_isIn v1 (0 : Int32) (1 : Int32)) = 0 then (f_X12_no (-2 : Int32) M0).bind fun pt12 => bp pt12 fun t12 M12 => some (t12, M12) else f_X12_best_b21 FU v1 (-9 : Int32) (0 : Int32) M0)
def f_X12_charged_b21 : Nat → Int32 → Int32 → Mem → Option (Int32 × Mem)
  | 0, _, _, _ => none
  | n21 + 1, v1, v3, M => (if (M.1 0 6) ≤ v3 then some ((-9 : Int32), M) else (f_X12_dueAt v3 M).bind fun t3 => (if t3 ≤ v1 then (f_X12_charged_b21 n21) v1 (v3 + (1 : Int32)) M else some (v3, M)))
def f_X12_charged (v1 : Int32) (M0 : Mem) : Option (Int32 × Mem) := (if (f_X12_bound v1 (0 : Int32) (999 : Int32)) = 0 then f_X12_charged_b21 FU v1 (0 : Int32) M0 else (f_X12_no (f_X12_bound v1 (0 : Int32) (999 : Int32)) M0).bind fun pt5 => bp pt5 fun t5 M5 => some (t5, M5))
def f_X12_dueBehind_b13 (M0 : Mem) : Nat → Int32 → Int32 → Int32 → Int32 → Option Int32
  | 0, _, _, _, _ => none
  | n13 + 1, v1, v2, v3, v4 => (if (M0.1 0 5) ≤ v4 then (f_X12_dueOf v2 v3 M0).bind fun t3 => some t3 else (if (f_X12_has v1 v4) = 0 then (f_X12_dueBehind_b13 M0 n13) v1 v2 (v3 + (0 : Int32)) (v4 + (1 : Int32)) else (f_X12_areSame v4 v2 M0).bind fun t6 => (f_X12_dueBehind_b13 M0 n13) v1 v2 (v3 + (if t6 = 0 then (0 : Int32) else (1 : Int32))) (v4 + (1 : Int32))))
def f_X12_dueBehind (v1 : Int32) (v2 : Int32) (M0 : Mem) : Option Int32 := (f_X12_repeatsAt (M0.1 0 6) v2 M0).bind fun t1 => f_X12_dueBehind_b13 M0 FU v1 v2 t1 (0 : Int32)
def f_X12_findLeast_b38 (k2 : Int32 → Int32 → Mem → Option Mem) : Nat → Int32 → Int32 → Int32 → Mem → Option Mem
  | 0, _, _, _, _ => none
  | n38 + 1, v1, v2, v3, M => (if (M.1 0 5) ≤ v3 then k2 v1 (v2 + (1 : Int32)) M else (if (f_X12_has v2 v3) = 0 then (f_X12_findLeast_b38 k2 n38) v1 v2 (v3 + (1 : Int32)) M else (f_X12_dueBehind (v1 &&& (v2 ^^^ (-1 : Int32))) v3 M).bind fun t8 => (ldI M 11 256 (v2 &&& ((jshl (1 : Int32) v3) ^^^ (-1 : Int32)))).bind fun t9 => (ldI M 11 256 v2).bind fun t10 => (if t10 ≤ (t8 + t9) then (ldI M 11 256 v2).bind fun t12 => (stI M 11 256 v2 t12).bind fun M13 => (f_X12_findLeast_b38 k2 n38) v1 v2 (v3 + (1 : Int32)) M13 else (stI M 11 256 v2 (t8 + t9)).bind fun M14 => (f_X12_findLeast_b38 k2 n38) v1 v2 (v3 + (1 : Int32)) M14)))
def f_X12_findLeast_b2 : Nat → Int32 → Int32 → Mem → Option Mem
  | 0, _, _, _ => none
  | n2 + 1, v1, v2, M => (if (256 : Int32) ≤ v2 then some M else (if (v2 &&& (v1 ^^^ (-1 : Int32))) = 0 then (stI M 11 256 v2 (if v2 = 0 then (0 : Int32) else (1000000 : Int32))).bind fun M3 => f_X12_findLeast_b38 (f_X12_findLeast_b2 n2) FU v1 v2 (0 : Int32) M3 else (f_X12_findLeast_b2 n2) v1 (v2 + (1 : Int32)) M))
def f_X12_findLeast (v1 : Int32) (M0 : Mem) : Option Mem := f_X12_findLeast_b2 FU v1 (0 : Int32) M0
def f_X12_firstOf_b2 (M0 : Mem) : Nat → Int32 → Int32 → Int32 → Option Int32
  | 0, _, _, _ => none
  | n2 + 1, v1, v2, v3 => (if (f_X12_has v2 v3) = 0 then (f_X12_firstOf_b2 M0 n2) v1 v2 (v3 + (1 : Int32)) else (f_X12_dueBehind (v1 &&& (v2 ^^^ (-1 : Int32))) v3 M0).bind fun t2 => (ldI M0 11 256 (v2 &&& ((jshl (1 : Int32) v3) ^^^ (-1 : Int32)))).bind fun t3 => (ldI M0 11 256 v2).bind fun t4 => (if (t2 + t3) = t4 then some v3 else (f_X12_firstOf_b2 M0 n2) v1 v2 (v3 + (1 : Int32))))
def f_X12_firstOf (v1 : Int32) (v2 : Int32) (M0 : Mem) : Option Int32 := f_X12_firstOf_b2 M0 FU v1 v2 (0 : Int32)
def f_X12_order_b88 : Nat → Int32 → Int32 → Int32 → Int32 → Mem → Option (Int32 × Mem)
  | 0, _, _, _, _, _ => none
  | n88 + 1, v1, v2, v4, v5, M => (if v2 ≤ v5 then (f_X12_firstOf v1 v4 M).bind fun t10 => some (t10, M) else (f_X12_firstOf v1 v4 M).bind fun t11 => (f_X12_order_b88 n88) v1 v2 (v4 &&& ((jshl (1 : Int32) t11) ^^^ (-1 : Int32))) (v5 + (1 : Int32)) M)
def f_X12_order_b44 (v1 : Int32) (v2 : Int32) (s0 : Int32) (M : Mem) : Option (Int32 × Mem) := (if s0 = 0 then (f_X12_findLeast v1 M).bind fun M4 => (if 0 ≤ v2 then (f_X12_bits v1).bind fun t6 => (if v2 < t6 then f_X12_order_b88 FU v1 v2 v1 (0 : Int32) M4 else some ((-9 : Int32), M4)) else (ldI M4 11 256 v1).bind fun t12 => some (t12, M4)) else (f_X12_no s0 M).bind fun pt13 => bp pt13 fun t13 M13 => some (t13, M13))
def f_X12_order_b9 (v1 : Int32) (v2 : Int32) (M : Mem) : Option (Int32 × Mem) := f_X12_order_b44 v1 v2 (-4 : Int32) M
def f_X12_order (v1 : Int32) (v2 : Int32) (M0 : Mem) : Option (Int32 × Mem) := (if v1 < 0 then f_X12_order_b9 v1 v2 M0 else (if (-1 : Int32) ≤ v2 then (if v1 < (jshl (1 : Int32) (M0.1 0 5)) then (f_X12_bits v1).bind fun t18 => f_X12_order_b44 v1 v2 (if t18 ≤ (6 : Int32) then (0 : Int32) else (-3 : Int32)) M0 else f_X12_order_b44 v1 v2 (-6 : Int32) M0) else f_X12_order_b9 v1 v2 M0))
def f_X12_areUnlike_b2 (M0 : Mem) : Nat → Int32 → Int32 → Option Int32
  | 0, _, _ => none
  | n2 + 1, v1, v2 => (if (64 : Int32) ≤ v2 then some (1 : Int32) else (if (jrm v2 (8 : Int32)) ≤ (v2 / (8 : Int32)) then (f_X12_areUnlike_b2 M0 n2) v1 (v2 + (1 : Int32)) else (if (f_X12_has v1 (v2 / (8 : Int32))) = 0 then (f_X12_areUnlike_b2 M0 n2) v1 (v2 + (1 : Int32)) else (if (f_X12_has v1 (jrm v2 (8 : Int32))) = 0 then (f_X12_areUnlike_b2 M0 n2) v1 (v2 + (1 : Int32)) else (f_X12_areSame (v2 / (8 : Int32)) (jrm v2 (8 : Int32)) M0).bind fun t5 => (if t5 = 0 then (f_X12_areUnlike_b2 M0 n2) v1 (v2 + (1 : Int32)) else some (0 : Int32))))))
def f_X12_areUnlike (v1 : Int32) (M0 : Mem) : Option Int32 := f_X12_areUnlike_b2 M0 FU v1 (0 : Int32)
def f_X12_unlike_b4 (M0 : Mem) : Nat → Int32 → Int32 → Option Int32
  | 0, _, _ => none
  | n4 + 1, v1, v2 => (if (jshl (1 : Int32) (M0.1 0 5)) ≤ v2 then some v1 else (f_X12_bits v2).bind fun t3 => (f_X12_bits v1).bind fun t4 => (if t3 ≤ t4 then (f_X12_unlike_b4 M0 n4) v1 (v2 + (1 : Int32)) else (f_X12_areUnlike v2 M0).bind fun t7 => (f_X12_unlike_b4 M0 n4) (if t7 = 0 then v1 else v2) (v2 + (1 : Int32))))
def f_X12_unlike (M0 : Mem) : Option Int32 := f_X12_unlike_b4 M0 FU (0 : Int32) (1 : Int32)
def f_X12_people_b30 (k2 : Int32 → Mem → Option (Int32 × Mem)) : Nat → Int32 → Int32 → Mem → Option (Int32 × Mem)
  | 0, _, _, _ => none
  | n30 + 1, v1, v2, M => (if v2 ≤ 0 then k2 (v1 + (1 : Int32)) M else (f_X12_areUnlike v2 M).bind fun t6 => (if t6 = 0 then (f_X12_people_b30 k2 n30) v1 ((v2 - (1 : Int32)) &&& v1) M else (ldI M 12 256 (v1 &&& (v2 ^^^ (-1 : Int32)))).bind fun t8 => (ldI M 12 256 v1).bind fun t9 => (if t9 ≤ (t8 + (1 : Int32)) then (f_X12_people_b30 k2 n30) v1 ((v2 - (1 : Int32)) &&& v1) M else (ldI M 12 256 (v1 &&& (v2 ^^^ (-1 : Int32)))).bind fun t11 => (stI M 12 256 v1 (t11 + (1 : Int32))).bind fun M12 => (f_X12_people_b30 k2 n30) v1 ((v2 - (1 : Int32)) &&& v1) M12)))
def f_X12_people_b2 : Nat → Int32 → Mem → Option (Int32 × Mem)
  | 0, _, _ => none
  | n2 + 1, v1, M => (if (jshl (1 : Int32) (M.1 0 5)) ≤ v1 then (ldI M 12 256 ((jshl (1 : Int32) (M.1 0 5)) - (1 : Int32))).bind fun t2 => some (t2, M) else (stI M 12 256 v1 (if v1 = 0 then (0 : Int32) else (8 : Int32))).bind fun M3 => f_X12_people_b30 (f_X12_people_b2 n2) FU v1 v1 M3)
def f_X12_people (M0 : Mem) : Option (Int32 × Mem) := f_X12_people_b2 FU (0 : Int32) M0
def f_X12_likesOf_b4 (M0 : Mem) : Nat → Int32 → Int32 → Int32 → Option Int32
  | 0, _, _, _ => none
  | n4 + 1, v1, v2, v3 => (if (M0.1 0 5) ≤ v3 then some v2 else (f_X12_areSame v3 v1 M0).bind fun t3 => (f_X12_likesOf_b4 M0 n4) v1 (v2 + (if t3 = 0 then (0 : Int32) else (1 : Int32))) (v3 + (1 : Int32)))
def f_X12_likesOf (v1 : Int32) (M0 : Mem) : Option Int32 := f_X12_likesOf_b4 M0 FU v1 (-1 : Int32) (0 : Int32)
def f_X12_like_b45 : Nat → Int32 → Int32 → Mem → Option (Int32 × Mem)
  | 0, _, _, _ => none
  | n45 + 1, v2, v3, M => (if (M.1 0 5) ≤ v3 then some (v2, M) else (f_X12_likesOf v3 M).bind fun t5 => (f_X12_likesOf v2 M).bind fun t6 => (f_X12_like_b45 n45) (if t5 ≤ t6 then v2 else v3) (v3 + (1 : Int32)) M)
def f_X12_like_b19 (v1 : Int32) (M : Mem) : Option (Int32 × Mem) := (if v1 < 0 then f_X12_like_b45 FU (if (M.1 0 5) = 0 then (-9 : Int32) else (0 : Int32)) (1 : Int32) M else (f_X12_likesOf v1 M).bind fun t11 => some (t11, M))
def f_X12_like (v1 : Int32) (M0 : Mem) : Option (Int32 × Mem) := (if v1 = (-1 : Int32) then f_X12_like_b19 v1 M0 else (if (f_X12_isDoing v1 M0) = 0 then (f_X12_no (-1 : Int32) M0).bind fun pt13 => bp pt13 fun t13 M13 => some (t13, M13) else f_X12_like_b19 v1 M0))
def f_X12_lays (v1 : Int32) (M0 : Mem) : Option Mem := some (wI (wI M0 0 7 (v1 / (9 : Int32))) 0 8 (jrm v1 (9 : Int32)))
def f_X12_codeOf (v0 : Int32) : Int32 := (((10 : Int32) * (v0 / (9 : Int32))) + (jrm v0 (9 : Int32)))
def f_X12_reading_b28 : Nat → Int32 → Int32 → Int32 → Int32 → Mem → Option (Int32 × Mem)
  | 0, _, _, _, _, _ => none
  | n28 + 1, v1, v2, v3, v4, M => (if (36 : Int32) ≤ v4 then (f_X12_forgets M).bind fun M5 => (if v1 = 0 then some ((f_X12_codeOf v2), M5) else some (v3, M5)) else (f_X12_lays v4 M).bind fun M7 => (f_X12_all M7).bind fun t8 => (if t8 < v3 then (f_X12_reading_b28 n28) v1 v4 t8 (v4 + (1 : Int32)) M7 else (f_X12_reading_b28 n28) v1 v2 v3 (v4 + (1 : Int32)) M7))
def f_X12_reading (v1 : Int32) (M0 : Mem) : Option (Int32 × Mem) := (if (f_X12_isIn v1 (0 : Int32) (1 : Int32)) = 0 then (f_X12_no (-2 : Int32) M0).bind fun pt10 => bp pt10 fun t10 M10 => some (t10, M10) else (f_X12_thinks M0).bind fun M2 => f_X12_reading_b28 FU v1 (0 : Int32) (1000000 : Int32) (0 : Int32) M2)
def f_X12_isSo_b28 (M0 : Mem) (k2 : Int32 → Option Int32) (v1 : Int32) (s0 : Int32) : Option Int32 := (ldI M0 13 12 v1).bind fun t3 => (if s0 = t3 then k2 (v1 + (1 : Int32)) else some (0 : Int32))
def f_X12_isSo_b2 (M0 : Mem) : Nat → Int32 → Option Int32
  | 0, _ => none
  | n2 + 1, v1 => (if (M0.1 0 24) ≤ v1 then some (1 : Int32) else (f_X12_dueAt v1 M0).bind fun t2 => f_X12_isSo_b28 M0 (f_X12_isSo_b2 M0 n2) v1 (if t2 ≤ (99 : Int32) then t2 else (99 : Int32)))
def f_X12_isSo (M0 : Mem) : Option Int32 := f_X12_isSo_b2 M0 FU (0 : Int32)
def f_X12_fits_b56 : Nat → Int32 → Int32 → Int32 → Int32 → Mem → Option (Int32 × Mem)
  | 0, _, _, _, _, _ => none
  | n56 + 1, v1, v3, v4, v5, M => (if v5 < 0 then (f_X12_forgets M).bind fun M5 => (if v1 = 0 then some (v3, M5) else some (v4, M5)) else (f_X12_lays v5 M).bind fun M7 => (f_X12_isSo M7).bind fun t8 => (if t8 = 0 then (f_X12_fits_b56 n56) v1 v3 v4 (v5 + (-1 : Int32)) M7 else (f_X12_fits_b56 n56) v1 (v3 + (1 : Int32)) (f_X12_codeOf v5) (v5 + (-1 : Int32)) M7))
def f_X12_fits_b31 (v1 : Int32) (s0 : Int32) (M : Mem) : Option (Int32 × Mem) := (if s0 = 0 then (f_X12_thinks M).bind fun M2 => f_X12_fits_b56 FU v1 (0 : Int32) (-9 : Int32) (35 : Int32) M2 else (f_X12_no s0 M).bind fun pt10 => bp pt10 fun t10 M10 => some (t10, M10))
def f_X12_fits (v1 : Int32) (M0 : Mem) : Option (Int32 × Mem) := f_X12_fits_b31 v1 (if (f_X12_isIn v1 (0 : Int32) (1 : Int32)) = 0 then (-2 : Int32) else (if (M0.1 0 24) ≤ (M0.1 0 6) then (0 : Int32) else (-3 : Int32))) M0
def f_X12_unlikeDues_b42 (k8 : Int32 → Int32 → Int32 → Mem → Option (Int32 × Mem)) : Nat → Int32 → Int32 → Int32 → Int32 → Int32 → Int32 → Mem → Option (Int32 × Mem)
  | 0, _, _, _, _, _, _, _ => none
  | n42 + 1, v1, v2, v3, v4, v5, v6, M => (if v2 ≤ v6 then (if v5 = 0 then k8 v1 v2 (v3 + (1 : Int32)) M else (stI M 14 36 v2 v4).bind fun M12 => k8 v1 (v2 + (1 : Int32)) (v3 + (1 : Int32)) M12) else (if v5 = 0 then (f_X12_unlikeDues_b42 k8 n42) v1 v2 v3 v4 (0 : Int32) (v6 + (1 : Int32)) M else (ldI M 14 36 v6).bind fun t14 => (f_X12_unlikeDues_b42 k8 n42) v1 v2 v3 v4 (if t14 = v4 then (0 : Int32) else (1 : Int32)) (v6 + (1 : Int32)) M))
def f_X12_unlikeDues_b8 : Nat → Int32 → Int32 → Int32 → Mem → Option (Int32 × Mem)
  | 0, _, _, _, _ => none
  | n8 + 1, v1, v2, v3, M => (if (36 : Int32) ≤ v3 then (f_X12_forgets M).bind fun M4 => some (v2, M4) else (f_X12_lays v3 M).bind fun M5 => (f_X12_isSo M5).bind fun t6 => (if t6 = 0 then (f_X12_unlikeDues_b8 n8) v1 v2 (v3 + (1 : Int32)) M5 else (f_X12_nextOf v1 M5).bind fun t9 => f_X12_unlikeDues_b42 (f_X12_unlikeDues_b8 n8) FU v1 v2 v3 t9 (1 : Int32) (0 : Int32) M5))
def f_X12_unlikeDues (v1 : Int32) (M0 : Mem) : Option (Int32 × Mem) := (f_X12_thinks M0).bind fun M1 => f_X12_unlikeDues_b8 FU v1 (0 : Int32) (0 : Int32) M1
def f_X12_tellsMost_b51 : Nat → Int32 → Int32 → Int32 → Int32 → Mem → Option (Int32 × Mem)
  | 0, _, _, _, _, _ => none
  | n51 + 1, v1, v3, v4, v5, M => (if (M.1 0 5) ≤ v5 then (if v1 = 0 then some (v3, M) else (if 0 ≤ v3 then some (v4, M) else some (v3, M))) else (f_X12_unlikeDues v5 M).bind fun pt6 => bp pt6 fun t6 M6 => (if v4 < t6 then (f_X12_tellsMost_b51 n51) v1 v5 t6 (v5 + (1 : Int32)) M6 else (f_X12_tellsMost_b51 n51) v1 v3 v4 (v5 + (1 : Int32)) M6))
def f_X12_tellsMost_b31 (v1 : Int32) (s0 : Int32) (M : Mem) : Option (Int32 × Mem) := (if s0 = 0 then f_X12_tellsMost_b51 FU v1 (-9 : Int32) (0 : Int32) (0 : Int32) M else (f_X12_no s0 M).bind fun pt8 => bp pt8 fun t8 M8 => some (t8, M8))
def f_X12_tellsMost (v1 : Int32) (M0 : Mem) : Option (Int32 × Mem) := f_X12_tellsMost_b31 v1 (if (f_X12_isIn v1 (0 : Int32) (1 : Int32)) = 0 then (-2 : Int32) else (if (M0.1 0 24) ≤ (M0.1 0 6) then (0 : Int32) else (-3 : Int32))) M0
def f_X12_loophole_b10 : Nat → Int32 → Int32 → Int32 → Mem → Option (Int32 × Mem)
  | 0, _, _, _, _ => none
  | n10 + 1, v1, v2, v3, M => (if ((10 : Int32) * (M.1 0 5)) ≤ v3 then some (v1, M) else (if (jrm v3 (10 : Int32)) < (8 : Int32) then (ldI M 4 8 (v3 / (10 : Int32))).bind fun t4 => (stI M 4 8 (v3 / (10 : Int32)) (t4 ^^^ (jshl (1 : Int32) (jrm v3 (10 : Int32))))).bind fun M5 => (f_X12_all M5).bind fun t6 => (ldI M5 4 8 (v3 / (10 : Int32))).bind fun t7 => (stI M5 4 8 (v3 / (10 : Int32)) (t7 ^^^ (jshl (1 : Int32) (jrm v3 (10 : Int32))))).bind fun M8 => (if t6 < v2 then (f_X12_loophole_b10 n10) v3 t6 (v3 + (1 : Int32)) M8 else (f_X12_loophole_b10 n10) v1 v2 (v3 + (1 : Int32)) M8) else (f_X12_loophole_b10 n10) v1 v2 (v3 + (1 : Int32)) M))
def f_X12_loophole (M0 : Mem) : Option (Int32 × Mem) := (f_X12_all M0).bind fun t1 => f_X12_loophole_b10 FU (-9 : Int32) t1 (0 : Int32) M0
def f_X12_dueOfTwo_b18 (M0 : Mem) (k4 : Int32 → Int32 → Int32 → Option Int32) : Nat → Int32 → Int32 → Int32 → Int32 → Int32 → Option Int32
  | 0, _, _, _, _, _ => none
  | n18 + 1, v1, v2, v3, v4, v5 => (if v3 ≤ v5 then (ldI M0 5 12 v3).bind fun t3 => (f_X12_dueOf t3 v4 M0).bind fun t4 => k4 v1 (v2 + t4) (v3 + (1 : Int32)) else (if (f_X12_has v1 v5) = (f_X12_has v1 v3) then (ldI M0 5 12 v5).bind fun t6 => (ldI M0 5 12 v3).bind fun t7 => (f_X12_areSame t6 t7 M0).bind fun t8 => (f_X12_dueOfTwo_b18 M0 k4 n18) v1 v2 v3 (v4 + (if t8 = 0 then (0 : Int32) else (1 : Int32))) (v5 + (1 : Int32)) else (f_X12_dueOfTwo_b18 M0 k4 n18) v1 v2 v3 (v4 + (0 : Int32)) (v5 + (1 : Int32))))
def f_X12_dueOfTwo_b4 (M0 : Mem) : Nat → Int32 → Int32 → Int32 → Option Int32
  | 0, _, _, _ => none
  | n4 + 1, v1, v2, v3 => (if (M0.1 0 6) ≤ v3 then some v2 else f_X12_dueOfTwo_b18 M0 (f_X12_dueOfTwo_b4 M0 n4) FU v1 v2 v3 (0 : Int32) (0 : Int32))
def f_X12_dueOfTwo (v1 : Int32) (M0 : Mem) : Option Int32 := f_X12_dueOfTwo_b4 M0 FU v1 (0 : Int32) (0 : Int32)
def f_X12_shared_b27 : Nat → Int32 → Int32 → Int32 → Int32 → Mem → Option (Int32 × Mem)
  | 0, _, _, _, _, _ => none
  | n27 + 1, v1, v2, v3, v4, M => (if (jshl (1 : Int32) (M.1 0 6)) ≤ v4 then (if v1 = 0 then some (v3, M) else some (v2, M)) else (f_X12_dueOfTwo v4 M).bind fun t6 => (if t6 < v3 then (f_X12_shared_b27 n27) v1 v4 t6 (v4 + (1 : Int32)) M else (f_X12_shared_b27 n27) v1 v2 v3 (v4 + (1 : Int32)) M))
def f_X12_shared (v1 : Int32) (M0 : Mem) : Option (Int32 × Mem) := (if (f_X12_isIn v1 (0 : Int32) (1 : Int32)) = 0 then (f_X12_no (-2 : Int32) M0).bind fun pt8 => bp pt8 fun t8 M8 => some (t8, M8) else (f_X12_dueOfTwo (0 : Int32) M0).bind fun t2 => f_X12_shared_b27 FU v1 (0 : Int32) t2 (1 : Int32) M0)
def f_X12_savesAt_b21 : Nat → Int32 → Int32 → Mem → Option (Int32 × Mem)
  | 0, _, _, _ => none
  | n21 + 1, v2, v3, M => (if (M.1 0 6) ≤ v3 then (f_X12_all M).bind fun t4 => (f_X12_forgets M).bind fun M5 => some ((v2 - t4), M5) else (ldI M 5 12 (v3 + (1 : Int32))).bind fun t6 => (stI M 5 12 v3 t6).bind fun M7 => (f_X12_savesAt_b21 n21) v2 (v3 + (1 : Int32)) M7)
def f_X12_savesAt (v1 : Int32) (M0 : Mem) : Option (Int32 × Mem) := (f_X12_thinks M0).bind fun M1 => (f_X12_all M1).bind fun t2 => f_X12_savesAt_b21 FU t2 v1 (wI M1 0 6 ((M1.1 0 6) - (1 : Int32)))
def f_X12_saves_b45 : Nat → Int32 → Int32 → Mem → Option (Int32 × Mem)
  | 0, _, _, _ => none
  | n45 + 1, v2, v3, M => (if (M.1 0 6) ≤ v3 then some (v2, M) else (f_X12_savesAt v3 M).bind fun pt5 => bp pt5 fun t5 M5 => (f_X12_savesAt v2 M5).bind fun pt6 => bp pt6 fun t6 M6 => (f_X12_saves_b45 n45) (if t5 ≤ t6 then v2 else v3) (v3 + (1 : Int32)) M6)
def f_X12_saves_b19 (v1 : Int32) (M : Mem) : Option (Int32 × Mem) := (if v1 < 0 then f_X12_saves_b45 FU (if (M.1 0 6) = 0 then (-9 : Int32) else (0 : Int32)) (1 : Int32) M else (f_X12_savesAt v1 M).bind fun pt11 => bp pt11 fun t11 M11 => some (t11, M11))
def f_X12_saves (v1 : Int32) (M0 : Mem) : Option (Int32 × Mem) := (if v1 = (-1 : Int32) then f_X12_saves_b19 v1 M0 else (if (f_X12_isPlace v1 M0) = 0 then (f_X12_no (-1 : Int32) M0).bind fun pt13 => bp pt13 fun t13 M13 => some (t13, M13) else f_X12_saves_b19 v1 M0))
def f_X12_exchanges (v1 : Int32) (v2 : Int32) (M0 : Mem) : Option Mem := (ldI M0 5 12 v1).bind fun t1 => (ldI M0 5 12 v2).bind fun t2 => (stI M0 5 12 v1 t2).bind fun M3 => (stI M3 5 12 v2 t1).bind fun M4 => some M4
def f_X12_turned_b6 : Nat → Int32 → Mem → Option (Int32 × Mem)
  | 0, _, _ => none
  | n6 + 1, v1, M => (if ((M.1 0 6) / (2 : Int32)) ≤ v1 then (f_X12_all M).bind fun t4 => (f_X12_forgets M).bind fun M5 => some (t4, M5) else (f_X12_exchanges v1 (((M.1 0 6) - (1 : Int32)) - v1) M).bind fun M6 => (f_X12_turned_b6 n6) (v1 + (1 : Int32)) M6)
def f_X12_turned (M0 : Mem) : Option (Int32 × Mem) := (f_X12_thinks M0).bind fun M1 => f_X12_turned_b6 FU (0 : Int32) M1
def f_X12_changed_b23 (k10 : Int32 → Int32 → Int32 → Mem → Option (Int32 × Mem)) : Nat → Int32 → Int32 → Int32 → Int32 → Mem → Option (Int32 × Mem)
  | 0, _, _, _, _, _ => none
  | n23 + 1, v1, v2, v3, v4, M => (if (M.1 0 6) ≤ v4 then k10 v1 v2 (v3 + (1 : Int32)) M else (f_X12_exchanges v3 v4 M).bind fun M5 => (f_X12_all M5).bind fun t6 => (f_X12_exchanges v3 v4 M5).bind fun M7 => (if t6 < v2 then (f_X12_changed_b23 k10 n23) (((100 : Int32) * v3) + v4) t6 v3 (v4 + (1 : Int32)) M7 else (f_X12_changed_b23 k10 n23) v1 v2 v3 (v4 + (1 : Int32)) M7))
def f_X12_changed_b10 : Nat → Int32 → Int32 → Int32 → Mem → Option (Int32 × Mem)
  | 0, _, _, _, _ => none
  | n10 + 1, v1, v2, v3, M => (if (M.1 0 6) ≤ v3 then some (v1, M) else f_X12_changed_b23 (f_X12_changed_b10 n10) FU v1 v2 v3 (v3 + (1 : Int32)) M)
def f_X12_changed (M0 : Mem) : Option (Int32 × Mem) := (f_X12_all M0).bind fun t1 => f_X12_changed_b10 FU (-9 : Int32) t1 (0 : Int32) M0
def f_X12_marksOf_b4 (M0 : Mem) : Nat → Int32 → Int32 → Int32 → Option Int32
  | 0, _, _, _ => none
  | n4 + 1, v1, v2, v3 => (if (M0.1 0 5) ≤ v3 then some v2 else (if (f_X12_has v1 v3) = 0 then (f_X12_marksOf_b4 M0 n4) v1 (v2 ||| (0 : Int32)) (v3 + (1 : Int32)) else (ldI M0 4 8 v3).bind fun t3 => (f_X12_marksOf_b4 M0 n4) v1 (v2 ||| t3) (v3 + (1 : Int32))))
def f_X12_marksOf (v1 : Int32) (M0 : Mem) : Option Int32 := f_X12_marksOf_b4 M0 FU v1 (0 : Int32) (0 : Int32)
def f_X12_nextsOf_b4 (M0 : Mem) : Nat → Int32 → Int32 → Int32 → Option Int32
  | 0, _, _, _ => none
  | n4 + 1, v1, v2, v3 => (if (M0.1 0 5) ≤ v3 then some v2 else (if (f_X12_has v1 v3) = 0 then (f_X12_nextsOf_b4 M0 n4) v1 (v2 + (0 : Int32)) (v3 + (1 : Int32)) else (f_X12_nextOf v3 M0).bind fun t4 => (f_X12_nextsOf_b4 M0 n4) v1 (v2 + t4) (v3 + (1 : Int32))))
def f_X12_nextsOf (v1 : Int32) (M0 : Mem) : Option Int32 := f_X12_nextsOf_b4 M0 FU v1 (0 : Int32) (0 : Int32)
def f_X12_wants_b95 (k46 : Int32 → Int32 → Int32 → Int32 → Int32 → Mem → Option (Int32 × Mem)) (v1 : Int32) (v2 : Int32) (v4 : Int32) (v5 : Int32) (v6 : Int32) (M : Mem) : Option (Int32 × Mem) := (if v5 < 0 then k46 v1 v2 v4 v6 (v6 + (1 : Int32)) M else (f_X12_nextsOf v6 M).bind fun t13 => (f_X12_nextsOf v5 M).bind fun t14 => (if t14 ≤ t13 then k46 v1 v2 v4 v5 (v6 + (1 : Int32)) M else k46 v1 v2 v4 v6 (v6 + (1 : Int32)) M))
def f_X12_wants_b91 (k46 : Int32 → Int32 → Int32 → Int32 → Int32 → Mem → Option (Int32 × Mem)) (v1 : Int32) (v2 : Int32) (v5 : Int32) (v6 : Int32) (M : Mem) : Option (Int32 × Mem) := f_X12_wants_b95 k46 v1 v2 v6 v5 v6 M
def f_X12_wants_b46 : Nat → Int32 → Int32 → Int32 → Int32 → Int32 → Mem → Option (Int32 × Mem)
  | 0, _, _, _, _, _, _ => none
  | n46 + 1, v1, v2, v4, v5, v6, M => (if (jshl (1 : Int32) (M.1 0 5)) ≤ v6 then (if v2 = 0 then some (v4, M) else (if v2 = (1 : Int32) then some (v5, M) else (if 0 ≤ v5 then (f_X12_nextsOf v5 M).bind fun t8 => some (t8, M) else some (v5, M)))) else (f_X12_marksOf v6 M).bind fun t9 => (if (v1 &&& (t9 ^^^ (-1 : Int32))) = 0 then (if v4 < 0 then f_X12_wants_b91 (f_X12_wants_b46 n46) v1 v2 v5 v6 M else (f_X12_bits v6).bind fun t16 => (f_X12_bits v4).bind fun t17 => (if t17 ≤ t16 then f_X12_wants_b95 (f_X12_wants_b46 n46) v1 v2 v4 v5 v6 M else f_X12_wants_b91 (f_X12_wants_b46 n46) v1 v2 v5 v6 M)) else (f_X12_wants_b46 n46) v1 v2 v4 v5 (v6 + (1 : Int32)) M))
def f_X12_wants_b25 (v1 : Int32) (v2 : Int32) (v3 : Int32) (M : Mem) : Option (Int32 × Mem) := (if v3 = 0 then f_X12_wants_b46 FU v1 v2 (-9 : Int32) (-9 : Int32) (0 : Int32) M else (f_X12_no v3 M).bind fun pt19 => bp pt19 fun t19 M19 => some (t19, M19))
def f_X12_wants (v1 : Int32) (v2 : Int32) (M0 : Mem) : Option (Int32 × Mem) := (if (f_X12_bound v1 (0 : Int32) (255 : Int32)) = 0 then (if (f_X12_isIn v2 (0 : Int32) (2 : Int32)) = 0 then f_X12_wants_b25 v1 v2 (-2 : Int32) M0 else f_X12_wants_b25 v1 v2 (f_X12_bound v1 (0 : Int32) (255 : Int32)) M0) else f_X12_wants_b25 v1 v2 (f_X12_bound v1 (0 : Int32) (255 : Int32)) M0)
def f_X12_mayFollow_b19 (M0 : Mem) (v1 : Int32) (v2 : Int32) (v4 : Int32) : Option Int32 := (if v2 ≤ (1 : Int32) then some (1 : Int32) else (if (8 : Int32) ≤ v4 then some (1 : Int32) else (f_X12_areSame v4 v1 M0).bind fun t4 => (if t4 = 0 then some (1 : Int32) else some (0 : Int32))))
def f_X12_mayFollow (v1 : Int32) (v2 : Int32) (v3 : Int32) (v4 : Int32) (M0 : Mem) : Option Int32 := (if v2 ≤ 0 then f_X12_mayFollow_b19 M0 v1 v2 v4 else (if (8 : Int32) ≤ v3 then f_X12_mayFollow_b19 M0 v1 v2 v4 else (f_X12_areSame v3 v1 M0).bind fun t7 => (if t7 = 0 then f_X12_mayFollow_b19 M0 v1 v2 v4 else some (0 : Int32))))
def f_X12_songs_b236 : Nat → Int64 → Int32 → Mem → Option (Int64 × Mem)
  | 0, _, _, _ => none
  | n236 + 1, v4, v6, M => (if (81 : Int32) ≤ v6 then some (v4, M) else (ldL M 15 81 v6).bind fun t5 => (f_X12_songs_b236 n236) (v4 + t5) (v6 + (1 : Int32)) M)
def f_X12_songs_b197 (k79 : Int32 → Int32 → Int32 → Mem → Option (Int64 × Mem)) : Nat → Int32 → Int32 → Int32 → Int32 → Mem → Option (Int64 × Mem)
  | 0, _, _, _, _, _ => none
  | n197 + 1, v1, v2, v4, v5, M => (if (81 : Int32) ≤ v5 then k79 v1 v2 (v4 + (1 : Int32)) M else (ldL M 16 81 v5).bind fun t10 => (stL M 15 81 v5 t10).bind fun M11 => (f_X12_songs_b197 k79 n197) v1 v2 v4 (v5 + (1 : Int32)) M11)
def f_X12_songs_b112 (k79 : Int32 → Int32 → Int32 → Mem → Option (Int64 × Mem)) : Nat → Int32 → Int32 → Int32 → Int32 → Mem → Option (Int64 × Mem)
  | 0, _, _, _, _, _ => none
  | n112 + 1, v1, v2, v4, v5, M => (if ((81 : Int32) * (M.1 0 5)) ≤ v5 then f_X12_songs_b197 k79 FU v1 v2 v4 (0 : Int32) M else (dvI v5 (M.1 0 5)).bind fun t12 => (rmI v5 (M.1 0 5)).bind fun t13 => (f_X12_mayFollow t13 v2 (t12 / (9 : Int32)) (jrm t12 (9 : Int32)) M).bind fun t14 => (if t14 = 0 then (f_X12_songs_b112 k79 n112) v1 v2 v4 (v5 + (1 : Int32)) M else (ldL M 16 81 (((9 : Int32) * t13) + (t12 / (9 : Int32)))).bind fun t16 => (ldL M 15 81 t12).bind fun t17 => (stL M 16 81 (((9 : Int32) * t13) + (t12 / (9 : Int32))) (t16 + t17)).bind fun M18 => (f_X12_songs_b112 k79 n112) v1 v2 v4 (v5 + (1 : Int32)) M18))
def f_X12_songs_b88 (k79 : Int32 → Int32 → Int32 → Mem → Option (Int64 × Mem)) : Nat → Int32 → Int32 → Int32 → Int32 → Mem → Option (Int64 × Mem)
  | 0, _, _, _, _, _ => none
  | n88 + 1, v1, v2, v4, v5, M => (if (81 : Int32) ≤ v5 then f_X12_songs_b112 k79 FU v1 v2 v4 (0 : Int32) M else (stL M 16 81 v5 (0 : Int64)).bind fun M19 => (f_X12_songs_b88 k79 n88) v1 v2 v4 (v5 + (1 : Int32)) M19)
def f_X12_songs_b79 : Nat → Int32 → Int32 → Int32 → Mem → Option (Int64 × Mem)
  | 0, _, _, _, _ => none
  | n79 + 1, v1, v2, v4, M => (if v1 ≤ v4 then f_X12_songs_b236 FU (0 : Int64) (0 : Int32) M else f_X12_songs_b88 (f_X12_songs_b79 n79) FU v1 v2 v4 (0 : Int32) M)
def f_X12_songs_b44 : Nat → Int32 → Int32 → Int32 → Mem → Option (Int64 × Mem)
  | 0, _, _, _, _ => none
  | n44 + 1, v1, v2, v4, M => (if (81 : Int32) ≤ v4 then f_X12_songs_b79 FU v1 v2 (0 : Int32) M else (stL M 15 81 v4 (if v4 = (80 : Int32) then (1 : Int64) else (0 : Int64))).bind fun M20 => (f_X12_songs_b44 n44) v1 v2 (v4 + (1 : Int32)) M20)
def f_X12_songs_b30 (v1 : Int32) (v2 : Int32) (s0 : Int32) (M : Mem) : Option (Int64 × Mem) := (if s0 = 0 then f_X12_songs_b44 FU v1 v2 (0 : Int32) M else (f_X12_lowest s0 M).bind fun pt23 => bp pt23 fun t23 M23 => some (t23, M23))
def f_X12_songs (v1 : Int32) (v2 : Int32) (M0 : Mem) : Option (Int64 × Mem) := f_X12_songs_b30 v1 v2 (if v1 < 0 then (-4 : Int32) else (if 0 ≤ v2 then (if (8 : Int32) < v1 then (-6 : Int32) else (if v2 ≤ (2 : Int32) then (0 : Int32) else (-6 : Int32))) else (-4 : Int32))) M0
def f_X12_inspectors_b39 (k30 : Int32 → Int32 → Mem → Option (Int32 × Mem)) : Nat → Int32 → Int32 → Int32 → Mem → Option (Int32 × Mem)
  | 0, _, _, _, _ => none
  | n39 + 1, v1, v3, v4, M => (if v3 ≤ v4 then k30 v1 (v3 + (1 : Int32)) M else (rmI ((v4 - (1 : Int32)) * v1) (M.1 0 5)).bind fun t5 => (rmI ((v3 - (1 : Int32)) * v1) (M.1 0 5)).bind fun t6 => (f_X12_areSame t5 t6 M).bind fun t7 => (if t7 = 0 then (f_X12_inspectors_b39 k30 n39) v1 v3 (v4 + (1 : Int32)) M else some (v3, M)))
def f_X12_inspectors_b30 : Nat → Int32 → Int32 → Mem → Option (Int32 × Mem)
  | 0, _, _, _ => none
  | n30 + 1, v1, v3, M => (if (20 : Int32) ≤ v3 then some ((-9 : Int32), M) else f_X12_inspectors_b39 (f_X12_inspectors_b30 n30) FU v1 v3 (1 : Int32) M)
def f_X12_inspectors (v1 : Int32) (M0 : Mem) : Option (Int32 × Mem) := (if (f_X12_bound v1 (1 : Int32) (9 : Int32)) = 0 then (if (M0.1 0 5) = 0 then some ((-9 : Int32), M0) else f_X12_inspectors_b30 FU v1 (2 : Int32) M0) else (f_X12_no (f_X12_bound v1 (1 : Int32) (9 : Int32)) M0).bind fun pt9 => bp pt9 fun t9 M9 => some (t9, M9))
def f_X12_divisor_b6 : Nat → Int64 → Int64 → Option Int64
  | 0, _, _ => none
  | n6 + 1, v4, v6 => (if (lg_cmp v6 (0 : Int64)) = 0 then some v4 else (rmL v4 v6).bind fun t3 => (f_X12_divisor_b6 n6) v6 t3)
def f_X12_divisor (v0 : Int64) (v2 : Int64) : Option Int64 := f_X12_divisor_b6 FU v0 v2
def f_X12_partOf (v0 : Int64) (v2 : Int64) (v4 : Int32) : Option Int64 := (f_X12_divisor v0 v2).bind fun t1 => (dvL (if v4 = 0 then v0 else v2) t1).bind fun t2 => some t2
def f_X12_chance_b107 (k93 : Int32 → Int32 → Int32 → Int64 → Int32 → Mem → Option (Int64 × Mem)) : Nat → Int32 → Int32 → Int32 → Int64 → Int32 → Int32 → Int32 → Mem → Option (Int64 × Mem)
  | 0, _, _, _, _, _, _, _, _ => none
  | n107 + 1, v1, v2, v4, v5, v7, v8, v9, M => (if v1 ≤ v9 then (f_X12_all M).bind fun t11 => k93 v1 v2 v4 (v5 + (if t11 = 0 then (1 : Int64) else (0 : Int64))) (v7 + (1 : Int32)) M else (rmI v8 (M.1 0 5)).bind fun t14 => (stI M 5 12 v9 t14).bind fun M15 => (dvI v8 (M15.1 0 5)).bind fun t16 => (f_X12_chance_b107 k93 n107) v1 v2 v4 v5 v7 t16 (v9 + (1 : Int32)) M15)
def f_X12_chance_b93 : Nat → Int32 → Int32 → Int32 → Int64 → Int32 → Mem → Option (Int64 × Mem)
  | 0, _, _, _, _, _, _ => none
  | n93 + 1, v1, v2, v4, v5, v7, M => (if v4 ≤ v7 then (f_X12_forgets M).bind fun M7 => (f_X12_partOf v5 (v4).toInt64 v2).bind fun t8 => some (t8, M7) else f_X12_chance_b107 (f_X12_chance_b93 n93) FU v1 v2 v4 v5 v7 v7 (0 : Int32) M)
def f_X12_chance_b57 : Nat → Int32 → Int32 → Int32 → Int32 → Mem → Option (Int64 × Mem)
  | 0, _, _, _, _, _ => none
  | n57 + 1, v1, v2, v4, v5, M => (if v1 ≤ v5 then (f_X12_thinks M).bind fun M5 => f_X12_chance_b93 FU v1 v2 v4 (0 : Int64) (0 : Int32) (wI M5 0 6 v1) else (f_X12_chance_b57 n57) v1 v2 (v4 * (M.1 0 5)) (v5 + (1 : Int32)) M)
def f_X12_chance_b23 (v1 : Int32) (v2 : Int32) (v3 : Int32) (M : Mem) : Option (Int64 × Mem) := (if v3 = 0 then (if (M.1 0 5) = 0 then (if v1 = 0 then some ((1 : Int64), M) else some ((v2).toInt64, M)) else f_X12_chance_b57 FU v1 v2 (1 : Int32) (0 : Int32) M) else (f_X12_lowest v3 M).bind fun pt18 => bp pt18 fun t18 M18 => some (t18, M18))
def f_X12_chance (v1 : Int32) (v2 : Int32) (M0 : Mem) : Option (Int64 × Mem) := (if (f_X12_bound v1 (0 : Int32) (5 : Int32)) = 0 then (if (f_X12_isIn v2 (0 : Int32) (1 : Int32)) = 0 then f_X12_chance_b23 v1 v2 (-2 : Int32) M0 else f_X12_chance_b23 v1 v2 (f_X12_bound v1 (0 : Int32) (5 : Int32)) M0) else f_X12_chance_b23 v1 v2 (f_X12_bound v1 (0 : Int32) (5 : Int32)) M0)
def f_X12_mean (v1 : Int32) (M0 : Mem) : Option (Int64 × Mem) := (if (f_X12_isIn v1 (0 : Int32) (1 : Int32)) = 0 then (f_X12_lowest (-2 : Int32) M0).bind fun pt5 => bp pt5 fun t5 M5 => some (t5, M5) else (if (M0.1 0 5) = 0 then some ((v1).toInt64, M0) else (f_X12_nextsOf ((jshl (1 : Int32) (M0.1 0 5)) - (1 : Int32)) M0).bind fun t3 => (f_X12_partOf (t3).toInt64 ((M0.1 0 5)).toInt64 v1).bind fun t4 => some (t4, M0)))
def f_X12_twins_b40 (k25 : Int32 → Int32 → Int32 → Int32 → Mem → Option (Int32 × Mem)) : Nat → Int32 → Int32 → Int32 → Int32 → Int32 → Mem → Option (Int32 × Mem)
  | 0, _, _, _, _, _, _ => none
  | n40 + 1, v1, v2, v3, v4, v5, M => (if (M.1 0 5) ≤ v5 then k25 v1 v2 v3 (v4 + (1 : Int32)) M else (ldI M 4 8 v4).bind fun t5 => (ldI M 4 8 v5).bind fun t6 => (f_X12_bits (t5 &&& t6)).bind fun t7 => (if v3 < t7 then (ldI M 4 8 v4).bind fun t9 => (ldI M 4 8 v5).bind fun t10 => (f_X12_bits (t9 &&& t10)).bind fun t11 => (f_X12_twins_b40 k25 n40) v1 (((10 : Int32) * v4) + v5) t11 v4 (v5 + (1 : Int32)) M else (f_X12_twins_b40 k25 n40) v1 v2 v3 v4 (v5 + (1 : Int32)) M))
def f_X12_twins_b25 : Nat → Int32 → Int32 → Int32 → Int32 → Mem → Option (Int32 × Mem)
  | 0, _, _, _, _, _ => none
  | n25 + 1, v1, v2, v3, v4, M => (if (M.1 0 5) ≤ v4 then (if v1 = 0 then some (v2, M) else some (v3, M)) else f_X12_twins_b40 (f_X12_twins_b25 n25) FU v1 v2 v3 v4 (v4 + (1 : Int32)) M)
def f_X12_twins (v1 : Int32) (M0 : Mem) : Option (Int32 × Mem) := (if (f_X12_isIn v1 (0 : Int32) (1 : Int32)) = 0 then (f_X12_no (-2 : Int32) M0).bind fun pt12 => bp pt12 fun t12 M12 => some (t12, M12) else f_X12_twins_b25 FU v1 (-9 : Int32) (-9 : Int32) (0 : Int32) M0)
def f_X12_sameAs_b4 (M0 : Mem) : Nat → Int32 → Int32 → Int32 → Option Int32
  | 0, _, _, _ => none
  | n4 + 1, v1, v2, v3 => (if (64 : Int32) ≤ v3 then some v2 else (if (f_X12_has v1 (v3 / (8 : Int32))) = 0 then (f_X12_sameAs_b4 M0 n4) v1 (v2 ||| (0 : Int32)) (v3 + (1 : Int32)) else (if (f_X12_isDoing (jrm v3 (8 : Int32)) M0) = 0 then (f_X12_sameAs_b4 M0 n4) v1 (v2 ||| (0 : Int32)) (v3 + (1 : Int32)) else (f_X12_areSame (v3 / (8 : Int32)) (jrm v3 (8 : Int32)) M0).bind fun t6 => (f_X12_sameAs_b4 M0 n4) v1 (v2 ||| (if t6 = 0 then (0 : Int32) else (jshl (1 : Int32) (jrm v3 (8 : Int32))))) (v3 + (1 : Int32)))))
def f_X12_sameAs (v1 : Int32) (M0 : Mem) : Option Int32 := f_X12_sameAs_b4 M0 FU v1 v1 (0 : Int32)
def f_X12_chain_b29 : Nat → Int32 → Int32 → Int32 → Mem → Option (Int32 × Mem)
  | 0, _, _, _, _ => none
  | n29 + 1, v2, v3, v4, M => (if (8 : Int32) < v4 then some ((-9 : Int32), M) else (if (f_X12_has v3 v2) = 0 then (f_X12_sameAs v3 M).bind fun t6 => (f_X12_chain_b29 n29) v2 t6 (v4 + (1 : Int32)) M else some (v4, M)))
def f_X12_chain (v1 : Int32) (v2 : Int32) (M0 : Mem) : Option (Int32 × Mem) := (if (f_X12_isDoing v1 M0) = 0 then (f_X12_no (-1 : Int32) M0).bind fun pt2 => bp pt2 fun t2 M2 => some (t2, M2) else (if (f_X12_isDoing v2 M0) = 0 then (f_X12_no (-1 : Int32) M0).bind fun pt7 => bp pt7 fun t7 M7 => some (t7, M7) else f_X12_chain_b29 FU v2 (jshl (1 : Int32) v1) (1 : Int32) M0))
def f_X12_heapOf_b6 (M0 : Mem) : Nat → Int32 → Int32 → Option Int32
  | 0, _, _ => none
  | n6 + 1, v2, v3 => (if (8 : Int32) ≤ v3 then some v2 else (f_X12_sameAs v2 M0).bind fun t3 => (f_X12_heapOf_b6 M0 n6) t3 (v3 + (1 : Int32)))
def f_X12_heapOf (v1 : Int32) (M0 : Mem) : Option Int32 := f_X12_heapOf_b6 M0 FU (jshl (1 : Int32) v1) (0 : Int32)
def f_X12_heaps_b58 (k23 : Int32 → Int32 → Int32 → Int32 → Mem → Option (Int32 × Mem)) (v1 : Int32) (v3 : Int32) (v4 : Int32) (v5 : Int32) (s0 : Int32) (s1 : Int32) (M : Mem) : Option (Int32 × Mem) := (f_X12_bits v5).bind fun t6 => (if t6 ≤ v3 then k23 v1 (s1 + s0) v3 (v4 + (1 : Int32)) M else (f_X12_bits v5).bind fun t9 => k23 v1 (s1 + s0) t9 (v4 + (1 : Int32)) M)
def f_X12_heaps_b23 : Nat → Int32 → Int32 → Int32 → Int32 → Mem → Option (Int32 × Mem)
  | 0, _, _, _, _, _ => none
  | n23 + 1, v1, v2, v3, v4, M => (if (M.1 0 5) ≤ v4 then (if v1 = 0 then some (v2, M) else some (v3, M)) else (f_X12_heapOf v4 M).bind fun t5 => f_X12_heaps_b58 (f_X12_heaps_b23 n23) v1 v3 v4 t5 (if (t5 &&& ((jshl (1 : Int32) v4) - (1 : Int32))) = 0 then (1 : Int32) else (0 : Int32)) v2 M)
def f_X12_heaps (v1 : Int32) (M0 : Mem) : Option (Int32 × Mem) := (if (f_X12_isIn v1 (0 : Int32) (1 : Int32)) = 0 then (f_X12_no (-2 : Int32) M0).bind fun pt12 => bp pt12 fun t12 M12 => some (t12, M12) else f_X12_heaps_b23 FU v1 (0 : Int32) (0 : Int32) (0 : Int32) M0)
def f_X12_isPure_b12 (M0 : Mem) (k2 : Int32 → Int32 → Option Int32) : Nat → Int32 → Int32 → Int32 → Option Int32
  | 0, _, _, _ => none
  | n12 + 1, v2, v3, v4 => (if v2 ≤ v4 then k2 v2 (v3 + (1 : Int32)) else (ldI M0 5 12 v3).bind fun t3 => (ldI M0 5 12 v4).bind fun t4 => (f_X12_areSame t3 t4 M0).bind fun t5 => (if t5 = 0 then (f_X12_isPure_b12 M0 k2 n12) v2 v3 (v4 + (1 : Int32)) else some (0 : Int32)))
def f_X12_isPure_b2 (M0 : Mem) : Nat → Int32 → Int32 → Option Int32
  | 0, _, _ => none
  | n2 + 1, v2, v3 => (if v2 ≤ v3 then some (1 : Int32) else f_X12_isPure_b12 M0 (f_X12_isPure_b2 M0 n2) FU v2 v3 (v3 + (1 : Int32)))
def f_X12_isPure (v1 : Int32) (v2 : Int32) (M0 : Mem) : Option Int32 := f_X12_isPure_b2 M0 FU v2 v1
def f_X12_pure_b41 (k24 : Int32 → Int32 → Int32 → Int32 → Mem → Option (Int32 × Mem)) : Nat → Int32 → Int32 → Int32 → Int32 → Int32 → Mem → Option (Int32 × Mem)
  | 0, _, _, _, _, _, _ => none
  | n41 + 1, v1, v2, v3, v4, v5, M => (if (M.1 0 6) < v5 then k24 v1 v2 v3 (v4 + (1 : Int32)) M else (f_X12_isPure v4 v5 M).bind fun t6 => (if t6 = 0 then (f_X12_pure_b41 k24 n41) v1 v2 v3 v4 (v5 + (1 : Int32)) M else (f_X12_pure_b41 k24 n41) v1 (v5 - v4) v4 v4 (v5 + (1 : Int32)) M))
def f_X12_pure_b24 : Nat → Int32 → Int32 → Int32 → Int32 → Mem → Option (Int32 × Mem)
  | 0, _, _, _, _, _ => none
  | n24 + 1, v1, v2, v3, v4, M => (if (M.1 0 6) ≤ v4 then (if v1 = 0 then some (v2, M) else some (v3, M)) else f_X12_pure_b41 (f_X12_pure_b24 n24) FU v1 v2 v3 v4 ((v4 + v2) + (1 : Int32)) M)
def f_X12_pure (v1 : Int32) (M0 : Mem) : Option (Int32 × Mem) := (if (f_X12_isIn v1 (0 : Int32) (1 : Int32)) = 0 then (f_X12_no (-2 : Int32) M0).bind fun pt8 => bp pt8 fun t8 M8 => some (t8, M8) else f_X12_pure_b24 FU v1 (0 : Int32) (-9 : Int32) (0 : Int32) M0)
def f_X12_bestT_b13 : Nat → Int32 → Int32 → Int32 → Int32 → Mem → Option (Int32 × Mem)
  | 0, _, _, _, _, _ => none
  | n13 + 1, v1, v2, v3, v4, M => (if (8 : Int32) < v4 then some (v2, (wI M 0 8 v1)) else (f_X12_all (wI M 0 8 v4)).bind fun t2 => (if t2 < v3 then (f_X12_bestT_b13 n13) v1 v4 t2 (v4 + (1 : Int32)) (wI M 0 8 v4) else (f_X12_bestT_b13 n13) v1 v2 v3 (v4 + (1 : Int32)) (wI M 0 8 v4)))
def f_X12_bestT (M0 : Mem) : Option (Int32 × Mem) := f_X12_bestT_b13 FU (M0.1 0 8) (0 : Int32) (1000000 : Int32) (0 : Int32) M0
def f_X12_margin_b48 : Nat → Int32 → Int32 → Int32 → Int32 → Int32 → Mem → Option (Int32 × Mem)
  | 0, _, _, _, _, _, _ => none
  | n48 + 1, v1, v2, v4, v5, v6, M => (if (60 : Int32) ≤ v6 then some ((60 : Int32), M) else (f_X12_dueOf v1 (v4 + v6) M).bind fun t4 => (if (v5 + t4) ≤ v2 then (f_X12_margin_b48 n48) v1 v2 v4 (v5 + t4) (v6 + (1 : Int32)) M else some (v6, M)))
def f_X12_margin_b20 (v1 : Int32) (v2 : Int32) (s0 : Int32) (M : Mem) : Option (Int32 × Mem) := (if s0 = 0 then (f_X12_repeatsAt (M.1 0 6) v1 M).bind fun t2 => f_X12_margin_b48 FU v1 v2 t2 (0 : Int32) (0 : Int32) M else (f_X12_no s0 M).bind fun pt6 => bp pt6 fun t6 M6 => some (t6, M6))
def f_X12_margin (v1 : Int32) (v2 : Int32) (M0 : Mem) : Option (Int32 × Mem) := f_X12_margin_b20 v1 v2 (if (f_X12_isDoing v1 M0) = 0 then (-1 : Int32) else (f_X12_bound v2 (0 : Int32) (999 : Int32))) M0
def f_X12_firsts_b4 (M0 : Mem) : Nat → Int32 → Int32 → Option Int32
  | 0, _, _ => none
  | n4 + 1, v1, v2 => (if (M0.1 0 6) ≤ v2 then some v1 else (ldI M0 5 12 v2).bind fun t2 => (f_X12_repeatsAt v2 t2 M0).bind fun t3 => (f_X12_firsts_b4 M0 n4) (v1 ||| (if t3 = 0 then (jshl (1 : Int32) v2) else (0 : Int32))) (v2 + (1 : Int32)))
def f_X12_firsts (M0 : Mem) : Option Int32 := f_X12_firsts_b4 M0 FU (0 : Int32) (0 : Int32)
def f_X12_dueWithMore_b12 (M0 : Mem) : Nat → Int32 → Int32 → Int32 → Option Int32
  | 0, _, _, _ => none
  | n12 + 1, v1, v2, v3 => (if (M0.1 0 5) ≤ v3 then (f_X12_dueOf v1 v2 M0).bind fun t4 => some t4 else (f_X12_areSame v3 v1 M0).bind fun t5 => (if t5 = 0 then (f_X12_dueWithMore_b12 M0 n12) v1 (v2 + (0 : Int32)) (v3 + (1 : Int32)) else (ldI M0 17 8 v3).bind fun t7 => (f_X12_dueWithMore_b12 M0 n12) v1 (v2 + t7) (v3 + (1 : Int32))))
def f_X12_dueWithMore (v1 : Int32) (M0 : Mem) : Option Int32 := (f_X12_repeatsAt (M0.1 0 6) v1 M0).bind fun t1 => f_X12_dueWithMore_b12 M0 FU v1 t1 (0 : Int32)
def f_X12_leastWithMore_b5 (M0 : Mem) : Nat → Int32 → Int32 → Option Int32
  | 0, _, _ => none
  | n5 + 1, v1, v2 => (if (M0.1 0 5) ≤ v2 then some v1 else (if v1 < 0 then (f_X12_leastWithMore_b5 M0 n5) v2 (v2 + (1 : Int32)) else (f_X12_dueWithMore v2 M0).bind fun t3 => (f_X12_dueWithMore v1 M0).bind fun t4 => (if t4 ≤ t3 then (f_X12_leastWithMore_b5 M0 n5) v1 (v2 + (1 : Int32)) else (f_X12_leastWithMore_b5 M0 n5) v2 (v2 + (1 : Int32)))))
def f_X12_leastWithMore (M0 : Mem) : Option Int32 := f_X12_leastWithMore_b5 M0 FU (-9 : Int32) (0 : Int32)
def f_X12_noMore_b2 : Nat → Int32 → Mem → Option Mem
  | 0, _, _ => none
  | n2 + 1, v1, M => (if (8 : Int32) ≤ v1 then some M else (stI M 17 8 v1 (0 : Int32)).bind fun M2 => (f_X12_noMore_b2 n2) (v1 + (1 : Int32)) M2)
def f_X12_noMore (M0 : Mem) : Option Mem := f_X12_noMore_b2 FU (0 : Int32) M0
def f_X12_greedily_b95 (v2 : Int32) (v4 : Int32) (v5 : Int32) (M : Mem) : Option (Int32 × Mem) := (if v2 = 0 then some (v4, M) else some (v5, M))
def f_X12_greedily_b48 : Nat → Int32 → Int32 → Int32 → Int32 → Int32 → Mem → Option (Int32 × Mem)
  | 0, _, _, _, _, _, _ => none
  | n48 + 1, v1, v2, v4, v5, v6, M => (if v1 ≤ v6 then f_X12_greedily_b95 v2 v4 v5 M else (if (M.1 0 5) ≤ 0 then f_X12_greedily_b95 v2 v4 v5 M else (f_X12_leastWithMore M).bind fun t9 => (f_X12_dueWithMore t9 M).bind fun t10 => (ldI M 17 8 t9).bind fun t11 => (stI M 17 8 t9 (t11 + (1 : Int32))).bind fun M12 => (f_X12_greedily_b48 n48) v1 v2 (v4 + t10) t9 (v6 + (1 : Int32)) M12))
def f_X12_greedily_b24 (v1 : Int32) (v2 : Int32) (v3 : Int32) (M : Mem) : Option (Int32 × Mem) := (if v3 = 0 then (f_X12_noMore M).bind fun M3 => f_X12_greedily_b48 FU v1 v2 (0 : Int32) (-9 : Int32) (0 : Int32) M3 else (f_X12_no v3 M).bind fun pt13 => bp pt13 fun t13 M13 => some (t13, M13))
def f_X12_greedily (v1 : Int32) (v2 : Int32) (M0 : Mem) : Option (Int32 × Mem) := (if (f_X12_bound v1 (0 : Int32) (12 : Int32)) = 0 then (if (f_X12_isIn v2 (0 : Int32) (1 : Int32)) = 0 then f_X12_greedily_b24 v1 v2 (-2 : Int32) M0 else f_X12_greedily_b24 v1 v2 (f_X12_bound v1 (0 : Int32) (12 : Int32)) M0) else f_X12_greedily_b24 v1 v2 (f_X12_bound v1 (0 : Int32) (12 : Int32)) M0)
def f_X12_quota_b28 : Nat → Int32 → Int32 → Int32 → Mem → Option (Int32 × Mem)
  | 0, _, _, _, _ => none
  | n28 + 1, v1, v3, v4, M => (if (60 : Int32) ≤ v4 then some ((60 : Int32), M) else (if (M.1 0 5) ≤ 0 then some ((60 : Int32), M) else (f_X12_leastWithMore M).bind fun t5 => (f_X12_dueWithMore t5 M).bind fun t6 => (ldI M 17 8 t5).bind fun t7 => (stI M 17 8 t5 (t7 + (1 : Int32))).bind fun M8 => (if (v3 + t6) ≤ v1 then (f_X12_quota_b28 n28) v1 (v3 + t6) (v4 + (1 : Int32)) M8 else some (v4, M8))))
def f_X12_quota (v1 : Int32) (M0 : Mem) : Option (Int32 × Mem) := (if (f_X12_bound v1 (0 : Int32) (999 : Int32)) = 0 then (f_X12_noMore M0).bind fun M2 => f_X12_quota_b28 FU v1 (0 : Int32) (0 : Int32) M2 else (f_X12_no (f_X12_bound v1 (0 : Int32) (999 : Int32)) M0).bind fun pt10 => bp pt10 fun t10 M10 => some (t10, M10))
def f_X12_dueOfPair_b22 (M0 : Mem) : Nat → Int32 → Int32 → Int32 → Int32 → Int32 → Int32 → Option Int32
  | 0, _, _, _, _, _, _ => none
  | n22 + 1, v1, v2, v3, v4, v5, v6 => (if v3 ≤ v6 then some v5 else (f_X12_dueOf v1 (v4 * v6) M0).bind fun t4 => (f_X12_dueOf v2 (((v4 * v6) + v4) - (1 : Int32)) M0).bind fun t5 => (f_X12_dueOfPair_b22 M0 n22) v1 v2 v3 v4 (v5 + (t4 + t5)) (v6 + (1 : Int32)))
def f_X12_dueOfPair (v1 : Int32) (v2 : Int32) (v3 : Int32) (M0 : Mem) : Option Int32 := (f_X12_areSame v1 v2 M0).bind fun t1 => f_X12_dueOfPair_b22 M0 FU v1 v2 v3 (if t1 = 0 then (1 : Int32) else (2 : Int32)) (0 : Int32) (0 : Int32)
def f_X12_pair_b60 (k45 : Int32 → Int32 → Int32 → Int32 → Int32 → Mem → Option (Int32 × Mem)) : Nat → Int32 → Int32 → Int32 → Int32 → Int32 → Int32 → Mem → Option (Int32 × Mem)
  | 0, _, _, _, _, _, _, _ => none
  | n60 + 1, v1, v2, v4, v5, v6, v7, M => (if (M.1 0 5) ≤ v7 then k45 v1 v2 v4 v5 (v6 + (1 : Int32)) M else (f_X12_dueOfPair v6 v7 v1 M).bind fun t7 => (if v4 < 0 then (f_X12_pair_b60 k45 n60) v1 v2 (((10 : Int32) * v6) + v7) t7 v6 (v7 + (1 : Int32)) M else (if t7 < v5 then (f_X12_pair_b60 k45 n60) v1 v2 (((10 : Int32) * v6) + v7) t7 v6 (v7 + (1 : Int32)) M else (f_X12_pair_b60 k45 n60) v1 v2 v4 v5 v6 (v7 + (1 : Int32)) M)))
def f_X12_pair_b45 : Nat → Int32 → Int32 → Int32 → Int32 → Int32 → Mem → Option (Int32 × Mem)
  | 0, _, _, _, _, _, _ => none
  | n45 + 1, v1, v2, v4, v5, v6, M => (if (M.1 0 5) ≤ v6 then (if v2 = 0 then some (v4, M) else some (v5, M)) else f_X12_pair_b60 (f_X12_pair_b45 n45) FU v1 v2 v4 v5 v6 (v6 + (1 : Int32)) M)
def f_X12_pair_b24 (v1 : Int32) (v2 : Int32) (v3 : Int32) (M : Mem) : Option (Int32 × Mem) := (if v3 = 0 then f_X12_pair_b45 FU v1 v2 (-9 : Int32) (-9 : Int32) (0 : Int32) M else (f_X12_no v3 M).bind fun pt10 => bp pt10 fun t10 M10 => some (t10, M10))
def f_X12_pair (v1 : Int32) (v2 : Int32) (M0 : Mem) : Option (Int32 × Mem) := (if (f_X12_bound v1 (0 : Int32) (6 : Int32)) = 0 then (if (f_X12_isIn v2 (0 : Int32) (1 : Int32)) = 0 then f_X12_pair_b24 v1 v2 (-2 : Int32) M0 else f_X12_pair_b24 v1 v2 (f_X12_bound v1 (0 : Int32) (6 : Int32)) M0) else f_X12_pair_b24 v1 v2 (f_X12_bound v1 (0 : Int32) (6 : Int32)) M0)
def f_X12_apartOf_b4 (M0 : Mem) : Nat → Int32 → Int32 → Int32 → Option Int32
  | 0, _, _, _ => none
  | n4 + 1, v1, v2, v3 => (if (M0.1 0 5) ≤ v3 then some v2 else (ldI M0 4 8 v3).bind fun t2 => (ldI M0 4 8 v1).bind fun t3 => (f_X12_bits (t2 ^^^ t3)).bind fun t4 => (f_X12_apartOf_b4 M0 n4) v1 (v2 + t4) (v3 + (1 : Int32)))
def f_X12_apartOf (v1 : Int32) (M0 : Mem) : Option Int32 := f_X12_apartOf_b4 M0 FU v1 (0 : Int32) (0 : Int32)
def f_X12_radius_b57 (k24 : Int32 → Int32 → Int32 → Int32 → Mem → Option (Int32 × Mem)) : Nat → Int32 → Int32 → Int32 → Int32 → Int32 → Mem → Option (Int32 × Mem)
  | 0, _, _, _, _, _, _ => none
  | n57 + 1, v1, v2, v3, v4, v5, M => (if v4 ≤ v5 then k24 v1 v2 v3 (v4 + (1 : Int32)) M else (ldI M 4 8 v4).bind fun t6 => (ldI M 4 8 v5).bind fun t7 => (f_X12_bits (t6 ^^^ t7)).bind fun t8 => (if t8 ≤ v2 then (f_X12_radius_b57 k24 n57) v1 v2 v3 v4 (v5 + (1 : Int32)) M else (ldI M 4 8 v4).bind fun t10 => (ldI M 4 8 v5).bind fun t11 => (f_X12_bits (t10 ^^^ t11)).bind fun t12 => (f_X12_radius_b57 k24 n57) v1 t12 v3 v4 (v5 + (1 : Int32)) M))
def f_X12_radius_b24 : Nat → Int32 → Int32 → Int32 → Int32 → Mem → Option (Int32 × Mem)
  | 0, _, _, _, _, _ => none
  | n24 + 1, v1, v2, v3, v4, M => (if (M.1 0 5) ≤ v4 then (if v1 = 0 then some (v2, M) else some (v3, M)) else (if v3 < 0 then f_X12_radius_b57 (f_X12_radius_b24 n24) FU v1 v2 v4 v4 (0 : Int32) M else (f_X12_apartOf v4 M).bind fun t13 => (f_X12_apartOf v3 M).bind fun t14 => (if t14 ≤ t13 then f_X12_radius_b57 (f_X12_radius_b24 n24) FU v1 v2 v3 v4 (0 : Int32) M else f_X12_radius_b57 (f_X12_radius_b24 n24) FU v1 v2 v4 v4 (0 : Int32) M)))
def f_X12_radius (v1 : Int32) (M0 : Mem) : Option (Int32 × Mem) := (if (f_X12_isIn v1 (0 : Int32) (1 : Int32)) = 0 then (f_X12_no (-2 : Int32) M0).bind fun pt16 => bp pt16 fun t16 M16 => some (t16, M16) else f_X12_radius_b24 FU v1 (0 : Int32) (-9 : Int32) (0 : Int32) M0)
def f_X12_majority_b15 (M0 : Mem) (k4 : Int32 → Int32 → Option Int32) : Nat → Int32 → Int32 → Int32 → Int32 → Option Int32
  | 0, _, _, _, _ => none
  | n15 + 1, v1, v2, v3, v4 => (if (M0.1 0 5) ≤ v4 then k4 (v1 ||| (if ((2 : Int32) * v3) ≤ (M0.1 0 5) then (0 : Int32) else (jshl (1 : Int32) v2))) (v2 + (1 : Int32)) else (ldI M0 4 8 v4).bind fun t5 => (f_X12_majority_b15 M0 k4 n15) v1 v2 (v3 + ((jshr t5 v2) &&& (1 : Int32))) (v4 + (1 : Int32)))
def f_X12_majority_b4 (M0 : Mem) : Nat → Int32 → Int32 → Option Int32
  | 0, _, _ => none
  | n4 + 1, v1, v2 => (if (8 : Int32) ≤ v2 then some v1 else f_X12_majority_b15 M0 (f_X12_majority_b4 M0 n4) FU v1 v2 (0 : Int32) (0 : Int32))
def f_X12_majority (M0 : Mem) : Option Int32 := f_X12_majority_b4 M0 FU (0 : Int32) (0 : Int32)
def f_X12_dueOfKind_b4 (M0 : Mem) : Nat → Int32 → Int32 → Int32 → Option Int32
  | 0, _, _, _ => none
  | n4 + 1, v1, v2, v3 => (if (M0.1 0 6) ≤ v3 then some v2 else (ldI M0 5 12 v3).bind fun t2 => (ldI M0 2 8 t2).bind fun t3 => (if t3 = v1 then (f_X12_dueAt v3 M0).bind fun t6 => (f_X12_dueOfKind_b4 M0 n4) v1 (v2 + t6) (v3 + (1 : Int32)) else (f_X12_dueOfKind_b4 M0 n4) v1 (v2 + (0 : Int32)) (v3 + (1 : Int32))))
def f_X12_dueOfKind (v1 : Int32) (M0 : Mem) : Option Int32 := f_X12_dueOfKind_b4 M0 FU v1 (0 : Int32) (0 : Int32)
def f_X12_byKind_b30 : Nat → Int32 → Int32 → Mem → Option (Int32 × Mem)
  | 0, _, _, _ => none
  | n30 + 1, v2, v3, M => (if (6 : Int32) ≤ v3 then (if (M.1 0 6) = 0 then some ((-9 : Int32), M) else some (v2, M)) else (f_X12_dueOfKind v3 M).bind fun t6 => (f_X12_dueOfKind v2 M).bind fun t7 => (f_X12_byKind_b30 n30) (if t6 ≤ t7 then v2 else v3) (v3 + (1 : Int32)) M)
def f_X12_byKind (v1 : Int32) (M0 : Mem) : Option (Int32 × Mem) := (if (f_X12_isIn v1 (-1 : Int32) (5 : Int32)) = 0 then (f_X12_no (-2 : Int32) M0).bind fun pt11 => bp pt11 fun t11 M11 => some (t11, M11) else (if v1 < 0 then f_X12_byKind_b30 FU (0 : Int32) (1 : Int32) M0 else (f_X12_dueOfKind v1 M0).bind fun t10 => some (t10, M0)))
def f_X12_dueWithout_b8 : Nat → Int32 → Int32 → Int32 → Mem → Option (Int32 × Mem)
  | 0, _, _, _, _ => none
  | n8 + 1, v1, v2, v3, M => (if (M.1 0 6) ≤ v3 then (f_X12_all (wI M 0 6 v2)).bind fun t3 => (f_X12_forgets (wI M 0 6 v2)).bind fun M4 => some (t3, M4) else (ldI M 5 12 v3).bind fun t5 => (stI M 5 12 v2 t5).bind fun M6 => (ldI M6 5 12 v3).bind fun t7 => (f_X12_dueWithout_b8 n8) v1 (v2 + (if t7 = v1 then (0 : Int32) else (1 : Int32))) (v3 + (1 : Int32)) M6)
def f_X12_dueWithout (v1 : Int32) (M0 : Mem) : Option (Int32 × Mem) := (f_X12_thinks M0).bind fun M1 => f_X12_dueWithout_b8 FU v1 (0 : Int32) (0 : Int32) M1
def f_X12_isDone_b2 (M0 : Mem) : Nat → Int32 → Int32 → Option Int32
  | 0, _, _ => none
  | n2 + 1, v1, v2 => (if (M0.1 0 6) ≤ v2 then some (0 : Int32) else (ldI M0 5 12 v2).bind fun t2 => (if t2 = v1 then some (1 : Int32) else (f_X12_isDone_b2 M0 n2) v1 (v2 + (1 : Int32))))
def f_X12_isDone (v1 : Int32) (M0 : Mem) : Option Int32 := f_X12_isDone_b2 M0 FU v1 (0 : Int32)
def f_X12_banned_b25 : Nat → Int32 → Int32 → Int32 → Int32 → Mem → Option (Int32 × Mem)
  | 0, _, _, _, _, _ => none
  | n25 + 1, v1, v2, v3, v4, M => (if (M.1 0 5) ≤ v4 then (if v1 = 0 then some (v2, M) else some (v3, M)) else (f_X12_isDone v4 M).bind fun t5 => (if t5 = 0 then (f_X12_banned_b25 n25) v1 v2 v3 (v4 + (1 : Int32)) M else (f_X12_dueWithout v4 M).bind fun pt8 => bp pt8 fun t8 M8 => (if v2 < 0 then (f_X12_banned_b25 n25) v1 v4 t8 (v4 + (1 : Int32)) M8 else (if t8 < v3 then (f_X12_banned_b25 n25) v1 v4 t8 (v4 + (1 : Int32)) M8 else (f_X12_banned_b25 n25) v1 v2 v3 (v4 + (1 : Int32)) M8))))
def f_X12_banned (v1 : Int32) (M0 : Mem) : Option (Int32 × Mem) := (if (f_X12_isIn v1 (0 : Int32) (1 : Int32)) = 0 then (f_X12_no (-2 : Int32) M0).bind fun pt11 => bp pt11 fun t11 M11 => some (t11, M11) else f_X12_banned_b25 FU v1 (-9 : Int32) (-9 : Int32) (0 : Int32) M0)
def f_X12_dueMoved_b13 : Nat → Int32 → Int32 → Mem → Option (Int32 × Mem)
  | 0, _, _, _ => none
  | n13 + 1, v2, v3, M => (if ((M.1 0 6) - (1 : Int32)) ≤ v3 then (stI M 5 12 ((M.1 0 6) - (1 : Int32)) v2).bind fun M4 => (f_X12_all M4).bind fun t5 => (f_X12_forgets M4).bind fun M6 => some (t5, M6) else (ldI M 5 12 (v3 + (1 : Int32))).bind fun t7 => (stI M 5 12 v3 t7).bind fun M8 => (f_X12_dueMoved_b13 n13) v2 (v3 + (1 : Int32)) M8)
def f_X12_dueMoved (v1 : Int32) (M0 : Mem) : Option (Int32 × Mem) := (f_X12_thinks M0).bind fun M1 => (ldI M1 5 12 v1).bind fun t2 => f_X12_dueMoved_b13 FU t2 v1 M1
def f_X12_moved_b40 : Nat → Int32 → Int32 → Int32 → Mem → Option (Int32 × Mem)
  | 0, _, _, _, _ => none
  | n40 + 1, v2, v3, v4, M => (if (M.1 0 6) ≤ v4 then some (v2, M) else (f_X12_dueMoved v4 M).bind fun pt6 => bp pt6 fun t6 M6 => (if t6 < v3 then (f_X12_moved_b40 n40) v4 t6 (v4 + (1 : Int32)) M6 else (f_X12_moved_b40 n40) v2 v3 (v4 + (1 : Int32)) M6))
def f_X12_moved_b19 (v1 : Int32) (M : Mem) : Option (Int32 × Mem) := (if v1 < 0 then (f_X12_all M).bind fun t3 => f_X12_moved_b40 FU (-9 : Int32) t3 (0 : Int32) M else (f_X12_dueMoved v1 M).bind fun pt8 => bp pt8 fun t8 M8 => some (t8, M8))
def f_X12_moved (v1 : Int32) (M0 : Mem) : Option (Int32 × Mem) := (if v1 = (-1 : Int32) then f_X12_moved_b19 v1 M0 else (if (f_X12_isPlace v1 M0) = 0 then (f_X12_no (-1 : Int32) M0).bind fun pt10 => bp pt10 fun t10 M10 => some (t10, M10) else f_X12_moved_b19 v1 M0))
def f_X12_unlikeMarks_b17 (M0 : Mem) (k4 : Int32 → Int32 → Option Int32) : Nat → Int32 → Int32 → Int32 → Int32 → Option Int32
  | 0, _, _, _, _ => none
  | n17 + 1, v1, v2, v3, v4 => (if v2 ≤ v4 then k4 (v1 + (if v3 = 0 then (0 : Int32) else (1 : Int32))) (v2 + (1 : Int32)) else (if v3 = 0 then (f_X12_unlikeMarks_b17 M0 k4 n17) v1 v2 (0 : Int32) (v4 + (1 : Int32)) else (ldI M0 4 8 v2).bind fun t6 => (ldI M0 4 8 v4).bind fun t7 => (f_X12_unlikeMarks_b17 M0 k4 n17) v1 v2 (if t6 = t7 then (0 : Int32) else (1 : Int32)) (v4 + (1 : Int32))))
def f_X12_unlikeMarks_b4 (M0 : Mem) : Nat → Int32 → Int32 → Option Int32
  | 0, _, _ => none
  | n4 + 1, v1, v2 => (if (M0.1 0 5) ≤ v2 then some v1 else f_X12_unlikeMarks_b17 M0 (f_X12_unlikeMarks_b4 M0 n4) FU v1 v2 (1 : Int32) (0 : Int32))
def f_X12_unlikeMarks (M0 : Mem) : Option Int32 := f_X12_unlikeMarks_b4 M0 FU (0 : Int32) (0 : Int32)
def f_X12_streak_b46 (M0 : Mem) (k6 : Int32 → Int32 → Int32 → Option Int32) (v1 : Int32) (v3 : Int32) (s0 : Int32) : Option Int32 := k6 (if s0 ≤ v1 then v1 else s0) s0 (v3 + (1 : Int32))
def f_X12_streak_b45 (M0 : Mem) (k6 : Int32 → Int32 → Int32 → Option Int32) (v1 : Int32) (v3 : Int32) : Option Int32 := f_X12_streak_b46 M0 k6 v1 v3 (1 : Int32)
def f_X12_streak_b6 (M0 : Mem) : Nat → Int32 → Int32 → Int32 → Option Int32
  | 0, _, _, _ => none
  | n6 + 1, v1, v2, v3 => (if (M0.1 0 6) ≤ v3 then some v1 else (if v3 ≤ 0 then f_X12_streak_b45 M0 (f_X12_streak_b6 M0 n6) v1 v3 else (ldI M0 5 12 (v3 - (1 : Int32))).bind fun t5 => (ldI M0 5 12 v3).bind fun t6 => (f_X12_areSame t5 t6 M0).bind fun t7 => f_X12_streak_b46 M0 (f_X12_streak_b6 M0 n6) v1 v3 (if t7 = 0 then (1 : Int32) else (v2 + (1 : Int32)))))
def f_X12_streak (M0 : Mem) : Option Int32 := f_X12_streak_b6 M0 FU (0 : Int32) (0 : Int32) (0 : Int32)
def f_X12_row_b24 (v1 : Int32) (v2 : Int32) (M : Mem) : Option (Int32 × Mem) := (if v2 = 0 then (stI M 13 12 (M.1 0 24) v1).bind fun M3 => some (((wI M3 0 24 ((M3.1 0 24) + (1 : Int32))).1 0 24), (wI M3 0 24 ((M3.1 0 24) + (1 : Int32)))) else (f_X12_no v2 M).bind fun pt4 => bp pt4 fun t4 M4 => some (t4, M4))
def f_X12_row (v1 : Int32) (M0 : Mem) : Option (Int32 × Mem) := (if (f_X12_bound v1 (0 : Int32) (99 : Int32)) = 0 then (if (M0.1 0 24) = (12 : Int32) then f_X12_row_b24 v1 (-6 : Int32) M0 else f_X12_row_b24 v1 (f_X12_bound v1 (0 : Int32) (99 : Int32)) M0) else f_X12_row_b24 v1 (f_X12_bound v1 (0 : Int32) (99 : Int32)) M0)
def f_X12_judge_b12 : Nat → Int32 → Int32 → Mem → Option (Int32 × Mem)
  | 0, _, _, _ => none
  | n12 + 1, v1, v2, M => (if v1 ≤ v2 then some ((-9 : Int32), M) else (if (M.1 0 6) ≤ v2 then some (v2, M) else (ldI M 5 12 v2).bind fun t3 => (ldI M 13 12 v2).bind fun t4 => (if t3 = t4 then (f_X12_judge_b12 n12) v1 (v2 + (1 : Int32)) M else some (v2, M))))
def f_X12_judge (M0 : Mem) : Option (Int32 × Mem) := f_X12_judge_b12 FU (M0.1 0 24) (0 : Int32) (wI M0 0 24 (0 : Int32))
def f_X12_clear (M0 : Mem) : Option (Int32 × Mem) := some ((M0.1 0 24), (wI M0 0 24 (0 : Int32)))
def f_X12_lots_b79 (k70 : Int32 → Int32 → Int32 → Int32 → Int32 → Int32 → Mem → Option (Int32 × Mem)) : Nat → Int32 → Int32 → Int32 → Int32 → Int32 → Int32 → Int32 → Mem → Option (Int32 × Mem)
  | 0, _, _, _, _, _, _, _, _ => none
  | n79 + 1, v1, v3, v5, v6, v7, v8, v9, M => (if (12 : Int32) ≤ v9 then (f_X12_all M).bind fun t9 => (f_X12_all M).bind fun t10 => k70 v1 v3 v5 (v6 + t9) (v7 + (if t10 = 0 then (1 : Int32) else (0 : Int32))) (v8 + (1 : Int32)) M else (rmI ((((v5 * (1103515245 : Int32)) + (12345 : Int32)) &&& (2147483647 : Int32)) / (65536 : Int32)) (M.1 0 5)).bind fun t13 => (stI M 5 12 v9 t13).bind fun M14 => (f_X12_lots_b79 k70 n79) v1 v3 ((v5 * (1103515245 : Int32)) + (12345 : Int32)) v6 v7 v8 (v9 + (1 : Int32)) M14)
def f_X12_lots_b70 : Nat → Int32 → Int32 → Int32 → Int32 → Int32 → Int32 → Mem → Option (Int32 × Mem)
  | 0, _, _, _, _, _, _, _ => none
  | n70 + 1, v1, v3, v5, v6, v7, v8, M => (if v1 ≤ v8 then (f_X12_forgets M).bind fun M6 => (if v3 = 0 then some (v6, M6) else some (v7, M6)) else f_X12_lots_b79 (f_X12_lots_b70 n70) FU v1 v3 v5 v6 v7 v8 (0 : Int32) M)
def f_X12_lots_b27 (v1 : Int32) (v2 : Int32) (v3 : Int32) (v4 : Int32) (M : Mem) : Option (Int32 × Mem) := (if v4 = 0 then (if (M.1 0 5) = 0 then some ((0 : Int32), M) else (f_X12_thinks M).bind fun M4 => f_X12_lots_b70 FU v1 v3 v2 (0 : Int32) (0 : Int32) (0 : Int32) (wI M4 0 6 (12 : Int32))) else (f_X12_no v4 M).bind fun pt15 => bp pt15 fun t15 M15 => some (t15, M15))
def f_X12_lots (v1 : Int32) (v2 : Int32) (v3 : Int32) (M0 : Mem) : Option (Int32 × Mem) := (if (f_X12_bound v1 (1 : Int32) (20 : Int32)) = 0 then (if (f_X12_isIn v3 (0 : Int32) (1 : Int32)) = 0 then f_X12_lots_b27 v1 v2 v3 (-2 : Int32) M0 else f_X12_lots_b27 v1 v2 v3 (f_X12_bound v1 (1 : Int32) (20 : Int32)) M0) else f_X12_lots_b27 v1 v2 v3 (f_X12_bound v1 (1 : Int32) (20 : Int32)) M0)
def f_X12_count_b103 (M0 : Mem) : Nat → Int32 → Int32 → Option Int32
  | 0, _, _ => none
  | n103 + 1, v2, v3 => (if (M0.1 0 5) ≤ v3 then some v2 else (ldI M0 4 8 v3).bind fun t10 => (f_X12_bits t10).bind fun t11 => (f_X12_count_b103 M0 n103) (v2 + t11) (v3 + (1 : Int32)))
def f_X12_count (v1 : Int32) (M0 : Mem) : Option Int32 := (if (f_X12_isIn v1 (11 : Int32) (16 : Int32)) = 0 then (if v1 = (0 : Int32) then some (M0.1 0 5) else (if v1 = (1 : Int32) then some (M0.1 0 6) else (if v1 = (2 : Int32) then some (M0.1 0 7) else (if v1 = (3 : Int32) then some (M0.1 0 8) else (if v1 = (4 : Int32) then (f_X12_all M0).bind fun t7 => some t7 else (if v1 = (5 : Int32) then f_X12_count_b103 M0 FU (0 : Int32) (0 : Int32) else (if v1 = (6 : Int32) then some (M0.1 0 13) else (if v1 = (7 : Int32) then some (M0.1 0 24) else (if v1 = (8 : Int32) then some (M0.1 0 20) else some (-9 : Int32)))))))))) else (ldI M0 1 7 (v1 - (10 : Int32))).bind fun t15 => some t15)
end
