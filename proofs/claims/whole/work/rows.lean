section
/-! The world: cells by their numbers (an object, an array), what they hold in numbers (Mem: cell, place), where they lie (ad). -/
abbrev Mem : Type := Nat → Nat → Int32
def ms (V : Mem) (i : Nat) (f : Nat → Int32) : Mem := fun a => if a = i then f else V a
/-- one place is written -/
def st (V : Mem) (i k : Nat) (x : Int32) : Mem := ms V i (upd (V i) k x)
/-- a piece of a row is copied -/
def cp (V : Mem) (i0 i sp dp n : Nat) : Mem := ms V i (va_cpy (V i0) (V i) sp dp n)
def ib (i : Int32) (n : Nat) : Bool := !(decide (i < 0) || decide (n ≤ i.toNatClampNeg))
/-- the kind of each cell, how many cells -/
abbrev LY : Type := (Nat → Nat) × Nat
/-- the static tables of the class -/
def tbl (k : Nat) : List Int32 := match k with
  | 0 => [-1, 0, 1, 1, 0, 4]
  | 1 => [0, 105, 114, 99, 116, 104]
  | 2 => [10, 11, 12, 0, 13, 14]
  | 3 => [20, 21, 24, 22, 23, 0]
  | 4 => [50, 40, 10, 9, 5, 4, 1]
  | 5 => [108, 120, 120, 105, 118, 105, 105]
  | _ => [0, 108, 0, 120, 0, 118, 0]
def tba (k : Nat) (j : Nat) : Int32 := (tbl k).getD j 0
/-- System.arraycopy between two int rows; the guard is what the pure text asks -/
def cok (sp dp n : Int32) (n0 n1 : Nat) : Bool := !(decide (sp < 0) || decide (dp < 0) || decide (n < 0)) && decide (sp.toNatClampNeg + n.toNatClampNeg ≤ n0) && decide (dp.toNatClampNeg + n.toNatClampNeg ≤ n1)
def kXl : List Nat := [5, 11, 4, 146, 2, 19, 40, 40, 40, 9, 22, 22, 22, 22, 22, 22, 22, 22, 22, 22, 22, 22, 22, 22, 22, 22, 22, 22, 22, 22, 22, 22, 22, 22, 22, 2, 19, 40, 40, 40, 9, 22, 22, 22, 22, 22, 22, 22, 22, 22, 22, 22, 22, 22, 22, 22, 22, 22, 22, 22, 22, 22, 22, 22, 22, 22, 12, 0, 10, 22, 22, 22, 22, 22, 22, 22, 22, 22, 22, 22, 22, 22, 22, 22, 22, 22, 22, 22, 22, 22, 22, 22, 22, 13, 3, 7, 22, 21, 32, 1, 56, 1, 56, 1, 56, 1, 56, 1, 56, 1, 56, 1, 56, 1, 56, 2, 19, 40, 40, 40, 9, 22, 22, 22, 22, 22, 22, 22, 22, 22, 22, 22, 22, 22, 22, 22, 22, 22, 22, 22, 22, 22, 22, 22, 22, 22, 2, 19, 40, 40, 40, 9, 22, 22, 22, 22, 22, 22, 22, 22, 22, 22, 22, 22, 22, 22, 22, 22, 22, 22, 22, 22, 22, 22, 22, 22, 22, 3, 7, 3, 7, 3, 7, 3, 7, 3, 7, 3, 7, 3, 7, 3, 7, 3, 7, 3, 7, 3, 7, 3, 7, 3, 7, 3, 7, 3, 7, 3, 7, 3, 7, 3, 7, 3, 7, 3, 7, 3, 7, 3, 7, 3, 7, 3, 7]
def LX : LY := (fun i => kXl.getD i 15, 225)
def kMl : List Nat := [6, 24, 24, 336, 92, 92, 92, 1840, 146, 22, 22, 88, 56, 56, 8, 168, 32]
def LM : LY := (fun i => kMl.getD i 15, 17)
def kb (L : LY) (i k : Nat) : Bool := decide (i < L.2) && decide (L.1 i = k)
def f_X6_answerOf_L0 (_ : Int32) (_ : Int32) (_ : Int32) (_ : Mem) : Option (Int32 × Mem) := none
def f_J6_bitCount_0f7a4 (x0 : Int32) (V : Mem) : Option (Int32 × Mem) := some (((((((((x0 - (((x0).toUInt32 >>> (((1 : Int32)).toUInt32 &&& Int32.toUInt32 31)).toInt32 &&& (1431655765 : Int32))) &&& (858993459 : Int32)) + ((((x0 - (((x0).toUInt32 >>> (((1 : Int32)).toUInt32 &&& Int32.toUInt32 31)).toInt32 &&& (1431655765 : Int32)))).toUInt32 >>> (((2 : Int32)).toUInt32 &&& Int32.toUInt32 31)).toInt32 &&& (858993459 : Int32))) + (((((x0 - (((x0).toUInt32 >>> (((1 : Int32)).toUInt32 &&& Int32.toUInt32 31)).toInt32 &&& (1431655765 : Int32))) &&& (858993459 : Int32)) + ((((x0 - (((x0).toUInt32 >>> (((1 : Int32)).toUInt32 &&& Int32.toUInt32 31)).toInt32 &&& (1431655765 : Int32)))).toUInt32 >>> (((2 : Int32)).toUInt32 &&& Int32.toUInt32 31)).toInt32 &&& (858993459 : Int32)))).toUInt32 >>> (((4 : Int32)).toUInt32 &&& Int32.toUInt32 31)).toInt32) &&& (252645135 : Int32)) + (((((((x0 - (((x0).toUInt32 >>> (((1 : Int32)).toUInt32 &&& Int32.toUInt32 31)).toInt32 &&& (1431655765 : Int32))) &&& (858993459 : Int32)) + ((((x0 - (((x0).toUInt32 >>> (((1 : Int32)).toUInt32 &&& Int32.toUInt32 31)).toInt32 &&& (1431655765 : Int32)))).toUInt32 >>> (((2 : Int32)).toUInt32 &&& Int32.toUInt32 31)).toInt32 &&& (858993459 : Int32))) + (((((x0 - (((x0).toUInt32 >>> (((1 : Int32)).toUInt32 &&& Int32.toUInt32 31)).toInt32 &&& (1431655765 : Int32))) &&& (858993459 : Int32)) + ((((x0 - (((x0).toUInt32 >>> (((1 : Int32)).toUInt32 &&& Int32.toUInt32 31)).toInt32 &&& (1431655765 : Int32)))).toUInt32 >>> (((2 : Int32)).toUInt32 &&& Int32.toUInt32 31)).toInt32 &&& (858993459 : Int32)))).toUInt32 >>> (((4 : Int32)).toUInt32 &&& Int32.toUInt32 31)).toInt32) &&& (252645135 : Int32))).toUInt32 >>> (((8 : Int32)).toUInt32 &&& Int32.toUInt32 31)).toInt32) + ((((((((x0 - (((x0).toUInt32 >>> (((1 : Int32)).toUInt32 &&& Int32.toUInt32 31)).toInt32 &&& (1431655765 : Int32))) &&& (858993459 : Int32)) + ((((x0 - (((x0).toUInt32 >>> (((1 : Int32)).toUInt32 &&& Int32.toUInt32 31)).toInt32 &&& (1431655765 : Int32)))).toUInt32 >>> (((2 : Int32)).toUInt32 &&& Int32.toUInt32 31)).toInt32 &&& (858993459 : Int32))) + (((((x0 - (((x0).toUInt32 >>> (((1 : Int32)).toUInt32 &&& Int32.toUInt32 31)).toInt32 &&& (1431655765 : Int32))) &&& (858993459 : Int32)) + ((((x0 - (((x0).toUInt32 >>> (((1 : Int32)).toUInt32 &&& Int32.toUInt32 31)).toInt32 &&& (1431655765 : Int32)))).toUInt32 >>> (((2 : Int32)).toUInt32 &&& Int32.toUInt32 31)).toInt32 &&& (858993459 : Int32)))).toUInt32 >>> (((4 : Int32)).toUInt32 &&& Int32.toUInt32 31)).toInt32) &&& (252645135 : Int32)) + (((((((x0 - (((x0).toUInt32 >>> (((1 : Int32)).toUInt32 &&& Int32.toUInt32 31)).toInt32 &&& (1431655765 : Int32))) &&& (858993459 : Int32)) + ((((x0 - (((x0).toUInt32 >>> (((1 : Int32)).toUInt32 &&& Int32.toUInt32 31)).toInt32 &&& (1431655765 : Int32)))).toUInt32 >>> (((2 : Int32)).toUInt32 &&& Int32.toUInt32 31)).toInt32 &&& (858993459 : Int32))) + (((((x0 - (((x0).toUInt32 >>> (((1 : Int32)).toUInt32 &&& Int32.toUInt32 31)).toInt32 &&& (1431655765 : Int32))) &&& (858993459 : Int32)) + ((((x0 - (((x0).toUInt32 >>> (((1 : Int32)).toUInt32 &&& Int32.toUInt32 31)).toInt32 &&& (1431655765 : Int32)))).toUInt32 >>> (((2 : Int32)).toUInt32 &&& Int32.toUInt32 31)).toInt32 &&& (858993459 : Int32)))).toUInt32 >>> (((4 : Int32)).toUInt32 &&& Int32.toUInt32 31)).toInt32) &&& (252645135 : Int32))).toUInt32 >>> (((8 : Int32)).toUInt32 &&& Int32.toUInt32 31)).toInt32)).toUInt32 >>> (((16 : Int32)).toUInt32 &&& Int32.toUInt32 31)).toInt32) &&& (63 : Int32)), V)
def f_J7_fill_53178_5 : Nat → Nat → Int32 → Int32 → Int32 → Mem → Option (Mem)
  | 0, _, _, _, _, _ => none
  | n + 1, r0, x1, x2, x3, V => (if x3 ≤ x2 then some V else (if ib x2 40 then (f_J7_fill_53178_5 n r0 x1 (x2 + 1) x3 (st V r0 (x2).toNatClampNeg x1)) else none))
def f_J7_fill_53178 (r0 : Nat) (x1 : Int32) (V : Mem) : Option (Mem) := (f_J7_fill_53178_5 4096 r0 x1 (0 : Int32) (40 : Int32) V)
def f_X2_isMissing (z : Nat) (V : Mem) : Option (Int32 × Mem) := (if (V z 1) = (-1 : Int32) then some ((1 : Int32), V) else some ((0 : Int32), V))
def f_X2_become (z : Nat) (x1 : Int32) (x2 : Int32) (V : Mem) : Option (Mem) := ((f_J7_fill_53178 (z + 1) (0 : Int32) (st (st V z 1 x1) z 2 x2)).bind fun q15 => some q15)
def f_X2_holds (z : Nat) (x1 : Int32) (x2 : Int32) (V : Mem) : Option (Int32 × Mem) := (if x1 < (0 : Int32) then some ((0 : Int32), V) else (if x2 < (0 : Int32) then some ((0 : Int32), V) else (if ((V z 2) - x2) < x1 then some ((0 : Int32), V) else some ((1 : Int32), V))))
def f_X2_findingAt (z : Nat) (x1 : Int32) (x2 : Int32) (V : Mem) : Option (Int32 × Mem) := ((f_X2_isMissing z V).bind fun q1 => (if q1.1 = (0 : Int32) then ((f_X2_holds z x1 x2 q1.2).bind fun q12 => (if q12.1 = (0 : Int32) then some ((2 : Int32), q12.2) else some ((0 : Int32), q12.2))) else some ((1 : Int32), q1.2)))
def f_X2_narrowed (z : Nat) (x1 : Int32) (V : Mem) : Option (Int32 × Mem) := (if (V z 1) = (0 : Int32) then some ((x1).toInt8.toInt32, V) else (if (V z 1) = (1 : Int32) then some ((x1).toInt16.toInt32, V) else some (x1, V)))
def f_X1_standAt_8 : Nat → Nat → Int32 → Mem → Option (Mem)
  | 0, _, _, _ => none
  | n + 1, r0, x3, V => (if (3 : Int32) ≤ x3 then some V else (if ib x3 6 then (f_X1_standAt_8 n r0 (x3 + 1) (st V r0 (x3).toNatClampNeg (0 : Int32))) else none))
def f_X1_standAt (r0 : Nat) (x1 : Int32) (x2 : Int32) (V : Mem) : Option (Mem) := (if ib x1 6 then (f_X1_standAt_8 4096 r0 (x1 + (1 : Int32)) (st V r0 (x1).toNatClampNeg x2)) else none)
def f_X1_over (r0 : Nat) (x1 : Int32) (x2 : Int32) (x3 : Int32) (V : Mem) : Option (Mem) := (if x1 = (1 : Int32) then (if ib x2 6 then ((f_X1_standAt r0 x2 ((V r0 (x2).toNatClampNeg) + (1 : Int32)) V).bind fun q43 => some q43) else none) else (if x1 = (2 : Int32) then ((f_X1_standAt r0 x2 x3 V).bind fun q52 => some q52) else (if x1 = (3 : Int32) then (if cok (3 : Int32) (0 : Int32) (3 : Int32) 6 6 then (if ib x2 6 then ((f_X1_standAt r0 x2 (((cp V r0 r0 ((3 : Int32)).toNatClampNeg ((0 : Int32)).toNatClampNeg ((3 : Int32)).toNatClampNeg) r0 (x2).toNatClampNeg) + (1 : Int32)) (cp V r0 r0 ((3 : Int32)).toNatClampNeg ((0 : Int32)).toNatClampNeg ((3 : Int32)).toNatClampNeg)).bind fun q73 => some q73) else none) else none) else (if x1 = (4 : Int32) then some V else (if x1 = (5 : Int32) then (if cok (0 : Int32) (3 : Int32) (3 : Int32) 6 6 then ((f_X1_standAt r0 (0 : Int32) (0 : Int32) (cp V r0 r0 ((0 : Int32)).toNatClampNeg ((3 : Int32)).toNatClampNeg ((3 : Int32)).toNatClampNeg)).bind fun q90 => some q90) else none) else some V)))))
def f_X1_toThemselves_2 : Nat → Nat → Int32 → Mem → Option (Mem)
  | 0, _, _, _ => none
  | n + 1, r0, x1, V => (if (6 : Int32) ≤ x1 then some V else (if ib x1 6 then (f_X1_toThemselves_2 n r0 (x1 + 1) (st V r0 (x1).toNatClampNeg ((x1 + (1 : Int32)) * (1000 : Int32)))) else none))
def f_X1_toThemselves (r0 : Nat) (V : Mem) : Option (Mem) := (f_X1_toThemselves_2 4096 r0 (0 : Int32) V)
def f_X1_sourceOf (x0 : Int32) (V : Mem) : Option (Int32 × Mem) := some (((x0 / (1000 : Int32)) - (1 : Int32)), V)
def f_X1_amountOf (x0 : Int32) (V : Mem) : Option (Int32 × Mem) := some ((x0 - (x0 / (1000 : Int32)) * (1000 : Int32)), V)
def f_X4_add (z : Nat) (x1 : Int32) (V : Mem) : Option (Mem) := (if (23 : Int32) ≤ (V z 1) then some V else (if ib (V z 1) 23 then some (st (st V (z + 1) ((V z 1)).toNatClampNeg (vp_nar .char ((x1).toUInt32 % 65536).toInt32)) z 1 (((st V (z + 1) ((V z 1)).toNatClampNeg (vp_nar .char ((x1).toUInt32 % 65536).toInt32)) z 1) + (1 : Int32))) else none))
def f_X4_addFigures_31 (z : Nat) (k4 : Int32 → Int32 → Mem → Option (Mem)) (x1 : Int32) (x2 : Int32) (V : Mem) : Option (Mem) := (k4 x1 (x2 / (10 : Int32)) V)
def f_X4_addFigures_18 (z : Nat) (k4 : Int32 → Int32 → Mem → Option (Mem)) (x1 : Int32) (x2 : Int32) (V : Mem) : Option (Mem) := (if x2 = (0 : Int32) then none else ((f_X4_add z ((48 : Int32) + ((x1 / x2) - ((x1 / x2) / (10 : Int32)) * (10 : Int32))) V).bind fun q28 => (f_X4_addFigures_31 z k4 x1 x2 q28)))
def f_X4_addFigures_4 (z : Nat) : Nat → Int32 → Int32 → Mem → Option (Mem)
  | 0, _, _, _ => none
  | n + 1, x1, x2, V => (if x2 ≤ (0 : Int32) then some V else (if x2 ≤ x1 then (f_X4_addFigures_18 z (f_X4_addFigures_4 z n) x1 x2 V) else (if x2 = (1 : Int32) then (f_X4_addFigures_18 z (f_X4_addFigures_4 z n) x1 x2 V) else (f_X4_addFigures_31 z (f_X4_addFigures_4 z n) x1 x2 V))))
def f_X4_addFigures (z : Nat) (x1 : Int32) (V : Mem) : Option (Mem) := (f_X4_addFigures_4 z 4096 x1 (1000 : Int32) V)
def f_X4_addRoman_47 (z : Nat) (k12 : Int32 → Int32 → Mem → Option (Mem)) (x2 : Int32) (x3 : Int32) (V : Mem) : Option (Mem) := (if ib x3 7 then (k12 (x2 - (tba 4 (x3).toNatClampNeg)) x3 V) else none)
def f_X4_addRoman_12 (z : Nat) (k4 : Int32 → Int32 → Mem → Option (Mem)) : Nat → Int32 → Int32 → Mem → Option (Mem)
  | 0, _, _, _ => none
  | n + 1, x2, x3, V => (if ib x3 7 then (if x2 < (tba 4 (x3).toNatClampNeg) then (k4 x2 (x3 + 1) V) else (if ib x3 7 then ((f_X4_add z (tba 5 (x3).toNatClampNeg) V).bind fun q27 => (if ib x3 7 then (if (tba 6 (x3).toNatClampNeg) = (0 : Int32) then (f_X4_addRoman_47 z (f_X4_addRoman_12 z k4 n) x2 x3 q27) else (if ib x3 7 then ((f_X4_add z (tba 6 (x3).toNatClampNeg) q27).bind fun q44 => (f_X4_addRoman_47 z (f_X4_addRoman_12 z k4 n) x2 x3 q44)) else none)) else none)) else none)) else none)
def f_X4_addRoman_4 (z : Nat) : Nat → Int32 → Int32 → Mem → Option (Mem)
  | 0, _, _, _ => none
  | n + 1, x2, x3, V => (if (7 : Int32) ≤ x3 then some V else (f_X4_addRoman_12 z (f_X4_addRoman_4 z n) 4096 x2 x3 V))
def f_X4_addRoman (z : Nat) (x1 : Int32) (V : Mem) : Option (Mem) := (f_X4_addRoman_4 z 4096 x1 (0 : Int32) V)
def f_X4_addLetters_20 (z : Nat) (x1 : Int32) (x2 : Int32) (V : Mem) : Option (Mem) := ((f_X4_add z (x2 + ((x1 - (1 : Int32)) - ((x1 - (1 : Int32)) / (26 : Int32)) * (26 : Int32))) V).bind fun q29 => some q29)
def f_X4_addLetters (z : Nat) (x1 : Int32) (x2 : Int32) (V : Mem) : Option (Mem) := (if x1 ≤ (26 : Int32) then (f_X4_addLetters_20 z x1 x2 V) else ((f_X4_add z ((x2 + ((x1 - (1 : Int32)) / (26 : Int32))) - (1 : Int32)) V).bind fun q17 => (f_X4_addLetters_20 z x1 x2 q17)))
def f_X4_addNumerals_8 (z : Nat) (x1 : Int32) (V : Mem) : Option (Mem) := ((f_X4_addFigures z x1 V).bind fun q10 => some q10)
def f_X4_addNumerals_43_cz (z : Nat) (s1 : Int32) (s2 : Int32) (V : Mem) : Option (Mem) := ((f_X4_addLetters z s1 s2 V).bind fun q43 => some q43)
def f_X4_addNumerals (z : Nat) (x1 : Int32) (x2 : Int32) (V : Mem) : Option (Mem) := (if x1 = (0 : Int32) then (f_X4_addNumerals_8 z x1 V) else (if x2 = (0 : Int32) then (f_X4_addNumerals_8 z x1 V) else (if x2 = (2 : Int32) then ((f_X4_addRoman z x1 V).bind fun q23 => some q23) else (if x2 = (1 : Int32) then (f_X4_addNumerals_43_cz z x1 (97 : Int32) V) else (f_X4_addNumerals_43_cz z x1 (65 : Int32) V)))))
def f_X4_areItems_13 (z : Nat) : Nat → Nat → Int32 → Int32 → Int32 → Mem → Option (Int32 × Mem)
  | 0, _, _, _, _, _ => none
  | n + 1, r1, x2, x3, x4, V => (if x3 ≤ x4 then some ((1 : Int32), V) else (if ib (x2 + x4) 40 then (if ib x4 23 then (if (V (r1 + 1) ((x2 + x4)).toNatClampNeg) = (V (z + 1) (x4).toNatClampNeg) then (f_X4_areItems_13 z n r1 x2 x3 (x4 + 1) V) else some ((0 : Int32), V)) else none) else none))
def f_X4_areItems (z : Nat) (r1 : Nat) (x2 : Int32) (x3 : Int32) (V : Mem) : Option (Int32 × Mem) := (if x3 = (V z 1) then (f_X4_areItems_13 z 4096 r1 x2 x3 (0 : Int32) V) else some ((0 : Int32), V))
def f_X4_order_14 (z : Nat) : Nat → Nat → Int32 → Int32 → Mem → Option (Int32 × Mem)
  | 0, _, _, _, _ => none
  | n + 1, r1, x2, x3, V => (if x2 ≤ x3 then some (((V z 1) - (V r1 1)), V) else (if ib x3 23 then (if ib x3 23 then (if (V (z + 1) (x3).toNatClampNeg) = (V (r1 + 1) (x3).toNatClampNeg) then (f_X4_order_14 z n r1 x2 (x3 + 1) V) else (if ib x3 23 then (if ib x3 23 then some (((V (z + 1) (x3).toNatClampNeg) - (V (r1 + 1) (x3).toNatClampNeg)), V) else none) else none)) else none) else none))
def f_X4_order (z : Nat) (r1 : Nat) (V : Mem) : Option (Int32 × Mem) := (f_X4_order_14 z 4096 r1 (if (V r1 1) < (V z 1) then (V r1 1) else (V z 1)) (0 : Int32) V)
def f_X3_isNone (z : Nat) (V : Mem) : Option (Int32 × Mem) := (if (V z 4) = (0 : Int32) then some ((1 : Int32), V) else some ((0 : Int32), V))
def f_X3_has (z : Nat) (x1 : Int32) (V : Mem) : Option (Int32 × Mem) := (if x1 < (0 : Int32) then some ((0 : Int32), V) else (if (V z 4) ≤ x1 then some ((0 : Int32), V) else some ((1 : Int32), V)))
def f_X3_isLabelled (z : Nat) (x1 : Int32) (V : Mem) : Option (Int32 × Mem) := (if ib x1 24 then (if (V (z + 2) (x1).toNatClampNeg) = (4 : Int32) then some ((0 : Int32), V) else (if ib x1 24 then (if (V (z + 2) (x1).toNatClampNeg) = (5 : Int32) then some ((0 : Int32), V) else some ((1 : Int32), V)) else none)) else none)
def f_X3_howManyOf_25 (z : Nat) (k4 : Int32 → Int32 → Int32 → Mem → Option (Int32 × Mem)) (x1 : Int32) (x2 : Int32) (x3 : Int32) (V : Mem) : Option (Int32 × Mem) := (k4 x1 x2 (x3 + 1) V)
def f_X3_howManyOf_4 (z : Nat) : Nat → Int32 → Int32 → Int32 → Mem → Option (Int32 × Mem)
  | 0, _, _, _, _ => none
  | n + 1, x1, x2, x3, V => (if (V z 4) ≤ x3 then some (x2, V) else (if ib x3 24 then (if (V (z + 2) (x3).toNatClampNeg) = x1 then (f_X3_howManyOf_25 z (f_X3_howManyOf_4 z n) x1 (x2 + 1) x3 V) else (f_X3_howManyOf_25 z (f_X3_howManyOf_4 z n) x1 x2 x3 V)) else none))
def f_X3_howManyOf (z : Nat) (x1 : Int32) (V : Mem) : Option (Int32 × Mem) := (f_X3_howManyOf_4 z 4096 x1 (0 : Int32) (0 : Int32) V)
def f_X3_become (z : Nat) (r1 : Nat) (V : Mem) : Option (Mem) := (if cok (0 : Int32) (0 : Int32) (3 : Int32) 3 3 then (if cok (0 : Int32) (0 : Int32) ((cp V (r1 + 1) (z + 1) ((0 : Int32)).toNatClampNeg ((0 : Int32)).toNatClampNeg ((3 : Int32)).toNatClampNeg) r1 4) 24 24 then (if cok (0 : Int32) (0 : Int32) ((cp (cp V (r1 + 1) (z + 1) ((0 : Int32)).toNatClampNeg ((0 : Int32)).toNatClampNeg ((3 : Int32)).toNatClampNeg) (r1 + 2) (z + 2) ((0 : Int32)).toNatClampNeg ((0 : Int32)).toNatClampNeg (((cp V (r1 + 1) (z + 1) ((0 : Int32)).toNatClampNeg ((0 : Int32)).toNatClampNeg ((3 : Int32)).toNatClampNeg) r1 4)).toNatClampNeg) r1 4) 24 24 then (if cok (0 : Int32) (0 : Int32) ((cp (cp (cp V (r1 + 1) (z + 1) ((0 : Int32)).toNatClampNeg ((0 : Int32)).toNatClampNeg ((3 : Int32)).toNatClampNeg) (r1 + 2) (z + 2) ((0 : Int32)).toNatClampNeg ((0 : Int32)).toNatClampNeg (((cp V (r1 + 1) (z + 1) ((0 : Int32)).toNatClampNeg ((0 : Int32)).toNatClampNeg ((3 : Int32)).toNatClampNeg) r1 4)).toNatClampNeg) (r1 + 3) (z + 3) ((0 : Int32)).toNatClampNeg ((0 : Int32)).toNatClampNeg (((cp (cp V (r1 + 1) (z + 1) ((0 : Int32)).toNatClampNeg ((0 : Int32)).toNatClampNeg ((3 : Int32)).toNatClampNeg) (r1 + 2) (z + 2) ((0 : Int32)).toNatClampNeg ((0 : Int32)).toNatClampNeg (((cp V (r1 + 1) (z + 1) ((0 : Int32)).toNatClampNeg ((0 : Int32)).toNatClampNeg ((3 : Int32)).toNatClampNeg) r1 4)).toNatClampNeg) r1 4)).toNatClampNeg) r1 4) 24 24 then some (st (st (cp (cp (cp (cp V (r1 + 1) (z + 1) ((0 : Int32)).toNatClampNeg ((0 : Int32)).toNatClampNeg ((3 : Int32)).toNatClampNeg) (r1 + 2) (z + 2) ((0 : Int32)).toNatClampNeg ((0 : Int32)).toNatClampNeg (((cp V (r1 + 1) (z + 1) ((0 : Int32)).toNatClampNeg ((0 : Int32)).toNatClampNeg ((3 : Int32)).toNatClampNeg) r1 4)).toNatClampNeg) (r1 + 3) (z + 3) ((0 : Int32)).toNatClampNeg ((0 : Int32)).toNatClampNeg (((cp (cp V (r1 + 1) (z + 1) ((0 : Int32)).toNatClampNeg ((0 : Int32)).toNatClampNeg ((3 : Int32)).toNatClampNeg) (r1 + 2) (z + 2) ((0 : Int32)).toNatClampNeg ((0 : Int32)).toNatClampNeg (((cp V (r1 + 1) (z + 1) ((0 : Int32)).toNatClampNeg ((0 : Int32)).toNatClampNeg ((3 : Int32)).toNatClampNeg) r1 4)).toNatClampNeg) r1 4)).toNatClampNeg) (r1 + 4) (z + 4) ((0 : Int32)).toNatClampNeg ((0 : Int32)).toNatClampNeg (((cp (cp (cp V (r1 + 1) (z + 1) ((0 : Int32)).toNatClampNeg ((0 : Int32)).toNatClampNeg ((3 : Int32)).toNatClampNeg) (r1 + 2) (z + 2) ((0 : Int32)).toNatClampNeg ((0 : Int32)).toNatClampNeg (((cp V (r1 + 1) (z + 1) ((0 : Int32)).toNatClampNeg ((0 : Int32)).toNatClampNeg ((3 : Int32)).toNatClampNeg) r1 4)).toNatClampNeg) (r1 + 3) (z + 3) ((0 : Int32)).toNatClampNeg ((0 : Int32)).toNatClampNeg (((cp (cp V (r1 + 1) (z + 1) ((0 : Int32)).toNatClampNeg ((0 : Int32)).toNatClampNeg ((3 : Int32)).toNatClampNeg) (r1 + 2) (z + 2) ((0 : Int32)).toNatClampNeg ((0 : Int32)).toNatClampNeg (((cp V (r1 + 1) (z + 1) ((0 : Int32)).toNatClampNeg ((0 : Int32)).toNatClampNeg ((3 : Int32)).toNatClampNeg) r1 4)).toNatClampNeg) r1 4)).toNatClampNeg) r1 4)).toNatClampNeg) z 4 ((cp (cp (cp (cp V (r1 + 1) (z + 1) ((0 : Int32)).toNatClampNeg ((0 : Int32)).toNatClampNeg ((3 : Int32)).toNatClampNeg) (r1 + 2) (z + 2) ((0 : Int32)).toNatClampNeg ((0 : Int32)).toNatClampNeg (((cp V (r1 + 1) (z + 1) ((0 : Int32)).toNatClampNeg ((0 : Int32)).toNatClampNeg ((3 : Int32)).toNatClampNeg) r1 4)).toNatClampNeg) (r1 + 3) (z + 3) ((0 : Int32)).toNatClampNeg ((0 : Int32)).toNatClampNeg (((cp (cp V (r1 + 1) (z + 1) ((0 : Int32)).toNatClampNeg ((0 : Int32)).toNatClampNeg ((3 : Int32)).toNatClampNeg) (r1 + 2) (z + 2) ((0 : Int32)).toNatClampNeg ((0 : Int32)).toNatClampNeg (((cp V (r1 + 1) (z + 1) ((0 : Int32)).toNatClampNeg ((0 : Int32)).toNatClampNeg ((3 : Int32)).toNatClampNeg) r1 4)).toNatClampNeg) r1 4)).toNatClampNeg) (r1 + 4) (z + 4) ((0 : Int32)).toNatClampNeg ((0 : Int32)).toNatClampNeg (((cp (cp (cp V (r1 + 1) (z + 1) ((0 : Int32)).toNatClampNeg ((0 : Int32)).toNatClampNeg ((3 : Int32)).toNatClampNeg) (r1 + 2) (z + 2) ((0 : Int32)).toNatClampNeg ((0 : Int32)).toNatClampNeg (((cp V (r1 + 1) (z + 1) ((0 : Int32)).toNatClampNeg ((0 : Int32)).toNatClampNeg ((3 : Int32)).toNatClampNeg) r1 4)).toNatClampNeg) (r1 + 3) (z + 3) ((0 : Int32)).toNatClampNeg ((0 : Int32)).toNatClampNeg (((cp (cp V (r1 + 1) (z + 1) ((0 : Int32)).toNatClampNeg ((0 : Int32)).toNatClampNeg ((3 : Int32)).toNatClampNeg) (r1 + 2) (z + 2) ((0 : Int32)).toNatClampNeg ((0 : Int32)).toNatClampNeg (((cp V (r1 + 1) (z + 1) ((0 : Int32)).toNatClampNeg ((0 : Int32)).toNatClampNeg ((3 : Int32)).toNatClampNeg) r1 4)).toNatClampNeg) r1 4)).toNatClampNeg) r1 4)).toNatClampNeg) r1 4)) z 6 (0 : Int32)) else none) else none) else none) else none)
def f_X3_clear (z : Nat) (V : Mem) : Option (Mem) := some (st (st V z 4 (0 : Int32)) z 6 (0 : Int32))
def f_X3_slide (z : Nat) (x1 : Int32) (x2 : Int32) (x3 : Int32) (V : Mem) : Option (Mem) := (if cok x1 x2 x3 24 24 then (if cok x1 x2 x3 24 24 then (if cok x1 x2 x3 24 24 then some (cp (cp (cp V (z + 2) (z + 2) (x1).toNatClampNeg (x2).toNatClampNeg (x3).toNatClampNeg) (z + 3) (z + 3) (x1).toNatClampNeg (x2).toNatClampNeg (x3).toNatClampNeg) (z + 4) (z + 4) (x1).toNatClampNeg (x2).toNatClampNeg (x3).toNatClampNeg) else none) else none) else none)
def f_X3_alter (z : Nat) (x1 : Int32) (x2 : Int32) (x3 : Int32) (x4 : Int32) (V : Mem) : Option (Mem) := ((f_X3_has z x1 V).bind fun q2 => (if q2.1 = (0 : Int32) then some q2.2 else (if ib x1 24 then (if ib x1 24 then (if ib x1 24 then some (st (st (st (st q2.2 (z + 2) (x1).toNatClampNeg x2) (z + 3) (x1).toNatClampNeg x3) (z + 4) (x1).toNatClampNeg x4) z 6 (if x1 < ((st (st (st q2.2 (z + 2) (x1).toNatClampNeg x2) (z + 3) (x1).toNatClampNeg x3) (z + 4) (x1).toNatClampNeg x4) z 6) then x1 else ((st (st (st q2.2 (z + 2) (x1).toNatClampNeg x2) (z + 3) (x1).toNatClampNeg x3) (z + 4) (x1).toNatClampNeg x4) z 6))) else none) else none) else none)))
def f_X3_insert (z : Nat) (x1 : Int32) (x2 : Int32) (x3 : Int32) (x4 : Int32) (V : Mem) : Option (Mem) := (if (24 : Int32) ≤ (V z 4) then some V else (if x1 < (0 : Int32) then some V else (if x1 ≤ (V z 4) then ((f_X3_slide z x1 (x1 + (1 : Int32)) ((V z 4) - x1) V).bind fun q33 => ((f_X3_alter z x1 x2 x3 x4 (st q33 z 4 ((q33 z 4) + (1 : Int32)))).bind fun q52 => some q52)) else some V)))
def f_X3_remove (z : Nat) (x1 : Int32) (V : Mem) : Option (Mem) := ((f_X3_has z x1 V).bind fun q2 => (if q2.1 = (0 : Int32) then some q2.2 else ((f_X3_slide z (x1 + (1 : Int32)) x1 (((q2.2 z 4) - x1) - (1 : Int32)) q2.2).bind fun q22 => some (st (st q22 z 4 ((q22 z 4) - (1 : Int32))) z 6 (if x1 < ((st q22 z 4 ((q22 z 4) - (1 : Int32))) z 6) then x1 else ((st q22 z 4 ((q22 z 4) - (1 : Int32))) z 6))))))
def f_X3_shift (z : Nat) (x1 : Int32) (x2 : Int32) (V : Mem) : Option (Mem) := ((f_X3_has z x1 V).bind fun q2 => (if q2.1 = (0 : Int32) then some q2.2 else ((f_X3_has z x2 q2.2).bind fun q10 => (if q10.1 = (0 : Int32) then some q10.2 else (if ib x1 24 then (if ib x1 24 then (if ib x1 24 then ((f_X3_remove z x1 q10.2).bind fun q42 => ((f_X3_insert z x2 (q10.2 (z + 2) (x1).toNatClampNeg) (q10.2 (z + 3) (x1).toNatClampNeg) (q10.2 (z + 4) (x1).toNatClampNeg) q42).bind fun q52 => some q52)) else none) else none) else none)))))
def f_X3_editBy_93 (z : Nat) (x3 : Int32) (V : Mem) : Option (Mem) := (if (V z 4) ≤ (1 : Int32) then some V else ((f_X3_remove z x3 V).bind fun q103 => some q103))
def f_X3_editBy (z : Nat) (x1 : Int64) (V : Mem) : Option (Mem) := (if (1 : Int32) ≤ (V z 4) then (if ((V z 4)).toInt64 = (0 : Int64) then none else (if (lg_cmp (x1 - (x1 / (2 : Int64)) * (2 : Int64)) (0 : Int64)) = (0 : Int32) then (if (24 : Int32) ≤ (V z 4) then (f_X3_editBy_93 z (((x1 / (8 : Int64)) - ((x1 / (8 : Int64)) / ((V z 4)).toInt64) * ((V z 4)).toInt64)).toInt32 V) else ((f_X3_insert z (((x1 / (8 : Int64)) - ((x1 / (8 : Int64)) / ((V z 4)).toInt64) * ((V z 4)).toInt64)).toInt32 ((1 : Int32) + (((x1 / (64 : Int64)) - ((x1 / (64 : Int64)) / (5 : Int64)) * (5 : Int64))).toInt32) (((x1 / (512 : Int64)) - ((x1 / (512 : Int64)) / (3 : Int64)) * (3 : Int64))).toInt32 (((x1 / (4096 : Int64)) - ((x1 / (4096 : Int64)) / (21 : Int64)) * (21 : Int64))).toInt32 V).bind fun q87 => some q87)) else (f_X3_editBy_93 z (((x1 / (8 : Int64)) - ((x1 / (8 : Int64)) / ((V z 4)).toInt64) * ((V z 4)).toInt64)).toInt32 V))) else some V)
def f_X3_countOver (z : Nat) (x1 : Int32) (r2 : Nat) (V : Mem) : Option (Mem) := (if ib x1 24 then (if ib x1 24 then (if ib x1 24 then ((f_X1_over r2 (V (z + 2) (x1).toNatClampNeg) (V (z + 3) (x1).toNatClampNeg) (V (z + 4) (x1).toNatClampNeg) V).bind fun q19 => some q19) else none) else none) else none)
def f_X3_ahead_13 (z : Nat) : Nat → Int32 → Mem → Option (Nat × Mem)
  | 0, _, _ => none
  | n + 1, x2, V => (if x2 ≤ (V z 6) then (if ib x2 25 then some (((z + 5) + 1 + (x2).toNatClampNeg), V) else none) else (if ib ((V z 6) + (1 : Int32)) 25 then (if ib (V z 6) 25 then (if cok (0 : Int32) (0 : Int32) (6 : Int32) 6 6 then (if ib ((cp V ((z + 5) + 1 + ((V z 6)).toNatClampNeg) ((z + 5) + 1 + (((V z 6) + (1 : Int32))).toNatClampNeg) ((0 : Int32)).toNatClampNeg ((0 : Int32)).toNatClampNeg ((6 : Int32)).toNatClampNeg) z 6) 24 then (if ib ((cp V ((z + 5) + 1 + ((V z 6)).toNatClampNeg) ((z + 5) + 1 + (((V z 6) + (1 : Int32))).toNatClampNeg) ((0 : Int32)).toNatClampNeg ((0 : Int32)).toNatClampNeg ((6 : Int32)).toNatClampNeg) z 6) 24 then (if ib ((cp V ((z + 5) + 1 + ((V z 6)).toNatClampNeg) ((z + 5) + 1 + (((V z 6) + (1 : Int32))).toNatClampNeg) ((0 : Int32)).toNatClampNeg ((0 : Int32)).toNatClampNeg ((6 : Int32)).toNatClampNeg) z 6) 24 then ((f_X1_over ((z + 5) + 1 + (((V z 6) + (1 : Int32))).toNatClampNeg) ((cp V ((z + 5) + 1 + ((V z 6)).toNatClampNeg) ((z + 5) + 1 + (((V z 6) + (1 : Int32))).toNatClampNeg) ((0 : Int32)).toNatClampNeg ((0 : Int32)).toNatClampNeg ((6 : Int32)).toNatClampNeg) (z + 2) (((cp V ((z + 5) + 1 + ((V z 6)).toNatClampNeg) ((z + 5) + 1 + (((V z 6) + (1 : Int32))).toNatClampNeg) ((0 : Int32)).toNatClampNeg ((0 : Int32)).toNatClampNeg ((6 : Int32)).toNatClampNeg) z 6)).toNatClampNeg) ((cp V ((z + 5) + 1 + ((V z 6)).toNatClampNeg) ((z + 5) + 1 + (((V z 6) + (1 : Int32))).toNatClampNeg) ((0 : Int32)).toNatClampNeg ((0 : Int32)).toNatClampNeg ((6 : Int32)).toNatClampNeg) (z + 3) (((cp V ((z + 5) + 1 + ((V z 6)).toNatClampNeg) ((z + 5) + 1 + (((V z 6) + (1 : Int32))).toNatClampNeg) ((0 : Int32)).toNatClampNeg ((0 : Int32)).toNatClampNeg ((6 : Int32)).toNatClampNeg) z 6)).toNatClampNeg) ((cp V ((z + 5) + 1 + ((V z 6)).toNatClampNeg) ((z + 5) + 1 + (((V z 6) + (1 : Int32))).toNatClampNeg) ((0 : Int32)).toNatClampNeg ((0 : Int32)).toNatClampNeg ((6 : Int32)).toNatClampNeg) (z + 4) (((cp V ((z + 5) + 1 + ((V z 6)).toNatClampNeg) ((z + 5) + 1 + (((V z 6) + (1 : Int32))).toNatClampNeg) ((0 : Int32)).toNatClampNeg ((0 : Int32)).toNatClampNeg ((6 : Int32)).toNatClampNeg) z 6)).toNatClampNeg) (cp V ((z + 5) + 1 + ((V z 6)).toNatClampNeg) ((z + 5) + 1 + (((V z 6) + (1 : Int32))).toNatClampNeg) ((0 : Int32)).toNatClampNeg ((0 : Int32)).toNatClampNeg ((6 : Int32)).toNatClampNeg)).bind fun q78 => (f_X3_ahead_13 z n x2 (st q78 z 6 ((q78 z 6) + (1 : Int32))))) else none) else none) else none) else none) else none) else none))
def f_X3_ahead (z : Nat) (x1 : Int32) (V : Mem) : Option (Nat × Mem) := (f_X3_ahead_13 z 4096 (if (0 : Int32) < (if (V z 4) < x1 then (V z 4) else x1) then (if (V z 4) < x1 then (V z 4) else x1) else (0 : Int32)) V)
def f_X3_behind (z : Nat) (x1 : Int32) (V : Mem) : Option (Nat × Mem) := ((f_X3_ahead z (x1 + (1 : Int32)) V).bind fun q4 => (if kb LX q4.1 22 then some (q4.1, q4.2) else none))
def f_X3_ownCount (z : Nat) (x1 : Int32) (V : Mem) : Option (Int32 × Mem) := ((f_X3_ahead z (x1 + (1 : Int32)) V).bind fun q4 => (if kb LX q4.1 22 then (if ib x1 24 then (if ib (q4.2 (z + 3) (x1).toNatClampNeg) 6 then some ((q4.2 q4.1 ((q4.2 (z + 3) (x1).toNatClampNeg)).toNatClampNeg), q4.2) else none) else none) else none))
def f_X3_lastCounts_13 (z : Nat) : Nat → Nat → Int32 → Int32 → Mem → Option (Int32 × Mem)
  | 0, _, _, _, _ => none
  | n + 1, r1, x2, x3, V => (if (3 : Int32) ≤ x3 then some (x2, V) else (if ib x3 6 then (f_X3_lastCounts_13 z n r1 (x2 + (V r1 (x3).toNatClampNeg)) (x3 + 1) V) else none))
def f_X3_lastCounts (z : Nat) (V : Mem) : Option (Int32 × Mem) := ((f_X3_ahead z (V z 4) V).bind fun q5 => (if kb LX q5.1 22 then (f_X3_lastCounts_13 z 4096 q5.1 (0 : Int32) (0 : Int32) q5.2) else none))
def f_X3_isToldBy_28 (z : Nat) (k3 : Nat → Int32 → Int32 → Int32 → Mem → Option (Int32 × Mem)) (r1 : Nat) (x2 : Int32) (x3 : Int32) (x4 : Int32) (s0 : Int32) (V : Mem) : Option (Int32 × Mem) := (if ib (x2 + x4) 40 then (if (V (r1 + 1) ((x2 + x4)).toNatClampNeg) = s0 then (k3 r1 x2 x3 (x4 + 1) V) else some ((0 : Int32), V)) else none)
def f_X3_isToldBy_3 (z : Nat) : Nat → Nat → Int32 → Int32 → Int32 → Mem → Option (Int32 × Mem)
  | 0, _, _, _, _, _ => none
  | n + 1, r1, x2, x3, x4, V => (if x3 ≤ x4 then some ((1 : Int32), V) else ((f_X3_isLabelled z x4 V).bind fun q12 => (if q12.1 = (0 : Int32) then (f_X3_isToldBy_28 z (f_X3_isToldBy_3 z n) r1 x2 x3 x4 (0 : Int32) q12.2) else ((f_X3_ownCount z x4 q12.2).bind fun q21 => (f_X3_isToldBy_28 z (f_X3_isToldBy_3 z n) r1 x2 x3 x4 q21.1 q21.2)))))
def f_X3_isToldBy (z : Nat) (r1 : Nat) (x2 : Int32) (x3 : Int32) (V : Mem) : Option (Int32 × Mem) := (f_X3_isToldBy_3 z 4096 r1 x2 x3 (0 : Int32) V)
def f_X3_writeLabel_57 (z : Nat) (k37 : Nat → Int32 → Nat → Int32 → Mem → Option (Mem)) (r3 : Nat) (x4 : Int32) (r5 : Nat) (x6 : Int32) (V : Mem) : Option (Mem) := (if ib x6 6 then (if ib x6 3 then ((f_X4_addNumerals r3 (V r5 (x6).toNatClampNeg) (V (z + 1) (x6).toNatClampNeg) V).bind fun q70 => (k37 r3 x4 r5 (x6 + 1) q70)) else none) else none)
def f_X3_writeLabel_37 (z : Nat) : Nat → Nat → Int32 → Nat → Int32 → Mem → Option (Mem)
  | 0, _, _, _, _, _ => none
  | n + 1, r3, x4, r5, x6, V => (if x4 < x6 then some V else (if (V r3 1) ≤ (0 : Int32) then (f_X3_writeLabel_57 z (f_X3_writeLabel_37 z n) r3 x4 r5 x6 V) else ((f_X4_add r3 (46 : Int32) V).bind fun q54 => (f_X3_writeLabel_57 z (f_X3_writeLabel_37 z n) r3 x4 r5 x6 q54))))
def f_X3_writeLabel (z : Nat) (x1 : Int32) (x2 : Int32) (r3 : Nat) (V : Mem) : Option (Mem) := ((f_X3_isLabelled z x1 (st V r3 1 (0 : Int32))).bind fun q7 => (if q7.1 = (0 : Int32) then some q7.2 else (if ib x1 24 then ((f_X3_behind z x1 q7.2).bind fun q24 => (if kb LX q24.1 22 then (f_X3_writeLabel_37 z 4096 r3 (q7.2 (z + 3) (x1).toNatClampNeg) q24.1 (if (q7.2 (z + 3) (x1).toNatClampNeg) < x2 then (q7.2 (z + 3) (x1).toNatClampNeg) else x2) q24.2) else none)) else none)))
def f_X5_isFigure (x0 : Int32) (V : Mem) : Option (Int32 × Mem) := (if x0 < (48 : Int32) then some ((0 : Int32), V) else (if (57 : Int32) < x0 then some ((0 : Int32), V) else some ((1 : Int32), V)))
def f_X5_stepOverFigures_90_cz (z : Nat) (s1 : Int32) (V : Mem) : Option (Mem) := some (st V z 4 s1)
def f_X5_stepOverFigures_71 (z : Nat) (V : Mem) : Option (Mem) := (if (2 : Int32) < ((V z 3) - (V z 2)) then (f_X5_stepOverFigures_90_cz z (2 : Int32) V) else (f_X5_stepOverFigures_90_cz z (1 : Int32) V))
def f_X5_stepOverFigures_8 (z : Nat) : Nat → Mem → Option (Mem)
  | 0, _ => none
  | n + 1, V => (if (V z 1) ≤ (V z 3) then (f_X5_stepOverFigures_71 z  V) else (if ib (V z 3) 130 then ((f_X5_isFigure (V (z + 1) ((V z 3)).toNatClampNeg) V).bind fun q28 => (if q28.1 = (0 : Int32) then (f_X5_stepOverFigures_71 z  q28.2) else (if ib (q28.2 z 3) 130 then (f_X5_stepOverFigures_8 z n  (st (st q28.2 z 5 ((((q28.2 z 5) * (10 : Int32)) + (q28.2 (z + 1) ((q28.2 z 3)).toNatClampNeg)) - (48 : Int32))) z 3 (((st q28.2 z 5 ((((q28.2 z 5) * (10 : Int32)) + (q28.2 (z + 1) ((q28.2 z 3)).toNatClampNeg)) - (48 : Int32))) z 3) + (1 : Int32)))) else none))) else none))
def f_X5_stepOverFigures (z : Nat) (V : Mem) : Option (Mem) := (f_X5_stepOverFigures_8 z 4096  (st V z 3 (V z 2)))
def f_X5_stepOn_96 (z : Nat) (x1 : Int32) (V : Mem) : Option (Mem) := some (st V z 4 x1)
def f_X5_stepOn_84 (z : Nat) (x1 : Int32) (V : Mem) : Option (Mem) := (if x1 = (44 : Int32) then (f_X5_stepOn_96 z x1 V) else (if x1 = (59 : Int32) then (f_X5_stepOn_96 z x1 V) else some (st V z 4 (2 : Int32))))
def f_X5_stepOn (z : Nat) (V : Mem) : Option (Mem) := (if (V z 6) = (0 : Int32) then (if ((st (st V z 2 (V z 3)) z 5 (0 : Int32)) z 2) < ((st (st V z 2 (V z 3)) z 5 (0 : Int32)) z 1) then (if ib ((st (st (st V z 2 (V z 3)) z 5 (0 : Int32)) z 3 (((st (st V z 2 (V z 3)) z 5 (0 : Int32)) z 2) + (1 : Int32))) z 2) 130 then ((f_X5_isFigure ((st (st (st V z 2 (V z 3)) z 5 (0 : Int32)) z 3 (((st (st V z 2 (V z 3)) z 5 (0 : Int32)) z 2) + (1 : Int32))) (z + 1) (((st (st (st V z 2 (V z 3)) z 5 (0 : Int32)) z 3 (((st (st V z 2 (V z 3)) z 5 (0 : Int32)) z 2) + (1 : Int32))) z 2)).toNatClampNeg) (st (st (st V z 2 (V z 3)) z 5 (0 : Int32)) z 3 (((st (st V z 2 (V z 3)) z 5 (0 : Int32)) z 2) + (1 : Int32)))).bind fun q59 => (if q59.1 = (0 : Int32) then (if ((st (st (st V z 2 (V z 3)) z 5 (0 : Int32)) z 3 (((st (st V z 2 (V z 3)) z 5 (0 : Int32)) z 2) + (1 : Int32))) (z + 1) (((st (st (st V z 2 (V z 3)) z 5 (0 : Int32)) z 3 (((st (st V z 2 (V z 3)) z 5 (0 : Int32)) z 2) + (1 : Int32))) z 2)).toNatClampNeg) < (97 : Int32) then (f_X5_stepOn_84 z ((st (st (st V z 2 (V z 3)) z 5 (0 : Int32)) z 3 (((st (st V z 2 (V z 3)) z 5 (0 : Int32)) z 2) + (1 : Int32))) (z + 1) (((st (st (st V z 2 (V z 3)) z 5 (0 : Int32)) z 3 (((st (st V z 2 (V z 3)) z 5 (0 : Int32)) z 2) + (1 : Int32))) z 2)).toNatClampNeg) q59.2) else (if ((st (st (st V z 2 (V z 3)) z 5 (0 : Int32)) z 3 (((st (st V z 2 (V z 3)) z 5 (0 : Int32)) z 2) + (1 : Int32))) (z + 1) (((st (st (st V z 2 (V z 3)) z 5 (0 : Int32)) z 3 (((st (st V z 2 (V z 3)) z 5 (0 : Int32)) z 2) + (1 : Int32))) z 2)).toNatClampNeg) ≤ (122 : Int32) then (f_X5_stepOn_96 z ((st (st (st V z 2 (V z 3)) z 5 (0 : Int32)) z 3 (((st (st V z 2 (V z 3)) z 5 (0 : Int32)) z 2) + (1 : Int32))) (z + 1) (((st (st (st V z 2 (V z 3)) z 5 (0 : Int32)) z 3 (((st (st V z 2 (V z 3)) z 5 (0 : Int32)) z 2) + (1 : Int32))) z 2)).toNatClampNeg) q59.2) else (f_X5_stepOn_84 z ((st (st (st V z 2 (V z 3)) z 5 (0 : Int32)) z 3 (((st (st V z 2 (V z 3)) z 5 (0 : Int32)) z 2) + (1 : Int32))) (z + 1) (((st (st (st V z 2 (V z 3)) z 5 (0 : Int32)) z 3 (((st (st V z 2 (V z 3)) z 5 (0 : Int32)) z 2) + (1 : Int32))) z 2)).toNatClampNeg) q59.2))) else ((f_X5_stepOverFigures z q59.2).bind fun q66 => some q66))) else none) else some (st (st (st V z 2 (V z 3)) z 5 (0 : Int32)) z 4 (0 : Int32))) else some V)
def f_X5_pass_20 (z : Nat) (V : Mem) : Option (Mem) := ((f_X5_stepOn z V).bind fun q21 => some q21)
def f_X5_pass (z : Nat) (x1 : Int32) (V : Mem) : Option (Mem) := (if (V z 6) = (0 : Int32) then (if (V z 4) = x1 then (f_X5_pass_20 z  V) else (f_X5_pass_20 z  (st V z 6 (1 : Int32)))) else (f_X5_pass_20 z  V))
def f_X5_passNumber_40 (z : Nat) (V : Mem) : Option (Int32 × Mem) := ((f_X5_stepOn z V).bind fun q46 => some ((V z 5), q46))
def f_X5_passNumber_20 (z : Nat) (x1 : Int32) (V : Mem) : Option (Int32 × Mem) := (if (V z 6) = (0 : Int32) then (if (V z 5) ≤ x1 then (f_X5_passNumber_40 z  V) else (f_X5_passNumber_40 z  (st V z 6 (2 : Int32)))) else (f_X5_passNumber_40 z  V))
def f_X5_passNumber (z : Nat) (x1 : Int32) (V : Mem) : Option (Int32 × Mem) := (if (V z 6) = (0 : Int32) then (if (V z 4) = (1 : Int32) then (f_X5_passNumber_20 z x1 V) else (f_X5_passNumber_20 z x1 (st V z 6 (1 : Int32)))) else (f_X5_passNumber_20 z x1 V))
def f_X5_passSort_67 (z : Nat) (x2 : Int32) (V : Mem) : Option (Int32 × Mem) := ((f_X5_stepOn z V).bind fun q68 => some (x2, q68))
def f_X5_passSort_49 (z : Nat) (x1 : Int32) (x2 : Int32) (V : Mem) : Option (Int32 × Mem) := (if (V z 6) = (0 : Int32) then (if x1 < (16 : Int32) then (f_X5_passSort_67 z x2 V) else (f_X5_passSort_67 z x2 (st V z 6 (3 : Int32)))) else (f_X5_passSort_67 z x2 V))
def f_X5_passSort_25 (z : Nat) (x1 : Int32) (x2 : Int32) (V : Mem) : Option (Int32 × Mem) := (if (V z 6) = (0 : Int32) then (if ib x2 6 then (if (tba 1 (x2).toNatClampNeg) = (V z 4) then (f_X5_passSort_49 z x1 x2 V) else (f_X5_passSort_49 z x1 x2 (st V z 6 (1 : Int32)))) else none) else (f_X5_passSort_49 z x1 x2 V))
def f_X5_passSort_2 (z : Nat) : Nat → Int32 → Int32 → Mem → Option (Int32 × Mem)
  | 0, _, _, _ => none
  | n + 1, x1, x2, V => (if (5 : Int32) ≤ x2 then (f_X5_passSort_25 z x1 x2 V) else (if ib x2 6 then (if (tba 1 (x2).toNatClampNeg) = (V z 4) then (f_X5_passSort_25 z x1 x2 V) else (f_X5_passSort_2 z n x1 (x2 + 1) V)) else none))
def f_X5_passSort (z : Nat) (x1 : Int32) (V : Mem) : Option (Int32 × Mem) := (f_X5_passSort_2 z 4096 x1 (1 : Int32) V)
def f_X5_readLaw_37_cz (z : Nat) (k8 : Nat → Int32 → Mem → Option (Mem)) (r1 : Nat) (x2 : Int32) (s1 : Int32) (V : Mem) : Option (Mem) := ((f_X5_pass z s1 V).bind fun q37 => (k8 r1 (x2 + 1) q37))
def f_X5_readLaw_8 (z : Nat) : Nat → Nat → Int32 → Mem → Option (Mem)
  | 0, _, _, _ => none
  | n + 1, r1, x2, V => (if (3 : Int32) ≤ x2 then some V else ((f_X5_passNumber z (3 : Int32) V).bind fun q20 => (if ib x2 3 then (if (2 : Int32) ≤ x2 then (f_X5_readLaw_37_cz z (f_X5_readLaw_8 z n) r1 x2 (59 : Int32) (st q20.2 (r1 + 1) (x2).toNatClampNeg q20.1)) else (f_X5_readLaw_37_cz z (f_X5_readLaw_8 z n) r1 x2 (44 : Int32) (st q20.2 (r1 + 1) (x2).toNatClampNeg q20.1))) else none)))
def f_X5_readLaw (z : Nat) (r1 : Nat) (V : Mem) : Option (Mem) := ((f_X5_pass z (110 : Int32) V).bind fun q3 => (f_X5_readLaw_8 z 4096 r1 (0 : Int32) q3))
def f_X5_readParagraph (z : Nat) (r1 : Nat) (V : Mem) : Option (Mem) := ((f_X5_passSort z (V r1 4) V).bind fun q5 => ((f_X5_passNumber z (2 : Int32) q5.2).bind fun q11 => ((f_X5_pass z (44 : Int32) q11.2).bind fun q18 => ((f_X5_passNumber z (20 : Int32) q18).bind fun q24 => ((f_X5_pass z (59 : Int32) q24.2).bind fun q32 => (if (q32 z 6) = (0 : Int32) then ((f_X3_insert r1 (q32 r1 4) q5.1 q11.1 q24.1 q32).bind fun q51 => some q51) else some q32))))))
def f_X5_readInto_60 (z : Nat) (V : Mem) : Option (Int32 × Mem) := some ((V z 6), V)
def f_X5_readInto_49 (z : Nat) (k25 : Nat → Int32 → Mem → Option (Int32 × Mem)) (r1 : Nat) (x2 : Int32) (V : Mem) : Option (Int32 × Mem) := ((f_X5_readParagraph z r1 V).bind fun q51 => (k25 r1 (x2 + 1) q51))
def f_X5_readInto_25 (z : Nat) : Nat → Nat → Int32 → Mem → Option (Int32 × Mem)
  | 0, _, _, _ => none
  | n + 1, r1, x2, V => (if (16 : Int32) < x2 then (f_X5_readInto_60 z  V) else (if (V z 6) = (0 : Int32) then (if x2 = (0 : Int32) then (f_X5_readInto_49 z (f_X5_readInto_25 z n) r1 x2 V) else (if (V z 4) = (0 : Int32) then (f_X5_readInto_60 z  V) else (f_X5_readInto_49 z (f_X5_readInto_25 z n) r1 x2 V))) else (f_X5_readInto_60 z  V)))
def f_X5_readInto (z : Nat) (r1 : Nat) (V : Mem) : Option (Int32 × Mem) := ((f_X3_clear r1 V).bind fun q1 => ((f_X5_stepOn z (st (st q1 z 6 (0 : Int32)) z 3 (0 : Int32))).bind fun q15 => ((f_X5_readLaw z r1 q15).bind fun q20 => (f_X5_readInto_25 z 4096 r1 (0 : Int32) q20))))
def f_X0_forgetAll (z : Nat) (V : Mem) : Option (Mem) := some (st (st V z 1 (0 : Int32)) z 2 (0 : Int32))
def f_X0_keep_32 (z : Nat) (x1 : Int32) (x2 : Int32) (x3 : Int32) (x4 : Int32) (x5 : Int32) (x6 : Int32) (V : Mem) : Option (Mem) := (if ib (((V z 1) + (V z 2)) - (((V z 1) + (V z 2)) / (24 : Int32)) * (24 : Int32)) 24 then (if ib (0 : Int32) 6 then (if ib (1 : Int32) 6 then (if ib (2 : Int32) 6 then (if ib (3 : Int32) 6 then (if ib (4 : Int32) 6 then (if ib (5 : Int32) 6 then some (st (st (st (st (st (st (st V ((z + 1) + 1 + ((((V z 1) + (V z 2)) - (((V z 1) + (V z 2)) / (24 : Int32)) * (24 : Int32))).toNatClampNeg) ((0 : Int32)).toNatClampNeg x1) ((z + 1) + 1 + ((((V z 1) + (V z 2)) - (((V z 1) + (V z 2)) / (24 : Int32)) * (24 : Int32))).toNatClampNeg) ((1 : Int32)).toNatClampNeg x2) ((z + 1) + 1 + ((((V z 1) + (V z 2)) - (((V z 1) + (V z 2)) / (24 : Int32)) * (24 : Int32))).toNatClampNeg) ((2 : Int32)).toNatClampNeg x3) ((z + 1) + 1 + ((((V z 1) + (V z 2)) - (((V z 1) + (V z 2)) / (24 : Int32)) * (24 : Int32))).toNatClampNeg) ((3 : Int32)).toNatClampNeg x4) ((z + 1) + 1 + ((((V z 1) + (V z 2)) - (((V z 1) + (V z 2)) / (24 : Int32)) * (24 : Int32))).toNatClampNeg) ((4 : Int32)).toNatClampNeg x5) ((z + 1) + 1 + ((((V z 1) + (V z 2)) - (((V z 1) + (V z 2)) / (24 : Int32)) * (24 : Int32))).toNatClampNeg) ((5 : Int32)).toNatClampNeg x6) z 2 (((st (st (st (st (st (st V ((z + 1) + 1 + ((((V z 1) + (V z 2)) - (((V z 1) + (V z 2)) / (24 : Int32)) * (24 : Int32))).toNatClampNeg) ((0 : Int32)).toNatClampNeg x1) ((z + 1) + 1 + ((((V z 1) + (V z 2)) - (((V z 1) + (V z 2)) / (24 : Int32)) * (24 : Int32))).toNatClampNeg) ((1 : Int32)).toNatClampNeg x2) ((z + 1) + 1 + ((((V z 1) + (V z 2)) - (((V z 1) + (V z 2)) / (24 : Int32)) * (24 : Int32))).toNatClampNeg) ((2 : Int32)).toNatClampNeg x3) ((z + 1) + 1 + ((((V z 1) + (V z 2)) - (((V z 1) + (V z 2)) / (24 : Int32)) * (24 : Int32))).toNatClampNeg) ((3 : Int32)).toNatClampNeg x4) ((z + 1) + 1 + ((((V z 1) + (V z 2)) - (((V z 1) + (V z 2)) / (24 : Int32)) * (24 : Int32))).toNatClampNeg) ((4 : Int32)).toNatClampNeg x5) ((z + 1) + 1 + ((((V z 1) + (V z 2)) - (((V z 1) + (V z 2)) / (24 : Int32)) * (24 : Int32))).toNatClampNeg) ((5 : Int32)).toNatClampNeg x6) z 2) + (1 : Int32))) else none) else none) else none) else none) else none) else none) else none)
def f_X0_keep (z : Nat) (x1 : Int32) (x2 : Int32) (x3 : Int32) (x4 : Int32) (x5 : Int32) (x6 : Int32) (V : Mem) : Option (Mem) := (if (V z 2) = (24 : Int32) then (f_X0_keep_32 z x1 x2 x3 x4 x5 x6 (st (st V z 1 (((V z 1) + (1 : Int32)) - (((V z 1) + (1 : Int32)) / (24 : Int32)) * (24 : Int32))) z 2 (((st V z 1 (((V z 1) + (1 : Int32)) - (((V z 1) + (1 : Int32)) / (24 : Int32)) * (24 : Int32))) z 2) - (1 : Int32)))) else (f_X0_keep_32 z x1 x2 x3 x4 x5 x6 V))
def f_X0_undoLatest (z : Nat) (r1 : Nat) (V : Mem) : Option (Mem) := (if (V z 2) = (0 : Int32) then some V else (if ib ((((st V z 2 ((V z 2) - (1 : Int32))) z 1) + ((st V z 2 ((V z 2) - (1 : Int32))) z 2)) - ((((st V z 2 ((V z 2) - (1 : Int32))) z 1) + ((st V z 2 ((V z 2) - (1 : Int32))) z 2)) / (24 : Int32)) * (24 : Int32)) 24 then (if ib (1 : Int32) 6 then (if ib (0 : Int32) 6 then (if ((st V z 2 ((V z 2) - (1 : Int32))) ((z + 1) + 1 + (((((st V z 2 ((V z 2) - (1 : Int32))) z 1) + ((st V z 2 ((V z 2) - (1 : Int32))) z 2)) - ((((st V z 2 ((V z 2) - (1 : Int32))) z 1) + ((st V z 2 ((V z 2) - (1 : Int32))) z 2)) / (24 : Int32)) * (24 : Int32))).toNatClampNeg) ((0 : Int32)).toNatClampNeg) = (0 : Int32) then ((f_X3_remove r1 ((st V z 2 ((V z 2) - (1 : Int32))) ((z + 1) + 1 + (((((st V z 2 ((V z 2) - (1 : Int32))) z 1) + ((st V z 2 ((V z 2) - (1 : Int32))) z 2)) - ((((st V z 2 ((V z 2) - (1 : Int32))) z 1) + ((st V z 2 ((V z 2) - (1 : Int32))) z 2)) / (24 : Int32)) * (24 : Int32))).toNatClampNeg) ((1 : Int32)).toNatClampNeg) (st V z 2 ((V z 2) - (1 : Int32)))).bind fun q74 => some q74) else (if ((st V z 2 ((V z 2) - (1 : Int32))) ((z + 1) + 1 + (((((st V z 2 ((V z 2) - (1 : Int32))) z 1) + ((st V z 2 ((V z 2) - (1 : Int32))) z 2)) - ((((st V z 2 ((V z 2) - (1 : Int32))) z 1) + ((st V z 2 ((V z 2) - (1 : Int32))) z 2)) / (24 : Int32)) * (24 : Int32))).toNatClampNeg) ((0 : Int32)).toNatClampNeg) = (1 : Int32) then (if ib (3 : Int32) 6 then (if ib (4 : Int32) 6 then (if ib (5 : Int32) 6 then ((f_X3_insert r1 ((st V z 2 ((V z 2) - (1 : Int32))) ((z + 1) + 1 + (((((st V z 2 ((V z 2) - (1 : Int32))) z 1) + ((st V z 2 ((V z 2) - (1 : Int32))) z 2)) - ((((st V z 2 ((V z 2) - (1 : Int32))) z 1) + ((st V z 2 ((V z 2) - (1 : Int32))) z 2)) / (24 : Int32)) * (24 : Int32))).toNatClampNeg) ((1 : Int32)).toNatClampNeg) ((st V z 2 ((V z 2) - (1 : Int32))) ((z + 1) + 1 + (((((st V z 2 ((V z 2) - (1 : Int32))) z 1) + ((st V z 2 ((V z 2) - (1 : Int32))) z 2)) - ((((st V z 2 ((V z 2) - (1 : Int32))) z 1) + ((st V z 2 ((V z 2) - (1 : Int32))) z 2)) / (24 : Int32)) * (24 : Int32))).toNatClampNeg) ((3 : Int32)).toNatClampNeg) ((st V z 2 ((V z 2) - (1 : Int32))) ((z + 1) + 1 + (((((st V z 2 ((V z 2) - (1 : Int32))) z 1) + ((st V z 2 ((V z 2) - (1 : Int32))) z 2)) - ((((st V z 2 ((V z 2) - (1 : Int32))) z 1) + ((st V z 2 ((V z 2) - (1 : Int32))) z 2)) / (24 : Int32)) * (24 : Int32))).toNatClampNeg) ((4 : Int32)).toNatClampNeg) ((st V z 2 ((V z 2) - (1 : Int32))) ((z + 1) + 1 + (((((st V z 2 ((V z 2) - (1 : Int32))) z 1) + ((st V z 2 ((V z 2) - (1 : Int32))) z 2)) - ((((st V z 2 ((V z 2) - (1 : Int32))) z 1) + ((st V z 2 ((V z 2) - (1 : Int32))) z 2)) / (24 : Int32)) * (24 : Int32))).toNatClampNeg) ((5 : Int32)).toNatClampNeg) (st V z 2 ((V z 2) - (1 : Int32)))).bind fun q91 => some q91) else none) else none) else none) else (if ((st V z 2 ((V z 2) - (1 : Int32))) ((z + 1) + 1 + (((((st V z 2 ((V z 2) - (1 : Int32))) z 1) + ((st V z 2 ((V z 2) - (1 : Int32))) z 2)) - ((((st V z 2 ((V z 2) - (1 : Int32))) z 1) + ((st V z 2 ((V z 2) - (1 : Int32))) z 2)) / (24 : Int32)) * (24 : Int32))).toNatClampNeg) ((0 : Int32)).toNatClampNeg) = (2 : Int32) then (if ib (2 : Int32) 6 then ((f_X3_shift r1 ((st V z 2 ((V z 2) - (1 : Int32))) ((z + 1) + 1 + (((((st V z 2 ((V z 2) - (1 : Int32))) z 1) + ((st V z 2 ((V z 2) - (1 : Int32))) z 2)) - ((((st V z 2 ((V z 2) - (1 : Int32))) z 1) + ((st V z 2 ((V z 2) - (1 : Int32))) z 2)) / (24 : Int32)) * (24 : Int32))).toNatClampNeg) ((2 : Int32)).toNatClampNeg) ((st V z 2 ((V z 2) - (1 : Int32))) ((z + 1) + 1 + (((((st V z 2 ((V z 2) - (1 : Int32))) z 1) + ((st V z 2 ((V z 2) - (1 : Int32))) z 2)) - ((((st V z 2 ((V z 2) - (1 : Int32))) z 1) + ((st V z 2 ((V z 2) - (1 : Int32))) z 2)) / (24 : Int32)) * (24 : Int32))).toNatClampNeg) ((1 : Int32)).toNatClampNeg) (st V z 2 ((V z 2) - (1 : Int32)))).bind fun q102 => some q102) else none) else (if ((st V z 2 ((V z 2) - (1 : Int32))) ((z + 1) + 1 + (((((st V z 2 ((V z 2) - (1 : Int32))) z 1) + ((st V z 2 ((V z 2) - (1 : Int32))) z 2)) - ((((st V z 2 ((V z 2) - (1 : Int32))) z 1) + ((st V z 2 ((V z 2) - (1 : Int32))) z 2)) / (24 : Int32)) * (24 : Int32))).toNatClampNeg) ((0 : Int32)).toNatClampNeg) = (3 : Int32) then (if ib (3 : Int32) 6 then (if ib (4 : Int32) 6 then (if ib (5 : Int32) 6 then ((f_X3_alter r1 ((st V z 2 ((V z 2) - (1 : Int32))) ((z + 1) + 1 + (((((st V z 2 ((V z 2) - (1 : Int32))) z 1) + ((st V z 2 ((V z 2) - (1 : Int32))) z 2)) - ((((st V z 2 ((V z 2) - (1 : Int32))) z 1) + ((st V z 2 ((V z 2) - (1 : Int32))) z 2)) / (24 : Int32)) * (24 : Int32))).toNatClampNeg) ((1 : Int32)).toNatClampNeg) ((st V z 2 ((V z 2) - (1 : Int32))) ((z + 1) + 1 + (((((st V z 2 ((V z 2) - (1 : Int32))) z 1) + ((st V z 2 ((V z 2) - (1 : Int32))) z 2)) - ((((st V z 2 ((V z 2) - (1 : Int32))) z 1) + ((st V z 2 ((V z 2) - (1 : Int32))) z 2)) / (24 : Int32)) * (24 : Int32))).toNatClampNeg) ((3 : Int32)).toNatClampNeg) ((st V z 2 ((V z 2) - (1 : Int32))) ((z + 1) + 1 + (((((st V z 2 ((V z 2) - (1 : Int32))) z 1) + ((st V z 2 ((V z 2) - (1 : Int32))) z 2)) - ((((st V z 2 ((V z 2) - (1 : Int32))) z 1) + ((st V z 2 ((V z 2) - (1 : Int32))) z 2)) / (24 : Int32)) * (24 : Int32))).toNatClampNeg) ((4 : Int32)).toNatClampNeg) ((st V z 2 ((V z 2) - (1 : Int32))) ((z + 1) + 1 + (((((st V z 2 ((V z 2) - (1 : Int32))) z 1) + ((st V z 2 ((V z 2) - (1 : Int32))) z 2)) - ((((st V z 2 ((V z 2) - (1 : Int32))) z 1) + ((st V z 2 ((V z 2) - (1 : Int32))) z 2)) / (24 : Int32)) * (24 : Int32))).toNatClampNeg) ((5 : Int32)).toNatClampNeg) (st V z 2 ((V z 2) - (1 : Int32)))).bind fun q119 => some q119) else none) else none) else none) else (if ib (2 : Int32) 6 then (if ib ((st V z 2 ((V z 2) - (1 : Int32))) ((z + 1) + 1 + (((((st V z 2 ((V z 2) - (1 : Int32))) z 1) + ((st V z 2 ((V z 2) - (1 : Int32))) z 2)) - ((((st V z 2 ((V z 2) - (1 : Int32))) z 1) + ((st V z 2 ((V z 2) - (1 : Int32))) z 2)) / (24 : Int32)) * (24 : Int32))).toNatClampNeg) ((1 : Int32)).toNatClampNeg) 3 then some (st (st V z 2 ((V z 2) - (1 : Int32))) (r1 + 1) (((st V z 2 ((V z 2) - (1 : Int32))) ((z + 1) + 1 + (((((st V z 2 ((V z 2) - (1 : Int32))) z 1) + ((st V z 2 ((V z 2) - (1 : Int32))) z 2)) - ((((st V z 2 ((V z 2) - (1 : Int32))) z 1) + ((st V z 2 ((V z 2) - (1 : Int32))) z 2)) / (24 : Int32)) * (24 : Int32))).toNatClampNeg) ((1 : Int32)).toNatClampNeg)).toNatClampNeg ((st V z 2 ((V z 2) - (1 : Int32))) ((z + 1) + 1 + (((((st V z 2 ((V z 2) - (1 : Int32))) z 1) + ((st V z 2 ((V z 2) - (1 : Int32))) z 2)) - ((((st V z 2 ((V z 2) - (1 : Int32))) z 1) + ((st V z 2 ((V z 2) - (1 : Int32))) z 2)) / (24 : Int32)) * (24 : Int32))).toNatClampNeg) ((2 : Int32)).toNatClampNeg)) else none) else none))))) else none) else none) else none))
def f_X6_isBetween (x0 : Int32) (x1 : Int32) (x2 : Int32) (V : Mem) : Option (Int32 × Mem) := (if x0 < x1 then some ((0 : Int32), V) else (if x2 < x0 then some ((0 : Int32), V) else some ((1 : Int32), V)))
def f_X6_isRow (x0 : Int32) (V : Mem) : Option (Int32 × Mem) := ((f_X6_isBetween x0 (0 : Int32) (7 : Int32) V).bind fun q4 => (if (q4.1 &&& 1) = q4.1 then some (q4.1, q4.2) else none))
def f_X6_found (x1 : Int32) (V : Mem) : Option (Int32 × Mem) := some (((-1000010 : Int32) - x1), (st V 0 12 x1))
def f_X6_foundNothing (x1 : Int32) (V : Mem) : Option (Int32 × Mem) := some (x1, (st V 0 12 (0 : Int32)))
def f_X6_row (x1 : Int32) (x2 : Int32) (x3 : Int32) (V : Mem) : Option (Int32 × Mem) := ((f_X6_isRow x1 V).bind fun q1 => (if q1.1 = (0 : Int32) then some ((-1000001 : Int32), q1.2) else ((f_X6_isBetween x2 (0 : Int32) (2 : Int32) q1.2).bind fun q10 => (if q10.1 = (0 : Int32) then some ((-1000001 : Int32), q10.2) else (if x3 ≤ (40 : Int32) then (if (0 : Int32) ≤ x3 then (if ib x1 8 then ((f_X2_become (99 + 2 * (x1).toNatClampNeg) x2 x3 q10.2).bind fun q43 => ((f_X6_foundNothing x3 q43).bind fun q48 => some (q48.1, q48.2))) else none) else ((f_X6_found (4 : Int32) q10.2).bind fun q31 => some (q31.1, q31.2))) else some ((-1000001 : Int32), q10.2))))))
def f_X6_set (x1 : Int32) (x2 : Int32) (x3 : Int32) (V : Mem) : Option (Int32 × Mem) := ((f_X6_isRow x1 V).bind fun q1 => (if q1.1 = (0 : Int32) then some ((-1000001 : Int32), q1.2) else (if ib x1 8 then ((f_X2_findingAt (99 + 2 * (x1).toNatClampNeg) x2 (1 : Int32) q1.2).bind fun q22 => (if q22.1 = (0 : Int32) then ((f_X2_narrowed (99 + 2 * (x1).toNatClampNeg) x3 q22.2).bind fun q48 => (if ib x2 40 then (if ib x2 40 then ((f_X6_foundNothing ((st q48.2 ((99 + 2 * (x1).toNatClampNeg) + 1) (x2).toNatClampNeg q48.1) ((99 + 2 * (x1).toNatClampNeg) + 1) (x2).toNatClampNeg) (st q48.2 ((99 + 2 * (x1).toNatClampNeg) + 1) (x2).toNatClampNeg q48.1)).bind fun q60 => some (q60.1, q60.2)) else none) else none)) else ((f_X6_found q22.1 q22.2).bind fun q35 => some (q35.1, q35.2)))) else none)))
def f_X6_copy_49 (V : Mem) : Option (Int32 × Mem) := ((f_X6_found (1 : Int32) V).bind fun q51 => some (q51.1, q51.2))
def f_X6_copy_97 (V : Mem) : Option (Int32 × Mem) := ((f_X6_found (2 : Int32) V).bind fun q99 => some (q99.1, q99.2))
def f_X6_copy (x1 : Int32) (x2 : Int32) (x3 : Int32) (x4 : Int32) (x5 : Int32) (V : Mem) : Option (Int32 × Mem) := ((f_X6_isRow x1 V).bind fun q1 => (if q1.1 = (0 : Int32) then some ((-1000001 : Int32), q1.2) else ((f_X6_isRow x3 q1.2).bind fun q8 => (if q8.1 = (0 : Int32) then some ((-1000001 : Int32), q8.2) else (if ib x1 8 then (if ib x3 8 then ((f_X2_isMissing (99 + 2 * (x1).toNatClampNeg) q8.2).bind fun q35 => (if q35.1 = (0 : Int32) then ((f_X2_isMissing (99 + 2 * (x3).toNatClampNeg) q35.2).bind fun q43 => (if q43.1 = (0 : Int32) then (if (q43.2 (99 + 2 * (x1).toNatClampNeg) 1) = (q43.2 (99 + 2 * (x3).toNatClampNeg) 1) then ((f_X2_holds (99 + 2 * (x1).toNatClampNeg) x2 x5 q43.2).bind fun q79 => (if q79.1 = (0 : Int32) then (f_X6_copy_97  q79.2) else ((f_X2_holds (99 + 2 * (x3).toNatClampNeg) x4 x5 q79.2).bind fun q91 => (if q91.1 = (0 : Int32) then (f_X6_copy_97  q91.2) else (if cok x2 x4 x5 40 40 then ((f_X6_foundNothing x5 (cp q91.2 ((99 + 2 * (x1).toNatClampNeg) + 1) ((99 + 2 * (x3).toNatClampNeg) + 1) (x2).toNatClampNeg (x4).toNatClampNeg (x5).toNatClampNeg)).bind fun q124 => some (q124.1, q124.2)) else none))))) else ((f_X6_found (5 : Int32) q43.2).bind fun q70 => some (q70.1, q70.2))) else (f_X6_copy_49  q43.2))) else (f_X6_copy_49  q35.2))) else none) else none)))))
def f_X6_drop (x1 : Int32) (V : Mem) : Option (Int32 × Mem) := ((f_X6_isRow x1 V).bind fun q1 => (if q1.1 = (0 : Int32) then some ((-1000001 : Int32), q1.2) else (if ib x1 8 then ((f_X2_isMissing (99 + 2 * (x1).toNatClampNeg) q1.2).bind fun q18 => (if q18.1 = (0 : Int32) then ((f_X2_become (99 + 2 * (x1).toNatClampNeg) (-1 : Int32) (0 : Int32) q18.2).bind fun q38 => ((f_X6_foundNothing (q18.2 (99 + 2 * (x1).toNatClampNeg) 2) q38).bind fun q43 => some (q43.1, q43.2))) else ((f_X6_found (1 : Int32) q18.2).bind fun q26 => some (q26.1, q26.2)))) else none)))
def f_X6_feed (x1 : Int32) (V : Mem) : Option (Int32 × Mem) := ((f_X6_isBetween x1 (0 : Int32) (255 : Int32) V).bind fun q5 => (if q5.1 = (0 : Int32) then some ((-1000001 : Int32), q5.2) else (if (q5.2 2 1) < (130 : Int32) then (if ib (q5.2 2 1) 130 then some (((st (st q5.2 3 ((q5.2 2 1)).toNatClampNeg x1) 2 1 (((st q5.2 3 ((q5.2 2 1)).toNatClampNeg x1) 2 1) + (1 : Int32))) 2 1), (st (st q5.2 3 ((q5.2 2 1)).toNatClampNeg x1) 2 1 (((st q5.2 3 ((q5.2 2 1)).toNatClampNeg x1) 2 1) + (1 : Int32)))) else none) else some ((-1000003 : Int32), q5.2))))
def f_X6_sheet (V : Mem) : Option (Int32 × Mem) := ((f_X5_readInto 2 35 V).bind fun q8 => (if q8.1 = (0 : Int32) then ((f_X3_become 4 35 (st q8.2 2 1 (0 : Int32))).bind fun q48 => ((f_X0_forgetAll 67 q48).bind fun q55 => some ((q55 4 4), q55))) else some (((-1000100 : Int32) - ((st (st q8.2 2 1 (0 : Int32)) 0 13 q8.1) 2 2)), (st (st q8.2 2 1 (0 : Int32)) 0 13 q8.1))))
def f_X6_fault (V : Mem) : Option (Int32 × Mem) := some ((V 0 13), V)
def f_X6_undo (V : Mem) : Option (Int32 × Mem) := (if (V 67 2) = (0 : Int32) then some ((-1000002 : Int32), V) else ((f_X0_undoLatest 67 4 V).bind fun q21 => some ((q21 67 2), q21)))
def f_X6_isLevel (x0 : Int32) (V : Mem) : Option (Int32 × Mem) := ((f_X6_isBetween x0 (0 : Int32) (2 : Int32) V).bind fun q3 => (if (q3.1 &&& 1) = q3.1 then some (q3.1, q3.2) else none))
def f_X6_isTold (x0 : Int32) (x1 : Int32) (x2 : Int32) (V : Mem) : Option (Int32 × Mem) := ((f_X6_isBetween x0 (1 : Int32) (5 : Int32) V).bind fun q3 => (if q3.1 = (0 : Int32) then some ((0 : Int32), q3.2) else ((f_X6_isLevel x1 q3.2).bind fun q10 => (if q10.1 = (0 : Int32) then some ((0 : Int32), q10.2) else ((f_X6_isBetween x2 (0 : Int32) (20 : Int32) q10.2).bind fun q20 => (if q20.1 = (0 : Int32) then some ((0 : Int32), q20.2) else some ((1 : Int32), q20.2)))))))
def f_X6_put (x1 : Int32) (x2 : Int32) (x3 : Int32) (x4 : Int32) (V : Mem) : Option (Int32 × Mem) := ((f_X3_isNone 4 V).bind fun q4 => (if q4.1 = (0 : Int32) then ((f_X6_isBetween x1 (0 : Int32) (q4.2 4 4) q4.2).bind fun q22 => (if q22.1 = (0 : Int32) then some ((-1000001 : Int32), q22.2) else ((f_X6_isTold x2 x3 x4 q22.2).bind fun q32 => (if q32.1 = (0 : Int32) then some ((-1000001 : Int32), q32.2) else (if (q32.2 4 4) < (24 : Int32) then ((f_X3_insert 4 x1 x2 x3 x4 q32.2).bind fun q65 => ((f_X0_keep 67 (0 : Int32) x1 x1 x2 x3 x4 q65).bind fun q79 => some ((q79 4 4), q79))) else some ((-1000003 : Int32), q32.2)))))) else some ((-1000002 : Int32), q4.2)))
def f_X6_keepAct (x1 : Int32) (x2 : Int32) (x3 : Int32) (V : Mem) : Option (Mem) := (if ib x2 24 then (if ib x2 24 then (if ib x2 24 then ((f_X0_keep 67 x1 x2 x3 (V 6 (x2).toNatClampNeg) (V 7 (x2).toNatClampNeg) (V 8 (x2).toNatClampNeg) V).bind fun q34 => some q34) else none) else none) else none)
def f_X6_take (x1 : Int32) (V : Mem) : Option (Int32 × Mem) := ((f_X3_has 4 x1 V).bind fun q5 => (if q5.1 = (0 : Int32) then some ((-1000001 : Int32), q5.2) else (if (q5.2 4 4) = (1 : Int32) then some ((-1000002 : Int32), q5.2) else ((f_X6_keepAct (1 : Int32) x1 x1 q5.2).bind fun q32 => ((f_X3_remove 4 x1 q32).bind fun q40 => some ((q40 4 4), q40))))))
def f_X6_move (x1 : Int32) (x2 : Int32) (V : Mem) : Option (Int32 × Mem) := ((f_X3_has 4 x1 V).bind fun q5 => (if q5.1 = (0 : Int32) then some ((-1000001 : Int32), q5.2) else ((f_X3_has 4 x2 q5.2).bind fun q16 => (if q16.1 = (0 : Int32) then some ((-1000001 : Int32), q16.2) else (if x1 = x2 then some ((-1000002 : Int32), q16.2) else ((f_X6_keepAct (2 : Int32) x1 x2 q16.2).bind fun q37 => ((f_X3_shift 4 x1 x2 q37).bind fun q46 => (if ib x2 24 then some ((q46 7 (x2).toNatClampNeg), q46) else none))))))))
def f_X6_change (x1 : Int32) (x2 : Int32) (x3 : Int32) (x4 : Int32) (V : Mem) : Option (Int32 × Mem) := ((f_X3_has 4 x1 V).bind fun q5 => (if q5.1 = (0 : Int32) then some ((-1000001 : Int32), q5.2) else ((f_X6_isTold x2 x3 x4 q5.2).bind fun q15 => (if q15.1 = (0 : Int32) then some ((-1000001 : Int32), q15.2) else (if ib x1 24 then ((f_X6_keepAct (3 : Int32) x1 x1 q15.2).bind fun q39 => ((f_X3_alter 4 x1 x2 x3 x4 q39).bind fun q51 => some ((q15.2 6 (x1).toNatClampNeg), q51))) else none)))))
def f_X6_style (x1 : Int32) (x2 : Int32) (V : Mem) : Option (Int32 × Mem) := ((f_X3_isNone 4 V).bind fun q4 => (if q4.1 = (0 : Int32) then ((f_X6_isLevel x1 q4.2).bind fun q14 => (if q14.1 = (0 : Int32) then some ((-1000001 : Int32), q14.2) else ((f_X6_isBetween x2 (0 : Int32) (3 : Int32) q14.2).bind fun q23 => (if q23.1 = (0 : Int32) then some ((-1000001 : Int32), q23.2) else (if ib x1 3 then ((f_X0_keep 67 (4 : Int32) x1 (q23.2 5 (x1).toNatClampNeg) (0 : Int32) (0 : Int32) (0 : Int32) q23.2).bind fun q52 => (if ib x1 3 then some ((q23.2 5 (x1).toNatClampNeg), (st q52 5 (x1).toNatClampNeg x2)) else none)) else none))))) else some ((-1000002 : Int32), q4.2)))
def f_X6_paragraph (x1 : Int32) (x2 : Int32) (V : Mem) : Option (Int32 × Mem) := ((f_X3_has 4 x1 V).bind fun q5 => (if q5.1 = (0 : Int32) then some ((-1000001 : Int32), q5.2) else ((f_X6_isBetween x2 (0 : Int32) (5 : Int32) q5.2).bind fun q14 => (if q14.1 = (0 : Int32) then some ((-1000001 : Int32), q14.2) else (if x2 = (0 : Int32) then (if ib x1 24 then some ((q14.2 7 (x1).toNatClampNeg), q14.2) else none) else (if x2 = (1 : Int32) then (if ib x1 24 then some ((q14.2 8 (x1).toNatClampNeg), q14.2) else none) else (if (5 : Int32) ≤ x2 then ((f_X3_writeLabel 4 x1 (0 : Int32) 94 q14.2).bind fun q80 => some ((q80 94 1), q80)) else ((f_X3_behind 4 x1 q14.2).bind fun q62 => (if kb LX q62.1 22 then (if ib (x2 - (2 : Int32)) 6 then some ((q62.2 q62.1 ((x2 - (2 : Int32))).toNatClampNeg), q62.2) else none) else none)))))))))
def f_X6_signOfLabel (x1 : Int32) (x2 : Int32) (x3 : Int32) (V : Mem) : Option (Int32 × Mem) := ((f_X3_writeLabel 4 x1 x2 94 V).bind fun q10 => (if (q10 94 1) ≤ x3 then some ((-1000000 : Int32), q10) else (if ib x3 23 then some ((q10 95 (x3).toNatClampNeg), q10) else none)))
def f_X6_label (x1 : Int32) (x2 : Int32) (x3 : Int32) (V : Mem) : Option (Int32 × Mem) := ((f_X3_has 4 x1 V).bind fun q5 => (if q5.1 = (0 : Int32) then some ((-1000001 : Int32), q5.2) else ((f_X6_isLevel x2 q5.2).bind fun q12 => (if q12.1 = (0 : Int32) then some ((-1000001 : Int32), q12.2) else (if (0 : Int32) ≤ x3 then ((f_X6_signOfLabel x1 x2 x3 q12.2).bind fun q29 => some (q29.1, q29.2)) else some ((-1000001 : Int32), q12.2))))))
def f_X6_called_89 (x1 : Int32) (x3 : Int32) (x7 : Int32) (V : Mem) : Option (Int32 × Mem) := ((f_X6_signOfLabel x1 x7 x3 V).bind fun q94 => some (q94.1, q94.2))
def f_X6_called_63 : Nat → Int32 → Int32 → Nat → Nat → Int32 → Int32 → Mem → Option (Int32 × Mem)
  | 0, _, _, _, _, _, _, _ => none
  | n + 1, x1, x3, r4, r5, x6, x7, V => (if x6 ≤ x7 then (f_X6_called_89 x1 x3 x7 V) else (if ib x7 6 then (if ib x7 6 then (if (V r4 (x7).toNatClampNeg) = (V r5 (x7).toNatClampNeg) then (f_X6_called_63 n x1 x3 r4 r5 x6 (x7 + 1) V) else (f_X6_called_89 x1 x3 x7 V)) else none) else none))
def f_X6_called (x1 : Int32) (x2 : Int32) (x3 : Int32) (V : Mem) : Option (Int32 × Mem) := ((f_X3_has 4 x1 V).bind fun q5 => (if q5.1 = (0 : Int32) then some ((-1000001 : Int32), q5.2) else ((f_X3_has 4 x2 q5.2).bind fun q16 => (if q16.1 = (0 : Int32) then some ((-1000001 : Int32), q16.2) else (if (0 : Int32) ≤ x3 then ((f_X3_behind 4 x1 q16.2).bind fun q34 => (if kb LX q34.1 22 then ((f_X3_behind 4 x2 q34.2).bind fun q44 => (if kb LX q44.1 22 then (if ib x1 24 then (f_X6_called_63 4096 x1 x3 q34.1 q44.1 (q44.2 7 (x1).toNatClampNeg) (0 : Int32) q44.2) else none) else none)) else none)) else some ((-1000001 : Int32), q16.2))))))
def f_X6_span_59 : Nat → Int32 → Int32 → Int32 → Int32 → Mem → Option (Int32 × Mem)
  | 0, _, _, _, _, _ => none
  | n + 1, x2, x3, x4, x5, V => (if x2 < x5 then (if x4 = (0 : Int32) then (if ib x3 6 then ((f_X1_sourceOf (V 96 (x3).toNatClampNeg) V).bind fun q95 => some (q95.1, q95.2)) else none) else (if ib x3 6 then ((f_X1_amountOf (V 96 (x3).toNatClampNeg) V).bind fun q107 => some (q107.1, q107.2)) else none)) else ((f_X3_countOver 4 x5 96 V).bind fun q75 => (f_X6_span_59 n x2 x3 x4 (x5 + 1) q75)))
def f_X6_span (x1 : Int32) (x2 : Int32) (x3 : Int32) (x4 : Int32) (V : Mem) : Option (Int32 × Mem) := ((f_X3_has 4 x1 V).bind fun q5 => (if q5.1 = (0 : Int32) then some ((-1000001 : Int32), q5.2) else ((f_X3_has 4 x2 q5.2).bind fun q16 => (if q16.1 = (0 : Int32) then some ((-1000001 : Int32), q16.2) else (if x2 < x1 then some ((-1000001 : Int32), q16.2) else ((f_X6_isBetween x3 (0 : Int32) (5 : Int32) q16.2).bind fun q30 => (if q30.1 = (0 : Int32) then some ((-1000001 : Int32), q30.2) else ((f_X6_isBetween x4 (0 : Int32) (1 : Int32) q30.2).bind fun q40 => (if q40.1 = (0 : Int32) then some ((-1000001 : Int32), q40.2) else ((f_X1_toThemselves 96 q40.2).bind fun q53 => (f_X6_span_59 4096 x2 x3 x4 x1 q53)))))))))))
def f_X6_registeredAhead_61 (k4 : Int32 → Int32 → Int32 → Mem → Option (Int32 × Mem)) (x1 : Int32) (x2 : Int32) (x3 : Int32) (V : Mem) : Option (Int32 × Mem) := (k4 x1 x2 (x3 + 1) V)
def f_X6_registeredAhead_58 (k4 : Int32 → Int32 → Int32 → Mem → Option (Int32 × Mem)) (x1 : Int32) (x2 : Int32) (x3 : Int32) (V : Mem) : Option (Int32 × Mem) := (f_X6_registeredAhead_61 k4 x1 (x2 + 1) x3 V)
def f_X6_registeredAhead_4 : Nat → Int32 → Int32 → Int32 → Mem → Option (Int32 × Mem)
  | 0, _, _, _, _ => none
  | n + 1, x1, x2, x3, V => (if (V 4 4) ≤ x3 then some (x2, V) else (if ib x3 24 then (if ib x1 24 then ((f_X4_order (177 + 2 * (x3).toNatClampNeg) (177 + 2 * (x1).toNatClampNeg) V).bind fun q27 => ((f_X3_isLabelled 4 x3 q27.2).bind fun q37 => (if q37.1 = (0 : Int32) then (f_X6_registeredAhead_61 (f_X6_registeredAhead_4 n) x1 x2 x3 q37.2) else (if q27.1 < (0 : Int32) then (f_X6_registeredAhead_58 (f_X6_registeredAhead_4 n) x1 x2 x3 q37.2) else (if q27.1 = (0 : Int32) then (if x1 ≤ x3 then (f_X6_registeredAhead_61 (f_X6_registeredAhead_4 n) x1 x2 x3 q37.2) else (f_X6_registeredAhead_58 (f_X6_registeredAhead_4 n) x1 x2 x3 q37.2)) else (f_X6_registeredAhead_61 (f_X6_registeredAhead_4 n) x1 x2 x3 q37.2)))))) else none) else none))
def f_X6_registeredAhead (x1 : Int32) (V : Mem) : Option (Int32 × Mem) := (f_X6_registeredAhead_4 4096 x1 (0 : Int32) (0 : Int32) V)
def f_X6_register_89 (k56 : Int32 → Int32 → Mem → Option (Int32 × Mem)) (x1 : Int32) (x2 : Int32) (V : Mem) : Option (Int32 × Mem) := (k56 x1 (x2 + 1) V)
def f_X6_register_56 : Nat → Int32 → Int32 → Mem → Option (Int32 × Mem)
  | 0, _, _, _ => none
  | n + 1, x1, x2, V => (if (V 4 4) ≤ x2 then some ((-1000000 : Int32), V) else ((f_X3_isLabelled 4 x2 V).bind fun q72 => (if q72.1 = (0 : Int32) then (f_X6_register_89 (f_X6_register_56 n) x1 x2 q72.2) else ((f_X6_registeredAhead x2 q72.2).bind fun q80 => (if q80.1 = x1 then some (x2, q80.2) else (f_X6_register_89 (f_X6_register_56 n) x1 x2 q80.2))))))
def f_X6_register_22 : Nat → Int32 → Int32 → Mem → Option (Int32 × Mem)
  | 0, _, _, _ => none
  | n + 1, x1, x2, V => (if (V 4 4) ≤ x2 then (f_X6_register_56 4096 x1 (0 : Int32) V) else (if ib x2 24 then ((f_X3_writeLabel 4 x2 (0 : Int32) (177 + 2 * (x2).toNatClampNeg) V).bind fun q45 => (f_X6_register_22 n x1 (x2 + 1) q45)) else none))
def f_X6_register (x1 : Int32) (V : Mem) : Option (Int32 × Mem) := ((f_X3_isNone 4 V).bind fun q4 => (if q4.1 = (0 : Int32) then (if (0 : Int32) ≤ x1 then (f_X6_register_22 4096 x1 (0 : Int32) q4.2) else some ((-1000001 : Int32), q4.2)) else some ((-1000002 : Int32), q4.2)))
def f_X6_bears_65 : Nat → Int32 → Int32 → Nat → Int32 → Mem → Option (Int32 × Mem)
  | 0, _, _, _, _, _ => none
  | n + 1, x2, x3, r4, x6, V => (if (V 4 4) ≤ x6 then ((f_X6_foundNothing (-1000000 : Int32) V).bind fun q121 => some (q121.1, q121.2)) else ((f_X3_writeLabel 4 x6 (0 : Int32) 94 V).bind fun q88 => ((f_X4_areItems 94 r4 x2 x3 q88).bind fun q99 => (if q99.1 = (0 : Int32) then (f_X6_bears_65 n x2 x3 r4 (x6 + 1) q99.2) else ((f_X6_foundNothing x6 q99.2).bind fun q108 => some (q108.1, q108.2))))))
def f_X6_bears (x1 : Int32) (x2 : Int32) (x3 : Int32) (V : Mem) : Option (Int32 × Mem) := ((f_X3_isNone 4 V).bind fun q4 => (if q4.1 = (0 : Int32) then ((f_X6_isRow x1 q4.2).bind fun q14 => (if q14.1 = (0 : Int32) then some ((-1000001 : Int32), q14.2) else ((f_X6_isBetween x3 (1 : Int32) (40 : Int32) q14.2).bind fun q24 => (if q24.1 = (0 : Int32) then some ((-1000001 : Int32), q24.2) else (if ib x1 8 then ((f_X2_findingAt (99 + 2 * (x1).toNatClampNeg) x2 x3 q24.2).bind fun q45 => (if q45.1 = (0 : Int32) then (f_X6_bears_65 4096 x2 x3 (99 + 2 * (x1).toNatClampNeg) (0 : Int32) q45.2) else ((f_X6_found q45.1 q45.2).bind fun q58 => some (q58.1, q58.2)))) else none))))) else some ((-1000002 : Int32), q4.2)))
def f_X6_changed_120 (k51 : Int32 → Int32 → Int32 → Mem → Option (Int32 × Mem)) (x1 : Int32) (x2 : Int32) (x3 : Int32) (V : Mem) : Option (Int32 × Mem) := (k51 x1 x2 (x3 + 1) V)
def f_X6_changed_78_c4 (k51 : Int32 → Int32 → Int32 → Mem → Option (Int32 × Mem)) (x1 : Int32) (x2 : Int32) (x3 : Int32) (s1 : Int32) (V : Mem) : Option (Int32 × Mem) := (if ib x3 24 then ((f_X3_writeLabel 4 s1 (0 : Int32) (177 + 2 * (x3).toNatClampNeg) V).bind fun q85 => ((f_X3_writeLabel 35 x3 (0 : Int32) 94 q85).bind fun q98 => (if ib x3 24 then ((f_X4_order (177 + 2 * (x3).toNatClampNeg) 94 q98).bind fun q111 => (if q111.1 = (0 : Int32) then (f_X6_changed_120 k51 x1 x2 x3 q111.2) else (f_X6_changed_120 k51 x1 (x2 + 1) x3 q111.2))) else none))) else none)
def f_X6_changed_51 : Nat → Int32 → Int32 → Int32 → Mem → Option (Int32 × Mem)
  | 0, _, _, _, _ => none
  | n + 1, x1, x2, x3, V => (if (V 35 4) ≤ x3 then some (x2, V) else (if x1 ≤ x3 then (f_X6_changed_78_c4 (f_X6_changed_51 n) x1 x2 x3 (x3 + (1 : Int32)) V) else (f_X6_changed_78_c4 (f_X6_changed_51 n) x1 x2 x3 x3 V)))
def f_X6_changed (x1 : Int32) (V : Mem) : Option (Int32 × Mem) := ((f_X3_has 4 x1 V).bind fun q5 => (if q5.1 = (0 : Int32) then some ((-1000001 : Int32), q5.2) else (if (q5.2 4 4) = (1 : Int32) then some ((-1000002 : Int32), q5.2) else ((f_X3_become 35 4 q5.2).bind fun q36 => ((f_X3_remove 35 x1 q36).bind fun q44 => (f_X6_changed_51 4096 x1 (0 : Int32) (0 : Int32) q44))))))
def f_X6_countAt (x1 : Int32) (x2 : Int32) (V : Mem) : Option (Int32 × Mem) := ((f_X6_isBetween x2 (0 : Int32) (V 35 4) V).bind fun q9 => (if q9.1 = (0 : Int32) then some ((-1000000 : Int32), q9.2) else ((f_X3_ahead 35 x2 q9.2).bind fun q23 => (if kb LX q23.1 22 then (if cok (0 : Int32) (0 : Int32) (6 : Int32) 6 6 then ((f_X3_countOver 4 x1 96 (cp q23.2 q23.1 96 ((0 : Int32)).toNatClampNeg ((0 : Int32)).toNatClampNeg ((6 : Int32)).toNatClampNeg)).bind fun q46 => (if ib x1 24 then (if ib (q46 7 (x1).toNatClampNeg) 6 then some ((q46 96 ((q46 7 (x1).toNatClampNeg)).toNatClampNeg), q46) else none) else none)) else none) else none))))
def f_X6_nearest_59 : Nat → Int32 → Int32 → Int32 → Mem → Option (Int32 × Mem)
  | 0, _, _, _, _ => none
  | n + 1, x1, x2, x3, V => (if (V 4 4) ≤ x3 then some ((-1000000 : Int32), V) else ((f_X6_countAt x1 (x1 - x3) V).bind fun q75 => (if q75.1 = x2 then some ((x1 - x3), q75.2) else ((f_X6_countAt x1 (x1 + x3) q75.2).bind fun q91 => (if q91.1 = x2 then some ((x1 + x3), q91.2) else (f_X6_nearest_59 n x1 x2 (x3 + 1) q91.2))))))
def f_X6_nearest (x1 : Int32) (x2 : Int32) (V : Mem) : Option (Int32 × Mem) := ((f_X3_has 4 x1 V).bind fun q5 => (if q5.1 = (0 : Int32) then some ((-1000001 : Int32), q5.2) else ((f_X6_isBetween x2 (0 : Int32) (99 : Int32) q5.2).bind fun q15 => (if q15.1 = (0 : Int32) then some ((-1000001 : Int32), q15.2) else ((f_X3_isLabelled 4 x1 q15.2).bind fun q29 => (if q29.1 = (0 : Int32) then some ((-1000000 : Int32), q29.2) else ((f_X3_become 35 4 q29.2).bind fun q46 => ((f_X3_remove 35 x1 q46).bind fun q54 => (f_X6_nearest_59 4096 x1 x2 (0 : Int32) q54)))))))))
def f_X6_sets_70 (k30 : Int32 → Int32 → Int32 → Mem → Option (Int32 × Mem)) (x1 : Int32) (x2 : Int32) (x3 : Int32) (V : Mem) : Option (Int32 × Mem) := (k30 x1 x2 (x3 + 1) V)
def f_X6_sets_30 : Nat → Int32 → Int32 → Int32 → Mem → Option (Int32 × Mem)
  | 0, _, _, _, _ => none
  | n + 1, x1, x2, x3, V => (if (V 4 4) ≤ x3 then some (x2, V) else ((f_X3_isLabelled 4 x3 V).bind fun q46 => (if q46.1 = (0 : Int32) then (f_X6_sets_70 (f_X6_sets_30 n) x1 x2 x3 q46.2) else ((f_X3_ownCount 4 x3 q46.2).bind fun q57 => (if q57.1 = x1 then (f_X6_sets_70 (f_X6_sets_30 n) x1 (x2 ||| ((1 : Int32) <<< (x3 &&& 31))) x3 q57.2) else (f_X6_sets_70 (f_X6_sets_30 n) x1 x2 x3 q57.2))))))
def f_X6_sets (x1 : Int32) (V : Mem) : Option (Int32 × Mem) := ((f_X3_isNone 4 V).bind fun q4 => (if q4.1 = (0 : Int32) then ((f_X6_isBetween x1 (0 : Int32) (99 : Int32) q4.2).bind fun q17 => (if q17.1 = (0 : Int32) then some ((-1000001 : Int32), q17.2) else (f_X6_sets_30 4096 x1 (0 : Int32) (0 : Int32) q17.2))) else some ((-1000002 : Int32), q4.2)))
def f_X6_deepest_81 (k33 : Int32 → Int32 → Int32 → Int32 → Mem → Option (Int32 × Mem)) (x1 : Int32) (x2 : Int32) (x3 : Int32) (x4 : Int32) (V : Mem) : Option (Int32 × Mem) := (k33 x1 x2 x3 (x4 + 1) V)
def f_X6_deepest_33 : Nat → Int32 → Int32 → Int32 → Int32 → Mem → Option (Int32 × Mem)
  | 0, _, _, _, _, _ => none
  | n + 1, x1, x2, x3, x4, V => (if (V 4 4) ≤ x4 then (if x1 = (1 : Int32) then some (x3, V) else (if x3 = (-1000000 : Int32) then some (x3, V) else some (x2, V))) else ((f_X3_writeLabel 4 x4 (0 : Int32) 94 V).bind fun q56 => (if (q56 94 1) ≤ x2 then (f_X6_deepest_81 (f_X6_deepest_33 n) x1 x2 x3 x4 q56) else (f_X6_deepest_81 (f_X6_deepest_33 n) x1 (q56 94 1) x4 x4 q56))))
def f_X6_deepest (x1 : Int32) (V : Mem) : Option (Int32 × Mem) := ((f_X3_isNone 4 V).bind fun q4 => (if q4.1 = (0 : Int32) then ((f_X6_isBetween x1 (0 : Int32) (1 : Int32) q4.2).bind fun q16 => (if q16.1 = (0 : Int32) then some ((-1000001 : Int32), q16.2) else (f_X6_deepest_33 4096 x1 (0 : Int32) (-1000000 : Int32) (0 : Int32) q16.2))) else some ((-1000002 : Int32), q4.2)))
def f_X6_who_235 (k160 : Int32 → Int32 → Int32 → Int32 → Nat → Int32 → Int32 → Int32 → Int32 → Int32 → Int32 → Mem → Option (Int32 × Mem)) (x1 : Int32) (x2 : Int32) (x4 : Int32) (x5 : Int32) (r6 : Nat) (x8 : Int32) (x9 : Int32) (x10 : Int32) (x12 : Int32) (x13 : Int32) (x14 : Int32) (V : Mem) : Option (Int32 × Mem) := (k160 x1 x2 x4 x5 r6 x8 x9 x10 x12 x13 (x14 + 1) V)
def f_X6_who_207_c35 (k160 : Int32 → Int32 → Int32 → Int32 → Nat → Int32 → Int32 → Int32 → Int32 → Int32 → Int32 → Mem → Option (Int32 × Mem)) (x1 : Int32) (x2 : Int32) (x4 : Int32) (x5 : Int32) (r6 : Nat) (x8 : Int32) (x9 : Int32) (x10 : Int32) (x12 : Int32) (x13 : Int32) (x14 : Int32) (s1 : Int32) (s2 : Int32) (s3 : Int32) (s4 : Int32) (V : Mem) : Option (Int32 × Mem) := ((f_X3_alter 35 s1 s2 s3 s4 V).bind fun q207 => ((f_X3_isToldBy 35 r6 x4 x5 q207).bind fun q220 => (if q220.1 = (0 : Int32) then (f_X6_who_235 k160 x1 x2 x4 x5 r6 x8 x9 x10 x12 x13 x14 q220.2) else (f_X6_who_235 k160 x1 x2 x4 x5 r6 x8 x9 x10 x12 (x13 ||| ((1 : Int32) <<< (x14 &&& 31))) x14 q220.2))))
def f_X6_who_195_c35 (k160 : Int32 → Int32 → Int32 → Int32 → Nat → Int32 → Int32 → Int32 → Int32 → Int32 → Int32 → Mem → Option (Int32 × Mem)) (x1 : Int32) (x2 : Int32) (x4 : Int32) (x5 : Int32) (r6 : Nat) (x8 : Int32) (x9 : Int32) (x10 : Int32) (x12 : Int32) (x13 : Int32) (x14 : Int32) (s1 : Int32) (s2 : Int32) (s3 : Int32) (V : Mem) : Option (Int32 × Mem) := (if x2 = (2 : Int32) then (f_X6_who_207_c35 k160 x1 x2 x4 x5 r6 x8 x9 x10 x12 x13 x14 s1 s2 s3 x14 V) else (f_X6_who_207_c35 k160 x1 x2 x4 x5 r6 x8 x9 x10 x12 x13 x14 s1 s2 s3 x10 V))
def f_X6_who_183_c35 (k160 : Int32 → Int32 → Int32 → Int32 → Nat → Int32 → Int32 → Int32 → Int32 → Int32 → Int32 → Mem → Option (Int32 × Mem)) (x1 : Int32) (x2 : Int32) (x4 : Int32) (x5 : Int32) (r6 : Nat) (x8 : Int32) (x9 : Int32) (x10 : Int32) (x12 : Int32) (x13 : Int32) (x14 : Int32) (s1 : Int32) (s2 : Int32) (V : Mem) : Option (Int32 × Mem) := (if x2 = (1 : Int32) then (f_X6_who_195_c35 k160 x1 x2 x4 x5 r6 x8 x9 x10 x12 x13 x14 s1 s2 x14 V) else (f_X6_who_195_c35 k160 x1 x2 x4 x5 r6 x8 x9 x10 x12 x13 x14 s1 s2 x9 V))
def f_X6_who_160 : Nat → Int32 → Int32 → Int32 → Int32 → Nat → Int32 → Int32 → Int32 → Int32 → Int32 → Int32 → Mem → Option (Int32 × Mem)
  | 0, _, _, _, _, _, _, _, _, _, _, _, _ => none
  | n + 1, x1, x2, x4, x5, r6, x8, x9, x10, x12, x13, x14, V => (if x12 < x14 then ((f_X6_foundNothing x13 V).bind fun q244 => some (q244.1, q244.2)) else (if x2 = (0 : Int32) then (f_X6_who_183_c35 (f_X6_who_160 n) x1 x2 x4 x5 r6 x8 x9 x10 x12 x13 x14 x1 x14 V) else (f_X6_who_183_c35 (f_X6_who_160 n) x1 x2 x4 x5 r6 x8 x9 x10 x12 x13 x14 x1 x8 V)))
def f_X6_who_140 (x1 : Int32) (x2 : Int32) (x4 : Int32) (x5 : Int32) (r6 : Nat) (x8 : Int32) (x9 : Int32) (x10 : Int32) (x11 : Int32) (s0 : Int32) (V : Mem) : Option (Int32 × Mem) := ((f_X3_become 35 4 V).bind fun q153 => (f_X6_who_160 4096 x1 x2 x4 x5 r6 x8 x9 x10 s0 (0 : Int32) x11 q153))
def f_X6_who_119 (x1 : Int32) (x2 : Int32) (x4 : Int32) (x5 : Int32) (r6 : Nat) (x8 : Int32) (x9 : Int32) (x10 : Int32) (s0 : Int32) (V : Mem) : Option (Int32 × Mem) := (if x2 = (0 : Int32) then (f_X6_who_140 x1 x2 x4 x5 r6 x8 x9 x10 s0 (5 : Int32) V) else (if x2 = (1 : Int32) then (f_X6_who_140 x1 x2 x4 x5 r6 x8 x9 x10 s0 (2 : Int32) V) else (f_X6_who_140 x1 x2 x4 x5 r6 x8 x9 x10 s0 (20 : Int32) V)))
def f_X6_who (x1 : Int32) (x2 : Int32) (x3 : Int32) (x4 : Int32) (x5 : Int32) (V : Mem) : Option (Int32 × Mem) := ((f_X3_has 4 x1 V).bind fun q5 => (if q5.1 = (0 : Int32) then some ((-1000001 : Int32), q5.2) else ((f_X6_isBetween x2 (0 : Int32) (2 : Int32) q5.2).bind fun q14 => (if q14.1 = (0 : Int32) then some ((-1000001 : Int32), q14.2) else ((f_X6_isRow x3 q14.2).bind fun q21 => (if q21.1 = (0 : Int32) then some ((-1000001 : Int32), q21.2) else ((f_X6_isBetween x5 (1 : Int32) (q21.2 4 4) q21.2).bind fun q37 => (if q37.1 = (0 : Int32) then some ((-1000001 : Int32), q37.2) else (if ib x3 8 then ((f_X2_findingAt (99 + 2 * (x3).toNatClampNeg) x4 x5 q37.2).bind fun q60 => (if q60.1 = (0 : Int32) then (if ib x1 24 then (if ib x1 24 then (if ib x1 24 then (if x2 = (0 : Int32) then (f_X6_who_119 x1 x2 x4 x5 (99 + 2 * (x3).toNatClampNeg) (q60.2 6 (x1).toNatClampNeg) (q60.2 7 (x1).toNatClampNeg) (q60.2 8 (x1).toNatClampNeg) (1 : Int32) q60.2) else (f_X6_who_119 x1 x2 x4 x5 (99 + 2 * (x3).toNatClampNeg) (q60.2 6 (x1).toNatClampNeg) (q60.2 7 (x1).toNatClampNeg) (q60.2 8 (x1).toNatClampNeg) (0 : Int32) q60.2)) else none) else none) else none) else ((f_X6_found q60.1 q60.2).bind fun q73 => some (q73.1, q73.2)))) else none)))))))))
def f_X6_noteRestarts_43 (k4 : Int32 → Int32 → Mem → Option (Mem)) (x1 : Int32) (x2 : Int32) (V : Mem) : Option (Mem) := (k4 x1 (x2 + 1) V)
def f_X6_noteRestarts_4 : Nat → Int32 → Int32 → Mem → Option (Mem)
  | 0, _, _, _ => none
  | n + 1, x1, x2, V => (if (V 4 4) ≤ x2 then some V else (if ib x2 24 then (if (V 6 (x2).toNatClampNeg) = (2 : Int32) then (if (5 : Int32) ≤ x1 then (f_X6_noteRestarts_43 (f_X6_noteRestarts_4 n) x1 x2 V) else (if ib x1 5 then (f_X6_noteRestarts_43 (f_X6_noteRestarts_4 n) (x1 + 1) x2 (st V 97 (x1).toNatClampNeg x2)) else none)) else (f_X6_noteRestarts_43 (f_X6_noteRestarts_4 n) x1 x2 V)) else none))
def f_X6_noteRestarts (V : Mem) : Option (Mem) := (f_X6_noteRestarts_4 4096 (0 : Int32) (0 : Int32) V)
def f_X6_loseRestarts_35_c35 (k2 : Int32 → Int32 → Int32 → Mem → Option (Mem)) (x1 : Int32) (x2 : Int32) (x3 : Int32) (x4 : Int32) (s1 : Int32) (s2 : Int32) (V : Mem) : Option (Mem) := (if ib x4 24 then (if ib x4 24 then ((f_X3_alter 35 s1 s2 (V 7 (x4).toNatClampNeg) (V 8 (x4).toNatClampNeg) V).bind fun q55 => (k2 x1 x2 (x3 + 1) q55)) else none) else none)
def f_X6_loseRestarts_2 : Nat → Int32 → Int32 → Int32 → Mem → Option (Mem)
  | 0, _, _, _, _ => none
  | n + 1, x1, x2, x3, V => (if x2 ≤ x3 then some V else (if ib x3 5 then (if ((x1 >>> (x3 &&& 31)) &&& (1 : Int32)) = (1 : Int32) then (f_X6_loseRestarts_35_c35 (f_X6_loseRestarts_2 n) x1 x2 x3 (V 97 (x3).toNatClampNeg) (V 97 (x3).toNatClampNeg) (1 : Int32) V) else (f_X6_loseRestarts_35_c35 (f_X6_loseRestarts_2 n) x1 x2 x3 (V 97 (x3).toNatClampNeg) (V 97 (x3).toNatClampNeg) (2 : Int32) V)) else none))
def f_X6_loseRestarts (x1 : Int32) (x2 : Int32) (V : Mem) : Option (Mem) := (f_X6_loseRestarts_2 4096 x1 x2 (0 : Int32) V)
def f_X6_power_5 : Nat → Int64 → Int32 → Int64 → Int32 → Mem → Option (Int64 × Mem)
  | 0, _, _, _, _, _ => none
  | n + 1, x0, x2, x3, x5, V => (if x2 ≤ x5 then some (x3, V) else (f_X6_power_5 n x0 x2 (x3 * x0) (x5 + 1) V))
def f_X6_power (x0 : Int64) (x2 : Int32) (V : Mem) : Option (Int64 × Mem) := (f_X6_power_5 4096 x0 x2 (1 : Int64) (0 : Int32) V)
def f_X6_commonDivisor_44 (x4 : Int64) (V : Mem) : Option (Int64 × Mem) := some ((if (1 : Int64) < x4 then x4 else (1 : Int64)), V)
def f_X6_commonDivisor_9 : Nat → Int64 → Int64 → Int32 → Mem → Option (Int64 × Mem)
  | 0, _, _, _, _ => none
  | n + 1, x4, x6, x8, V => (if (100 : Int32) ≤ x8 then (f_X6_commonDivisor_44 x4 V) else (if (lg_cmp x6 (0 : Int64)) ≤ (0 : Int32) then (f_X6_commonDivisor_44 x4 V) else (if x6 = (0 : Int64) then none else (f_X6_commonDivisor_9 n x6 (x4 - (x4 / x6) * x6) (x8 + 1) V))))
def f_X6_commonDivisor (x0 : Int64) (x2 : Int64) (V : Mem) : Option (Int64 × Mem) := (f_X6_commonDivisor_9 4096 x2 x0 (0 : Int32) V)
def f_X6_lost_41 (V : Mem) : Option (Int64 × Mem) := some ((-1000001 : Int64), V)
def f_X6_lost_148 (k86 : Int32 → Int32 → Int32 → Int32 → Int32 → Int64 → Int32 → Mem → Option (Int64 × Mem)) (x1 : Int32) (x2 : Int32) (x3 : Int32) (x4 : Int32) (x5 : Int32) (x6 : Int64) (x8 : Int32) (V : Mem) : Option (Int64 × Mem) := (k86 x1 x2 x3 x4 x5 x6 (x8 + 1) V)
def f_X6_lost_86 : Nat → Int32 → Int32 → Int32 → Int32 → Int32 → Int64 → Int32 → Mem → Option (Int64 × Mem)
  | 0, _, _, _, _, _, _, _, _ => none
  | n + 1, x1, x2, x3, x4, x5, x6, x8, V => (if ((1 : Int32) <<< (x5 &&& 31)) ≤ x8 then ((f_X6_power (10 : Int64) x5 V).bind fun q159 => ((f_X6_commonDivisor x6 q159.1 q159.2).bind fun q168 => (if x4 = (0 : Int32) then (if q168.1 = (0 : Int64) then none else some ((x6 / q168.1), q168.2)) else (if q168.1 = (0 : Int64) then none else some ((q159.1 / q168.1), q168.2))))) else ((f_X6_loseRestarts x8 x5 V).bind fun q100 => ((f_X3_ownCount 35 x1 q100).bind fun q108 => (if q108.1 = x2 then ((f_J6_bitCount_0f7a4 x8 q108.2).bind fun q117 => ((f_X6_power (x3).toInt64 q117.1 q117.2).bind fun q128 => ((f_X6_power (((10 : Int32) - x3)).toInt64 (x5 - q117.1) q128.2).bind fun q141 => (f_X6_lost_148 (f_X6_lost_86 n) x1 x2 x3 x4 x5 (x6 + (q128.1 * q141.1)) x8 q141.2)))) else (f_X6_lost_148 (f_X6_lost_86 n) x1 x2 x3 x4 x5 x6 x8 q108.2)))))
def f_X6_lost (x1 : Int32) (x2 : Int32) (x3 : Int32) (x4 : Int32) (V : Mem) : Option (Int64 × Mem) := ((f_X3_has 4 x1 V).bind fun q5 => (if q5.1 = (0 : Int32) then (f_X6_lost_41  q5.2) else ((f_X6_isBetween x2 (0 : Int32) (99 : Int32) q5.2).bind fun q15 => (if q15.1 = (0 : Int32) then (f_X6_lost_41  q15.2) else ((f_X6_isBetween x3 (0 : Int32) (10 : Int32) q15.2).bind fun q25 => (if q25.1 = (0 : Int32) then (f_X6_lost_41  q25.2) else ((f_X6_isBetween x4 (0 : Int32) (1 : Int32) q25.2).bind fun q35 => (if q35.1 = (0 : Int32) then (f_X6_lost_41  q35.2) else ((f_X3_howManyOf 4 (2 : Int32) q35.2).bind fun q50 => (if q50.1 ≤ (5 : Int32) then ((f_X6_noteRestarts q50.2).bind fun q66 => ((f_X3_become 35 4 q66).bind fun q77 => (f_X6_lost_86 4096 x1 x2 x3 x4 q50.1 (0 : Int64) (0 : Int32) q77))) else some ((-1000003 : Int64), q50.2)))))))))))
def f_X6_drawn_64 : Nat → Int32 → Int32 → Int64 → Int32 → Mem → Option (Int32 × Mem)
  | 0, _, _, _, _, _ => none
  | n + 1, x1, x3, x4, x6, V => (if x1 ≤ x6 then (if x3 = (0 : Int32) then some ((V 35 4), V) else ((f_X3_lastCounts 35 V).bind fun q115 => some (q115.1, q115.2))) else ((f_X3_editBy 35 ((x4 * (16807 : Int64)) - ((x4 * (16807 : Int64)) / (2147483647 : Int64)) * (2147483647 : Int64)) V).bind fun q88 => (f_X6_drawn_64 n x1 x3 ((x4 * (16807 : Int64)) - ((x4 * (16807 : Int64)) / (2147483647 : Int64)) * (2147483647 : Int64)) (x6 + 1) q88)))
def f_X6_drawn (x1 : Int32) (x2 : Int32) (x3 : Int32) (V : Mem) : Option (Int32 × Mem) := ((f_X3_isNone 4 V).bind fun q4 => (if q4.1 = (0 : Int32) then ((f_X6_isBetween x1 (0 : Int32) (60 : Int32) q4.2).bind fun q17 => (if q17.1 = (0 : Int32) then some ((-1000001 : Int32), q17.2) else ((f_X6_isBetween x2 (1 : Int32) (999999 : Int32) q17.2).bind fun q28 => (if q28.1 = (0 : Int32) then some ((-1000001 : Int32), q28.2) else ((f_X6_isBetween x3 (0 : Int32) (1 : Int32) q28.2).bind fun q37 => (if q37.1 = (0 : Int32) then some ((-1000001 : Int32), q37.2) else ((f_X3_become 35 4 q37.2).bind fun q54 => (f_X6_drawn_64 4096 x1 x3 (x2).toInt64 (0 : Int32) q54)))))))) else some ((-1000002 : Int32), q4.2)))
def f_X6_image (x1 : Int32) (V : Mem) : Option (Int32 × Mem) := ((f_X6_isBetween x1 (0 : Int32) (1 : Int32) V).bind fun q3 => (if q3.1 = (0 : Int32) then some ((-1000001 : Int32), q3.2) else ((f_X3_isNone 4 q3.2).bind fun q16 => (if q16.1 = (0 : Int32) then (if ib x1 2 then ((f_X3_become (115 + 31 * (x1).toNatClampNeg) 4 q16.2).bind fun q35 => some ((1 : Int32), q35)) else none) else some ((-1000002 : Int32), q16.2)))))
def f_X6_restore (x1 : Int32) (V : Mem) : Option (Int32 × Mem) := ((f_X6_isBetween x1 (0 : Int32) (1 : Int32) V).bind fun q3 => (if q3.1 = (0 : Int32) then some ((-1000001 : Int32), q3.2) else (if ib x1 2 then ((f_X3_isNone (115 + 31 * (x1).toNatClampNeg) q3.2).bind fun q18 => (if q18.1 = (0 : Int32) then (if ib x1 2 then ((f_X3_become 4 (115 + 31 * (x1).toNatClampNeg) q18.2).bind fun q37 => ((f_X0_forgetAll 67 q37).bind fun q44 => some ((1 : Int32), q44))) else none) else some ((-1000002 : Int32), q18.2))) else none)))
def f_X6_kind (x1 : Int32) (V : Mem) : Option (Int32 × Mem) := ((f_X3_has 4 x1 V).bind fun q5 => (if q5.1 = (0 : Int32) then some ((-1000001 : Int32), q5.2) else (if ib x1 24 then some ((q5.2 6 (x1).toNatClampNeg), q5.2) else none)))
def f_X6_as_65 (x1 : Int32) (x2 : Int32) (x3 : Int32) (V : Mem) : Option (Int32 × Mem) := (if x3 = x2 then ((f_X6_foundNothing x1 V).bind fun q72 => some (q72.1, q72.2)) else ((f_X6_found (3 : Int32) V).bind fun q80 => some (q80.1, q80.2)))
def f_X6_as_36 : Nat → Int32 → Int32 → Int32 → Int32 → Mem → Option (Int32 × Mem)
  | 0, _, _, _, _, _ => none
  | n + 1, x1, x2, x3, x4, V => (if (6 : Int32) ≤ x4 then (f_X6_as_65 x1 x2 x3 V) else (if x3 = x2 then (f_X6_as_65 x1 x2 x3 V) else (if x3 = (-1 : Int32) then (f_X6_as_65 x1 x2 x3 V) else (if ib x3 6 then (f_X6_as_36 n x1 x2 (tba 0 (x3).toNatClampNeg) (x4 + 1) V) else none))))
def f_X6_as (x1 : Int32) (x2 : Int32) (V : Mem) : Option (Int32 × Mem) := ((f_X3_has 4 x1 V).bind fun q5 => (if q5.1 = (0 : Int32) then some ((-1000001 : Int32), q5.2) else ((f_X6_isBetween x2 (0 : Int32) (5 : Int32) q5.2).bind fun q14 => (if q14.1 = (0 : Int32) then some ((-1000001 : Int32), q14.2) else (if ib x1 24 then (f_X6_as_36 4096 x1 x2 (q14.2 6 (x1).toNatClampNeg) (0 : Int32) q14.2) else none)))))
def f_X6_trace (x1 : Int32) (V : Mem) : Option (Int32 × Mem) := (if x1 < (0 : Int32) then some ((-1000000 : Int32), V) else (if (V 0 11) ≤ x1 then some ((-1000000 : Int32), V) else (if ib x1 16 then some ((V 98 (x1).toNatClampNeg), V) else none)))
def f_X6_howManyRows_25 (k4 : Int32 → Int32 → Mem → Option (Int32 × Mem)) (x1 : Int32) (x2 : Int32) (V : Mem) : Option (Int32 × Mem) := (k4 x1 (x2 + 1) V)
def f_X6_howManyRows_4 : Nat → Int32 → Int32 → Mem → Option (Int32 × Mem)
  | 0, _, _, _ => none
  | n + 1, x1, x2, V => (if (8 : Int32) ≤ x2 then some (x1, V) else (if ib x2 8 then ((f_X2_isMissing (99 + 2 * (x2).toNatClampNeg) V).bind fun q16 => (if q16.1 = (0 : Int32) then (f_X6_howManyRows_25 (f_X6_howManyRows_4 n) (x1 + 1) x2 q16.2) else (f_X6_howManyRows_25 (f_X6_howManyRows_4 n) x1 x2 q16.2))) else none))
def f_X6_howManyRows (V : Mem) : Option (Int32 × Mem) := (f_X6_howManyRows_4 4096 (0 : Int32) (0 : Int32) V)
def f_X6_count (x1 : Int32) (V : Mem) : Option (Int32 × Mem) := (if x1 = (0 : Int32) then ((f_X6_howManyRows V).bind fun q41 => some (q41.1, q41.2)) else (if x1 = (1 : Int32) then some ((V 4 4), V) else (if x1 = (2 : Int32) then ((f_X3_howManyOf 4 (1 : Int32) V).bind fun q58 => ((f_X3_howManyOf 4 (2 : Int32) q58.2).bind fun q66 => ((f_X3_howManyOf 4 (3 : Int32) q66.2).bind fun q75 => some (((q58.1 + q66.1) + q75.1), q75.2)))) else (if x1 = (3 : Int32) then ((f_X3_lastCounts 4 V).bind fun q84 => some (q84.1, q84.2)) else (if x1 = (4 : Int32) then some ((V 67 2), V) else (if x1 = (5 : Int32) then some ((V 2 1), V) else some ((-1000001 : Int32), V)))))))
def f_X6_status (V : Mem) : Option (Int32 × Mem) := some ((V 0 12), V)
def f_X6_leaveTrace (x1 : Int32) (V : Mem) : Option (Mem) := (if (16 : Int32) ≤ (V 0 11) then some V else (if ib (V 0 11) 16 then some (st (st V 98 ((V 0 11)).toNatClampNeg x1) 0 11 (((st V 98 ((V 0 11)).toNatClampNeg x1) 0 11) + (1 : Int32))) else none))
def f_X7_in (x0 : Int64) (x2 : Int64) (x4 : Int64) (V : Mem) : Option (Int32 × Mem) := (if (lg_cmp x0 x2) < (0 : Int32) then some ((0 : Int32), V) else (if (0 : Int32) < (lg_cmp x0 x4) then some ((0 : Int32), V) else some ((1 : Int32), V)))
def f_X7_finding (x1 : Int32) (V : Mem) : Option (Int32 × Mem) := some (((-1000010 : Int32) - x1), (st V 0 1 x1))
def f_X7_isRow (x0 : Int32) (V : Mem) : Option (Int32 × Mem) := ((f_X7_in (x0).toInt64 (0 : Int64) (7 : Int64) V).bind fun q6 => (if (q6.1 &&& 1) = q6.1 then some (q6.1, q6.2) else none))
def f_X7_row_65 : Nat → Int32 → Int32 → Int32 → Mem → Option (Int32 × Mem)
  | 0, _, _, _, _ => none
  | n + 1, x1, x3, x4, V => (if (40 : Int32) ≤ x4 then some (x3, V) else (if ib (((40 : Int32) * x1) + x4) 320 then (f_X7_row_65 n x1 x3 (x4 + 1) (st V 3 ((((40 : Int32) * x1) + x4)).toNatClampNeg (0 : Int32))) else none))
def f_X7_row (x1 : Int32) (x2 : Int32) (x3 : Int32) (V : Mem) : Option (Int32 × Mem) := ((f_X7_isRow x1 (st V 0 0 (0 : Int32))).bind fun q6 => (if q6.1 = (0 : Int32) then some ((-1000001 : Int32), q6.2) else ((f_X7_in (x2).toInt64 (0 : Int64) (2 : Int64) q6.2).bind fun q18 => (if q18.1 = (0 : Int32) then some ((-1000001 : Int32), q18.2) else (if x3 ≤ (40 : Int32) then (if (0 : Int32) ≤ x3 then (if ib x1 8 then (if ib x1 8 then (f_X7_row_65 4096 x1 x3 (0 : Int32) (st (st (st q18.2 0 1 (0 : Int32)) 1 (x1).toNatClampNeg x2) 2 (x1).toNatClampNeg x3)) else none) else none) else ((f_X7_finding (4 : Int32) (st q18.2 0 1 (0 : Int32))).bind fun q44 => some (q44.1, q44.2))) else some ((-1000001 : Int32), q18.2))))))
def f_X7_set_99_c3 (x1 : Int32) (x2 : Int32) (s1 : Int32) (s2 : Int32) (V : Mem) : Option (Int32 × Mem) := (if ib s1 320 then (if ib (((40 : Int32) * x1) + x2) 320 then some (((st V 3 (s1).toNatClampNeg s2) 3 ((((40 : Int32) * x1) + x2)).toNatClampNeg), (st V 3 (s1).toNatClampNeg s2)) else none) else none)
def f_X7_set (x1 : Int32) (x2 : Int32) (x3 : Int32) (V : Mem) : Option (Int32 × Mem) := ((f_X7_isRow x1 (st V 0 0 (0 : Int32))).bind fun q6 => (if q6.1 = (0 : Int32) then some ((-1000001 : Int32), q6.2) else (if ib x1 8 then (if (0 : Int32) ≤ ((st q6.2 0 1 (0 : Int32)) 1 (x1).toNatClampNeg) then (if ib x1 8 then ((f_X7_in (x2).toInt64 (0 : Int64) ((((st q6.2 0 1 (0 : Int32)) 2 (x1).toNatClampNeg) - (1 : Int32))).toInt64 (st q6.2 0 1 (0 : Int32))).bind fun q47 => (if q47.1 = (0 : Int32) then ((f_X7_finding (2 : Int32) q47.2).bind fun q55 => some (q55.1, q55.2)) else (if ib x1 8 then (if (q47.2 1 (x1).toNatClampNeg) = (0 : Int32) then (f_X7_set_99_c3 x1 x2 (((40 : Int32) * x1) + x2) (x3).toInt8.toInt32 q47.2) else (if ib x1 8 then (if (q47.2 1 (x1).toNatClampNeg) = (1 : Int32) then (f_X7_set_99_c3 x1 x2 (((40 : Int32) * x1) + x2) (x3).toInt16.toInt32 q47.2) else (f_X7_set_99_c3 x1 x2 (((40 : Int32) * x1) + x2) x3 q47.2)) else none)) else none))) else none) else ((f_X7_finding (1 : Int32) (st q6.2 0 1 (0 : Int32))).bind fun q31 => some (q31.1, q31.2))) else none)))
def f_X7_copy_45 (V : Mem) : Option (Int32 × Mem) := ((f_X7_finding (1 : Int32) V).bind fun q47 => some (q47.1, q47.2))
def f_X7_copy_121 (V : Mem) : Option (Int32 × Mem) := ((f_X7_finding (2 : Int32) V).bind fun q123 => some (q123.1, q123.2))
def f_X7_copy_167 (k143 : Int32 → Int32 → Int32 → Int32 → Int32 → Int32 → Int32 → Mem → Option (Int32 × Mem)) (x1 : Int32) (x2 : Int32) (x3 : Int32) (x4 : Int32) (x5 : Int32) (x6 : Int32) (x7 : Int32) (s0 : Int32) (V : Mem) : Option (Int32 × Mem) := (if ib ((((40 : Int32) * x1) + x2) + s0) 320 then (if ib ((((40 : Int32) * x3) + x4) + s0) 320 then (k143 x1 x2 x3 x4 x5 x6 (x7 + 1) (st V 3 (((((40 : Int32) * x3) + x4) + s0)).toNatClampNeg (V 3 (((((40 : Int32) * x1) + x2) + s0)).toNatClampNeg))) else none) else none)
def f_X7_copy_143 : Nat → Int32 → Int32 → Int32 → Int32 → Int32 → Int32 → Int32 → Mem → Option (Int32 × Mem)
  | 0, _, _, _, _, _, _, _, _ => none
  | n + 1, x1, x2, x3, x4, x5, x6, x7, V => (if x5 ≤ x7 then some (x5, V) else (if x6 = (0 : Int32) then (f_X7_copy_167 (f_X7_copy_143 n) x1 x2 x3 x4 x5 x6 x7 ((x5 - (1 : Int32)) - x7) V) else (f_X7_copy_167 (f_X7_copy_143 n) x1 x2 x3 x4 x5 x6 x7 x7 V)))
def f_X7_copy_138 (x1 : Int32) (x2 : Int32) (x3 : Int32) (x4 : Int32) (x5 : Int32) (s0 : Int32) (V : Mem) : Option (Int32 × Mem) := (f_X7_copy_143 4096 x1 x2 x3 x4 x5 s0 (0 : Int32) V)
def f_X7_copy (x1 : Int32) (x2 : Int32) (x3 : Int32) (x4 : Int32) (x5 : Int32) (V : Mem) : Option (Int32 × Mem) := ((f_X7_isRow x1 (st V 0 0 (0 : Int32))).bind fun q6 => (if q6.1 = (0 : Int32) then some ((-1000001 : Int32), q6.2) else ((f_X7_isRow x3 q6.2).bind fun q13 => (if q13.1 = (0 : Int32) then some ((-1000001 : Int32), q13.2) else (if ib x1 8 then (if ((st q13.2 0 1 (0 : Int32)) 1 (x1).toNatClampNeg) < (0 : Int32) then (f_X7_copy_45  (st q13.2 0 1 (0 : Int32))) else (if ib x3 8 then (if (0 : Int32) ≤ ((st q13.2 0 1 (0 : Int32)) 1 (x3).toNatClampNeg) then (if ib x1 8 then (if ib x3 8 then (if ((st q13.2 0 1 (0 : Int32)) 1 (x1).toNatClampNeg) = ((st q13.2 0 1 (0 : Int32)) 1 (x3).toNatClampNeg) then (if x2 < (0 : Int32) then (f_X7_copy_121  (st q13.2 0 1 (0 : Int32))) else (if x4 < (0 : Int32) then (f_X7_copy_121  (st q13.2 0 1 (0 : Int32))) else (if x5 < (0 : Int32) then (f_X7_copy_121  (st q13.2 0 1 (0 : Int32))) else (if ib x1 8 then (if (0 : Int32) < (lg_cmp ((x2).toInt64 + (x5).toInt64) (((st q13.2 0 1 (0 : Int32)) 2 (x1).toNatClampNeg)).toInt64) then (f_X7_copy_121  (st q13.2 0 1 (0 : Int32))) else (if ib x3 8 then (if (lg_cmp ((x4).toInt64 + (x5).toInt64) (((st q13.2 0 1 (0 : Int32)) 2 (x3).toNatClampNeg)).toInt64) ≤ (0 : Int32) then (if x2 < x4 then (f_X7_copy_138 x1 x2 x3 x4 x5 (0 : Int32) (st q13.2 0 1 (0 : Int32))) else (f_X7_copy_138 x1 x2 x3 x4 x5 (1 : Int32) (st q13.2 0 1 (0 : Int32)))) else (f_X7_copy_121  (st q13.2 0 1 (0 : Int32)))) else none)) else none)))) else ((f_X7_finding (5 : Int32) (st q13.2 0 1 (0 : Int32))).bind fun q68 => some (q68.1, q68.2))) else none) else none) else (f_X7_copy_45  (st q13.2 0 1 (0 : Int32)))) else none)) else none)))))
def f_X7_drop (x1 : Int32) (V : Mem) : Option (Int32 × Mem) := ((f_X7_isRow x1 (st V 0 0 (0 : Int32))).bind fun q6 => (if q6.1 = (0 : Int32) then some ((-1000001 : Int32), q6.2) else (if ib x1 8 then (if (0 : Int32) ≤ ((st q6.2 0 1 (0 : Int32)) 1 (x1).toNatClampNeg) then (if ib x1 8 then (if ib x1 8 then some (((st (st q6.2 0 1 (0 : Int32)) 1 (x1).toNatClampNeg (-1 : Int32)) 2 (x1).toNatClampNeg), (st (st q6.2 0 1 (0 : Int32)) 1 (x1).toNatClampNeg (-1 : Int32))) else none) else none) else ((f_X7_finding (1 : Int32) (st q6.2 0 1 (0 : Int32))).bind fun q31 => some (q31.1, q31.2))) else none)))
def f_X7_feed (x1 : Int32) (V : Mem) : Option (Int32 × Mem) := ((f_X7_in (x1).toInt64 (0 : Int64) (255 : Int64) (st V 0 0 (0 : Int32))).bind fun q11 => (if q11.1 = (0 : Int32) then some ((-1000001 : Int32), q11.2) else (if (q11.2 0 11) = (130 : Int32) then some ((-1000003 : Int32), q11.2) else (if ib (q11.2 0 11) 130 then some (((st (st q11.2 8 ((q11.2 0 11)).toNatClampNeg x1) 0 11 (((st q11.2 8 ((q11.2 0 11)).toNatClampNeg x1) 0 11) + (1 : Int32))) 0 11), (st (st q11.2 8 ((q11.2 0 11)).toNatClampNeg x1) 0 11 (((st q11.2 8 ((q11.2 0 11)).toNatClampNeg x1) 0 11) + (1 : Int32)))) else none))))
def f_X7_bad (x1 : Int32) (V : Mem) : Option (Mem) := (if (V 0 16) = (0 : Int32) then some (st (st V 0 16 x1) 0 17 ((st V 0 16 x1) 0 13)) else some V)
def f_X7_nextToken_274_c0 (s1 : Int32) (V : Mem) : Option (Mem) := some (st V 0 14 s1)
def f_X7_nextToken_255 (V : Mem) : Option (Mem) := (if ((V 0 12) - (V 0 13)) ≤ (2 : Int32) then (f_X7_nextToken_274_c0 (3 : Int32) V) else (f_X7_nextToken_274_c0 (0 : Int32) V))
def f_X7_nextToken_239_c0 (k165 : Mem → Option (Mem)) (s1 : Int32) (V : Mem) : Option (Mem) := (k165  (st (st V 0 15 s1) 0 12 (((st V 0 15 s1) 0 12) + (1 : Int32))))
def f_X7_nextToken_165 : Nat → Mem → Option (Mem)
  | 0, _ => none
  | n + 1, V => (if (V 0 11) ≤ (V 0 12) then (f_X7_nextToken_255  V) else (if ib (V 0 12) 130 then ((f_X7_in ((V 8 ((V 0 12)).toNatClampNeg)).toInt64 (48 : Int64) (57 : Int64) V).bind fun q192 => (if q192.1 = (0 : Int32) then (f_X7_nextToken_255  q192.2) else (if (2 : Int32) ≤ ((q192.2 0 12) - (q192.2 0 13)) then (f_X7_nextToken_239_c0 (f_X7_nextToken_165 n) (q192.2 0 15) q192.2) else (if ib (q192.2 0 12) 130 then (f_X7_nextToken_239_c0 (f_X7_nextToken_165 n) ((((10 : Int32) * (q192.2 0 15)) + (q192.2 8 ((q192.2 0 12)).toNatClampNeg)) - (48 : Int32)) q192.2) else none)))) else none))
def f_X7_nextToken_142_c0 (s1 : Int32) (s2 : Int32) (V : Mem) : Option (Mem) := (if ((st V 0 12 (s1 + s2)) 0 14) = (3 : Int32) then (f_X7_nextToken_165 4096  (st (st V 0 12 (s1 + s2)) 0 15 (((st V 0 12 (s1 + s2)) 0 15) - (48 : Int32)))) else some (st V 0 12 (s1 + s2)))
def f_X7_nextToken_118_c0 (s1 : Int32) (V : Mem) : Option (Mem) := (if ((st V 0 14 s1) 0 11) ≤ ((st V 0 14 s1) 0 12) then (f_X7_nextToken_142_c0 ((st V 0 14 s1) 0 12) (0 : Int32) (st V 0 14 s1)) else (f_X7_nextToken_142_c0 ((st V 0 14 s1) 0 12) (1 : Int32) (st V 0 14 s1)))
def f_X7_nextToken_34_c0 (s1 : Int32) (V : Mem) : Option (Mem) := (if ((st V 0 15 s1) 0 12) = ((st V 0 15 s1) 0 11) then (f_X7_nextToken_118_c0 (1 : Int32) (st V 0 15 s1)) else ((f_X7_in (((st V 0 15 s1) 0 15)).toInt64 (97 : Int64) (122 : Int64) (st V 0 15 s1)).bind fun q64 => (if q64.1 = (0 : Int32) then ((f_X7_in ((q64.2 0 15)).toInt64 (48 : Int64) (57 : Int64) q64.2).bind fun q85 => (if q85.1 = (0 : Int32) then (if (q85.2 0 15) = (44 : Int32) then (f_X7_nextToken_118_c0 (4 : Int32) q85.2) else (if (q85.2 0 15) = (59 : Int32) then (f_X7_nextToken_118_c0 (4 : Int32) q85.2) else (f_X7_nextToken_118_c0 (0 : Int32) q85.2))) else (f_X7_nextToken_118_c0 (3 : Int32) q85.2))) else (f_X7_nextToken_118_c0 (2 : Int32) q64.2))))
def f_X7_nextToken (V : Mem) : Option (Mem) := (if ((st V 0 13 (V 0 12)) 0 11) ≤ ((st V 0 13 (V 0 12)) 0 12) then (f_X7_nextToken_34_c0 (-1000000 : Int32) (st V 0 13 (V 0 12))) else (if ib ((st V 0 13 (V 0 12)) 0 12) 130 then (f_X7_nextToken_34_c0 ((st V 0 13 (V 0 12)) 8 (((st V 0 13 (V 0 12)) 0 12)).toNatClampNeg) (st V 0 13 (V 0 12))) else none))
def f_X7_must_9 (V : Mem) : Option (Mem) := (if (V 0 16) = (0 : Int32) then ((f_X7_nextToken V).bind fun q17 => some q17) else some V)
def f_X7_must (x1 : Int32) (V : Mem) : Option (Mem) := (if x1 = (0 : Int32) then ((f_X7_bad (1 : Int32) V).bind fun q6 => (f_X7_must_9  q6)) else (f_X7_must_9  V))
def f_X7_isLetter (x1 : Int32) (V : Mem) : Option (Int32 × Mem) := (if (V 0 16) = (0 : Int32) then (if (V 0 14) = (2 : Int32) then (if (V 0 15) = x1 then some ((1 : Int32), V) else some ((0 : Int32), V)) else some ((0 : Int32), V)) else some ((0 : Int32), V))
def f_X7_number_62 (s0 : Int32) (V : Mem) : Option (Int32 × Mem) := ((f_X7_must (1 : Int32) V).bind fun q65 => some (s0, q65))
def f_X7_number_47 (x1 : Int32) (V : Mem) : Option (Int32 × Mem) := (if (V 0 16) = (0 : Int32) then (f_X7_number_62 (V 0 15) V) else (f_X7_number_62 x1 V))
def f_X7_number_20 (x1 : Int32) (x2 : Int32) (V : Mem) : Option (Int32 × Mem) := (if (V 0 16) = (0 : Int32) then ((f_X7_in ((V 0 15)).toInt64 (x1).toInt64 (x2).toInt64 V).bind fun q36 => (if q36.1 = (0 : Int32) then ((f_X7_bad (2 : Int32) q36.2).bind fun q44 => (f_X7_number_47 x1 q44)) else (f_X7_number_47 x1 q36.2))) else (f_X7_number_47 x1 V))
def f_X7_number (x1 : Int32) (x2 : Int32) (V : Mem) : Option (Int32 × Mem) := (if (V 0 16) = (0 : Int32) then (if (V 0 14) = (3 : Int32) then (f_X7_number_20 x1 x2 V) else ((f_X7_bad (1 : Int32) V).bind fun q17 => (f_X7_number_20 x1 x2 q17))) else (f_X7_number_20 x1 x2 V))
def f_X7_mustSign_22_c0 (s1 : Int32) (V : Mem) : Option (Mem) := ((f_X7_must s1 V).bind fun q22 => some q22)
def f_X7_mustSign (x1 : Int32) (V : Mem) : Option (Mem) := (if (V 0 14) = (4 : Int32) then (if (V 0 15) = x1 then (f_X7_mustSign_22_c0 (1 : Int32) V) else (f_X7_mustSign_22_c0 (0 : Int32) V)) else (f_X7_mustSign_22_c0 (0 : Int32) V))
def f_X7_begin (V : Mem) : Option (Mem) := ((f_X7_nextToken (st (st V 0 12 (0 : Int32)) 0 16 (0 : Int32))).bind fun q11 => some q11)
def f_X7_failed_44_c0 (s1 : Int32) (V : Mem) : Option (Int32 × Mem) := (if ((st V 0 18 s1) 0 16) ≤ (0 : Int32) then some ((0 : Int32), (st V 0 18 s1)) else some ((1 : Int32), (st V 0 18 s1)))
def f_X7_failed_20 (V : Mem) : Option (Int32 × Mem) := (if ((st V 0 11 (0 : Int32)) 0 16) ≤ (0 : Int32) then (f_X7_failed_44_c0 ((st V 0 11 (0 : Int32)) 0 18) (st V 0 11 (0 : Int32))) else (f_X7_failed_44_c0 ((st V 0 11 (0 : Int32)) 0 16) (st V 0 11 (0 : Int32))))
def f_X7_failed (V : Mem) : Option (Int32 × Mem) := (if (V 0 16) = (0 : Int32) then (if (V 0 14) = (1 : Int32) then (f_X7_failed_20  V) else ((f_X7_bad (1 : Int32) V).bind fun q17 => (f_X7_failed_20  q17))) else (f_X7_failed_20  V))
def f_X7_fault (V : Mem) : Option (Int32 × Mem) := some (((st V 0 0 (0 : Int32)) 0 18), (st V 0 0 (0 : Int32)))
def f_X7_kindBy (x0 : Int32) (V : Mem) : Option (Int32 × Mem) := (if x0 = (105 : Int32) then some ((1 : Int32), V) else (if x0 = (114 : Int32) then some ((2 : Int32), V) else (if x0 = (99 : Int32) then some ((3 : Int32), V) else (if x0 = (116 : Int32) then some ((4 : Int32), V) else (if x0 = (104 : Int32) then some ((5 : Int32), V) else some ((-1000000 : Int32), V))))))
def f_X7_isSort (V : Mem) : Option (Int32 × Mem) := (if (V 0 16) = (0 : Int32) then (if (V 0 14) = (2 : Int32) then ((f_X7_kindBy (V 0 15) V).bind fun q19 => (if q19.1 = (-1000000 : Int32) then some ((0 : Int32), q19.2) else some ((1 : Int32), q19.2))) else some ((0 : Int32), V)) else some ((0 : Int32), V))
def f_X7_layAt (r0 : Nat) (x1 : Int32) (x2 : Int32) (x3 : Int32) (x4 : Int32) (V : Mem) : Option (Mem) := (if ib (((4 : Int32) + ((3 : Int32) * x1)) + (0 : Int32)) 76 then (if ib (((4 : Int32) + ((3 : Int32) * x1)) + (1 : Int32)) 76 then (if ib (((4 : Int32) + ((3 : Int32) * x1)) + (2 : Int32)) 76 then some (st (st (st V r0 ((((4 : Int32) + ((3 : Int32) * x1)) + (0 : Int32))).toNatClampNeg x2) r0 ((((4 : Int32) + ((3 : Int32) * x1)) + (1 : Int32))).toNatClampNeg x3) r0 ((((4 : Int32) + ((3 : Int32) * x1)) + (2 : Int32))).toNatClampNeg x4) else none) else none) else none)
def f_X7_readParagraph_24 (x1 : Int32) (V : Mem) : Option (Mem) := ((f_X7_must (1 : Int32) V).bind fun q26 => ((f_X7_number (0 : Int32) (2 : Int32) q26).bind fun q32 => ((f_X7_mustSign (44 : Int32) q32.2).bind fun q39 => ((f_X7_number (0 : Int32) (20 : Int32) q39).bind fun q46 => ((f_X7_mustSign (59 : Int32) q46.2).bind fun q53 => (if (q53 0 16) = (0 : Int32) then (if ib (0 : Int32) 76 then ((f_X7_layAt 5 (q53 5 ((0 : Int32)).toNatClampNeg) x1 q32.1 q46.1 q53).bind fun q76 => (if ib (0 : Int32) 76 then (if ib (0 : Int32) 76 then some (st q76 5 ((0 : Int32)).toNatClampNeg ((q76 5 ((0 : Int32)).toNatClampNeg) + (1 : Int32))) else none) else none)) else none) else some q53))))))
def f_X7_readParagraph (V : Mem) : Option (Mem) := ((f_X7_kindBy (V 0 15) V).bind fun q4 => (if ib (0 : Int32) 76 then (if (q4.2 5 ((0 : Int32)).toNatClampNeg) = (16 : Int32) then ((f_X7_bad (3 : Int32) q4.2).bind fun q21 => (f_X7_readParagraph_24 q4.1 q21)) else (f_X7_readParagraph_24 q4.1 q4.2)) else none))
def f_X7_sheet_142 : Nat → Int32 → Mem → Option (Int32 × Mem)
  | 0, _, _ => none
  | n + 1, x1, V => (if (76 : Int32) ≤ x1 then (if ib (0 : Int32) 76 then some ((V 4 ((0 : Int32)).toNatClampNeg), V) else none) else (if ib x1 76 then (if ib x1 76 then (f_X7_sheet_142 n (x1 + 1) (st V 4 (x1).toNatClampNeg (V 5 (x1).toNatClampNeg))) else none) else none))
def f_X7_sheet_106 : Nat → Mem → Option (Int32 × Mem)
  | 0, _ => none
  | n + 1, V => ((f_X7_isSort V).bind fun q107 => (if q107.1 = (0 : Int32) then ((f_X7_failed q107.2).bind fun q121 => (if q121.1 = (0 : Int32) then (f_X7_sheet_142 4096 (0 : Int32) (st q121.2 0 9 (0 : Int32))) else some (((-1000100 : Int32) - (q121.2 0 17)), q121.2))) else ((f_X7_readParagraph q107.2).bind fun q114 => (f_X7_sheet_106 n  q114))))
def f_X7_sheet_11 : Nat → Int32 → Mem → Option (Int32 × Mem)
  | 0, _, _ => none
  | n + 1, x1, V => (if (76 : Int32) ≤ x1 then ((f_X7_isLetter (110 : Int32) V).bind fun q34 => ((f_X7_must q34.1 q34.2).bind fun q37 => ((f_X7_number (0 : Int32) (3 : Int32) q37).bind fun q48 => (if ib (1 : Int32) 76 then ((f_X7_mustSign (44 : Int32) (st q48.2 5 ((1 : Int32)).toNatClampNeg q48.1)).bind fun q55 => ((f_X7_number (0 : Int32) (3 : Int32) q55).bind fun q66 => (if ib (2 : Int32) 76 then ((f_X7_mustSign (44 : Int32) (st q66.2 5 ((2 : Int32)).toNatClampNeg q66.1)).bind fun q73 => ((f_X7_number (0 : Int32) (3 : Int32) q73).bind fun q84 => (if ib (3 : Int32) 76 then ((f_X7_mustSign (59 : Int32) (st q84.2 5 ((3 : Int32)).toNatClampNeg q84.1)).bind fun q91 => ((f_X7_isSort q91).bind fun q95 => (if q95.1 = (0 : Int32) then ((f_X7_bad (1 : Int32) q95.2).bind fun q103 => (f_X7_sheet_106 4096  q103)) else (f_X7_sheet_106 4096  q95.2)))) else none))) else none))) else none)))) else (if ib x1 76 then (f_X7_sheet_11 n (x1 + 1) (st V 5 (x1).toNatClampNeg (0 : Int32))) else none))
def f_X7_sheet (V : Mem) : Option (Int32 × Mem) := ((f_X7_begin (st V 0 0 (0 : Int32))).bind fun q6 => (f_X7_sheet_11 4096 (0 : Int32) q6))
def f_X7_isThere (V : Mem) : Option (Int32 × Mem) := (if ib (0 : Int32) 76 then (if (V 4 ((0 : Int32)).toNatClampNeg) ≤ (0 : Int32) then some ((0 : Int32), V) else some ((1 : Int32), V)) else none)
def f_X7_isParagraph (x1 : Int32) (V : Mem) : Option (Int32 × Mem) := (if ib (0 : Int32) 76 then ((f_X7_in (x1).toInt64 (0 : Int64) (((V 4 ((0 : Int32)).toNatClampNeg) - (1 : Int32))).toInt64 V).bind fun q12 => (if (q12.1 &&& 1) = q12.1 then some (q12.1, q12.2) else none)) else none)
def f_X7_has (x0 : Int32) (x1 : Int32) (V : Mem) : Option (Int32 × Mem) := (if ((x0 >>> (x1 &&& 31)) &&& (1 : Int32)) = (1 : Int32) then some ((1 : Int32), V) else some ((0 : Int32), V))
def f_X7_of (r0 : Nat) (x1 : Int32) (x2 : Int32) (V : Mem) : Option (Int32 × Mem) := (if ib (((4 : Int32) + ((3 : Int32) * x1)) + x2) 76 then some ((V r0 ((((4 : Int32) + ((3 : Int32) * x1)) + x2)).toNatClampNeg), V) else none)
def f_X7_isLabelled (r0 : Nat) (x1 : Int32) (V : Mem) : Option (Int32 × Mem) := ((f_X7_of r0 x1 (0 : Int32) V).bind fun q3 => (if (4 : Int32) ≤ q3.1 then some ((0 : Int32), q3.2) else some ((1 : Int32), q3.2)))
def f_X7_become (x1 : Int32) (x2 : Int32) (x3 : Int32) (V : Mem) : Option (Mem) := (if ib x1 6 then (if ib x1 6 then some (st (st V 9 (x1).toNatClampNeg x2) 10 (x1).toNatClampNeg x3) else none) else none)
def f_X7_passes_152 : Nat → Int32 → Mem → Option (Mem)
  | 0, _, _ => none
  | n + 1, x5, V => (if (3 : Int32) ≤ x5 then some V else ((f_X7_become x5 (-1 : Int32) (0 : Int32) V).bind fun q163 => (f_X7_passes_152 n (x5 + 1) q163)))
def f_X7_passes_146 (x4 : Int32) (V : Mem) : Option (Mem) := (f_X7_passes_152 4096 (x4 + (1 : Int32)) V)
def f_X7_passes_109 (r1 : Nat) (x2 : Int32) (x3 : Int32) (x4 : Int32) (V : Mem) : Option (Mem) := (if (4 : Int32) ≤ x3 then some V else (if x3 = (2 : Int32) then ((f_X7_of r1 x2 (2 : Int32) V).bind fun q126 => ((f_X7_become x4 (-1 : Int32) q126.1 q126.2).bind fun q129 => (f_X7_passes_146 x4 q129))) else (if ib x4 6 then (if ib x4 6 then (f_X7_passes_146 x4 (st V 10 (x4).toNatClampNeg ((V 10 (x4).toNatClampNeg) + (1 : Int32)))) else none) else none)))
def f_X7_passes_73 : Nat → Nat → Int32 → Int32 → Int32 → Int32 → Mem → Option (Mem)
  | 0, _, _, _, _, _, _ => none
  | n + 1, r1, x2, x3, x4, x5, V => (if (3 : Int32) ≤ x5 then (f_X7_passes_109 r1 x2 x3 x4 V) else (if ib ((3 : Int32) + x5) 6 then (if ib ((3 : Int32) + x5) 6 then ((f_X7_become x5 (V 9 (((3 : Int32) + x5)).toNatClampNeg) (V 10 (((3 : Int32) + x5)).toNatClampNeg) V).bind fun q100 => (f_X7_passes_73 n r1 x2 x3 x4 (x5 + 1) q100)) else none) else none))
def f_X7_passes_65 (r1 : Nat) (x2 : Int32) (x3 : Int32) (x4 : Int32) (V : Mem) : Option (Mem) := (if x3 = (3 : Int32) then (f_X7_passes_73 4096 r1 x2 x3 x4 (0 : Int32) V) else (f_X7_passes_109 r1 x2 x3 x4 V))
def f_X7_passes_23 : Nat → Nat → Int32 → Int32 → Int32 → Int32 → Mem → Option (Mem)
  | 0, _, _, _, _, _, _ => none
  | n + 1, r1, x2, x3, x4, x5, V => (if (3 : Int32) ≤ x5 then (f_X7_passes_65 r1 x2 x3 x4 V) else (if ib x5 6 then (if ib x5 6 then ((f_X7_become ((3 : Int32) + x5) (V 9 (x5).toNatClampNeg) (V 10 (x5).toNatClampNeg) V).bind fun q48 => ((f_X7_become x5 (-1 : Int32) (0 : Int32) q48).bind fun q56 => (f_X7_passes_23 n r1 x2 x3 x4 (x5 + 1) q56))) else none) else none))
def f_X7_passes (r1 : Nat) (x2 : Int32) (V : Mem) : Option (Mem) := ((f_X7_of r1 x2 (0 : Int32) V).bind fun q3 => ((f_X7_of r1 x2 (1 : Int32) q3.2).bind fun q10 => (if q3.1 = (5 : Int32) then (f_X7_passes_23 4096 r1 x2 q3.1 q10.1 (0 : Int32) q10.2) else (f_X7_passes_65 r1 x2 q3.1 q10.1 q10.2))))
def f_X7_countAll_38 (k23 : Nat → Int32 → Mem → Option (Mem)) : Nat → Nat → Int32 → Int32 → Mem → Option (Mem)
  | 0, _, _, _, _ => none
  | n + 1, r1, x2, x3, V => (if (3 : Int32) ≤ x3 then (k23 r1 (x2 + 1) V) else (if ib x3 6 then (if ib (((3 : Int32) * x2) + x3) 72 then (f_X7_countAll_38 k23 n r1 x2 (x3 + 1) (st V 11 ((((3 : Int32) * x2) + x3)).toNatClampNeg (V 10 (x3).toNatClampNeg))) else none) else none))
def f_X7_countAll_23 : Nat → Nat → Int32 → Mem → Option (Mem)
  | 0, _, _, _ => none
  | n + 1, r1, x2, V => (if ib (0 : Int32) 76 then (if (V r1 ((0 : Int32)).toNatClampNeg) ≤ x2 then some V else ((f_X7_passes r1 x2 V).bind fun q33 => (f_X7_countAll_38 (f_X7_countAll_23 n) 4096 r1 x2 (0 : Int32) q33))) else none)
def f_X7_countAll_2 : Nat → Nat → Int32 → Mem → Option (Mem)
  | 0, _, _, _ => none
  | n + 1, r1, x2, V => (if (6 : Int32) ≤ x2 then (f_X7_countAll_23 4096 r1 (0 : Int32) V) else ((f_X7_become x2 (-1 : Int32) (0 : Int32) V).bind fun q12 => (f_X7_countAll_2 n r1 (x2 + 1) q12)))
def f_X7_countAll (r1 : Nat) (V : Mem) : Option (Mem) := (f_X7_countAll_2 4096 r1 (0 : Int32) V)
def f_X7_ownOf (r1 : Nat) (x2 : Int32) (V : Mem) : Option (Int32 × Mem) := ((f_X7_of r1 x2 (1 : Int32) V).bind fun q10 => (if ib (((3 : Int32) * x2) + q10.1) 72 then some ((q10.2 11 ((((3 : Int32) * x2) + q10.1)).toNatClampNeg), q10.2) else none))
def f_X7_lastTogether (r1 : Nat) (V : Mem) : Option (Int32 × Mem) := (if ib (0 : Int32) 76 then (if (0 : Int32) ≤ ((V r1 ((0 : Int32)).toNatClampNeg) - (1 : Int32)) then (if ib ((3 : Int32) * ((V r1 ((0 : Int32)).toNatClampNeg) - (1 : Int32))) 72 then (if ib (((3 : Int32) * ((V r1 ((0 : Int32)).toNatClampNeg) - (1 : Int32))) + (1 : Int32)) 72 then (if ib (((3 : Int32) * ((V r1 ((0 : Int32)).toNatClampNeg) - (1 : Int32))) + (2 : Int32)) 72 then some ((((V 11 (((3 : Int32) * ((V r1 ((0 : Int32)).toNatClampNeg) - (1 : Int32)))).toNatClampNeg) + (V 11 ((((3 : Int32) * ((V r1 ((0 : Int32)).toNatClampNeg) - (1 : Int32))) + (1 : Int32))).toNatClampNeg)) + (V 11 ((((3 : Int32) * ((V r1 ((0 : Int32)).toNatClampNeg) - (1 : Int32))) + (2 : Int32))).toNatClampNeg)), V) else none) else none) else none) else some ((0 : Int32), V)) else none)
def f_X7_writes (x1 : Int32) (V : Mem) : Option (Mem) := (if ib (V 0 23) 40 then some (st (st V 12 ((V 0 23)).toNatClampNeg x1) 0 23 (((st V 12 ((V 0 23)).toNatClampNeg x1) 0 23) + (1 : Int32))) else none)
def f_X7_figures_17 (x1 : Int32) (V : Mem) : Option (Mem) := ((f_X7_writes ((48 : Int32) + (x1 - (x1 / (10 : Int32)) * (10 : Int32))) V).bind fun q25 => some q25)
def f_X7_figures (x1 : Int32) (V : Mem) : Option (Mem) := (if x1 ≤ (9 : Int32) then (f_X7_figures_17 x1 V) else ((f_X7_writes ((48 : Int32) + (x1 / (10 : Int32))) V).bind fun q14 => (f_X7_figures_17 x1 q14)))
def f_X7_letters_20 (x1 : Int32) (x2 : Int32) (V : Mem) : Option (Mem) := ((f_X7_writes (x2 + ((x1 - (1 : Int32)) - ((x1 - (1 : Int32)) / (26 : Int32)) * (26 : Int32))) V).bind fun q29 => some q29)
def f_X7_letters (x1 : Int32) (x2 : Int32) (V : Mem) : Option (Mem) := (if x1 ≤ (26 : Int32) then (f_X7_letters_20 x1 x2 V) else ((f_X7_writes ((x2 + ((x1 - (1 : Int32)) / (26 : Int32))) - (1 : Int32)) V).bind fun q17 => (f_X7_letters_20 x1 x2 q17)))
def f_X7_romanFigure_51 : Nat → Int32 → Int32 → Int32 → Mem → Option (Mem)
  | 0, _, _, _, _ => none
  | n + 1, x1, x2, x5, V => (if (x1 - (x1 / (5 : Int32)) * (5 : Int32)) ≤ x5 then some V else ((f_X7_writes x2 V).bind fun q61 => (f_X7_romanFigure_51 n x1 x2 (x5 + 1) q61)))
def f_X7_romanFigure_48 (x1 : Int32) (x2 : Int32) (V : Mem) : Option (Mem) := (f_X7_romanFigure_51 4096 x1 x2 (0 : Int32) V)
def f_X7_romanFigure (x1 : Int32) (x2 : Int32) (x3 : Int32) (x4 : Int32) (V : Mem) : Option (Mem) := (if x1 = (9 : Int32) then ((f_X7_writes x2 V).bind fun q8 => ((f_X7_writes x4 q8).bind fun q14 => some q14)) else (if x1 = (4 : Int32) then ((f_X7_writes x2 V).bind fun q27 => ((f_X7_writes x3 q27).bind fun q32 => some q32)) else (if x1 ≤ (4 : Int32) then (f_X7_romanFigure_48 x1 x2 V) else ((f_X7_writes x3 V).bind fun q45 => (f_X7_romanFigure_48 x1 x2 q45)))))
def f_X7_numerals_8 (x1 : Int32) (V : Mem) : Option (Mem) := ((f_X7_figures x1 V).bind fun q10 => some q10)
def f_X7_numerals_66_c0 (s1 : Int32) (s2 : Int32) (V : Mem) : Option (Mem) := ((f_X7_letters s1 s2 V).bind fun q66 => some q66)
def f_X7_numerals (x1 : Int32) (x2 : Int32) (V : Mem) : Option (Mem) := (if x1 = (0 : Int32) then (f_X7_numerals_8 x1 V) else (if x2 = (0 : Int32) then (f_X7_numerals_8 x1 V) else (if x2 = (2 : Int32) then ((f_X7_romanFigure (x1 / (10 : Int32)) (120 : Int32) (108 : Int32) (99 : Int32) V).bind fun q32 => ((f_X7_romanFigure (x1 - (x1 / (10 : Int32)) * (10 : Int32)) (105 : Int32) (118 : Int32) (120 : Int32) q32).bind fun q46 => some q46)) else (if x2 = (1 : Int32) then (f_X7_numerals_66_c0 x1 (97 : Int32) V) else (f_X7_numerals_66_c0 x1 (65 : Int32) V)))))
def f_X7_writeLabel_59 (k39 : Nat → Int32 → Int32 → Int32 → Int32 → Mem → Option (Mem)) (r1 : Nat) (x2 : Int32) (x4 : Int32) (x5 : Int32) (x6 : Int32) (V : Mem) : Option (Mem) := (if ib (((3 : Int32) * x2) + x6) 72 then (if ib ((1 : Int32) + x6) 76 then ((f_X7_numerals (V 11 ((((3 : Int32) * x2) + x6)).toNatClampNeg) (V r1 (((1 : Int32) + x6)).toNatClampNeg) V).bind fun q77 => (k39 r1 x2 x4 x5 (x6 + 1) q77)) else none) else none)
def f_X7_writeLabel_39 : Nat → Nat → Int32 → Int32 → Int32 → Int32 → Mem → Option (Mem)
  | 0, _, _, _, _, _, _ => none
  | n + 1, r1, x2, x4, x5, x6, V => (if x4 < x6 then some V else (if x6 ≤ x5 then (f_X7_writeLabel_59 (f_X7_writeLabel_39 n) r1 x2 x4 x5 x6 V) else ((f_X7_writes (46 : Int32) V).bind fun q56 => (f_X7_writeLabel_59 (f_X7_writeLabel_39 n) r1 x2 x4 x5 x6 q56))))
def f_X7_writeLabel_33 (r1 : Nat) (x2 : Int32) (x4 : Int32) (s0 : Int32) (V : Mem) : Option (Mem) := (f_X7_writeLabel_39 4096 r1 x2 x4 s0 s0 V)
def f_X7_writeLabel (r1 : Nat) (x2 : Int32) (x3 : Int32) (V : Mem) : Option (Mem) := ((f_X7_isLabelled r1 x2 (st V 0 23 (0 : Int32))).bind fun q7 => (if q7.1 = (0 : Int32) then some q7.2 else ((f_X7_of r1 x2 (1 : Int32) q7.2).bind fun q16 => (if q16.1 ≤ x3 then (f_X7_writeLabel_33 r1 x2 q16.1 q16.1 q16.2) else (f_X7_writeLabel_33 r1 x2 q16.1 x3 q16.2)))))
def f_X7_layThen_2 : Nat → Int32 → Mem → Option (Mem)
  | 0, _, _ => none
  | n + 1, x1, V => (if (76 : Int32) ≤ x1 then some V else (if ib x1 76 then (if ib x1 76 then (f_X7_layThen_2 n (x1 + 1) (st V 6 (x1).toNatClampNeg (V 4 (x1).toNatClampNeg))) else none) else none))
def f_X7_layThen (V : Mem) : Option (Mem) := (f_X7_layThen_2 4096 (0 : Int32) V)
def f_X7_putAt_5 : Nat → Nat → Int32 → Int32 → Int32 → Int32 → Int32 → Mem → Option (Mem)
  | 0, _, _, _, _, _, _, _ => none
  | n + 1, r0, x1, x2, x3, x4, x5, V => (if x5 ≤ x1 then ((f_X7_layAt r0 x1 x2 x3 x4 V).bind fun q56 => (if ib (0 : Int32) 76 then (if ib (0 : Int32) 76 then some (st q56 r0 ((0 : Int32)).toNatClampNeg ((q56 r0 ((0 : Int32)).toNatClampNeg) + (1 : Int32))) else none) else none)) else ((f_X7_of r0 (x5 - (1 : Int32)) (0 : Int32) V).bind fun q20 => ((f_X7_of r0 (x5 - (1 : Int32)) (1 : Int32) q20.2).bind fun q29 => ((f_X7_of r0 (x5 - (1 : Int32)) (2 : Int32) q29.2).bind fun q38 => ((f_X7_layAt r0 x5 q20.1 q29.1 q38.1 q38.2).bind fun q41 => (f_X7_putAt_5 n r0 x1 x2 x3 x4 (x5 + (-1)) q41))))))
def f_X7_putAt (r0 : Nat) (x1 : Int32) (x2 : Int32) (x3 : Int32) (x4 : Int32) (V : Mem) : Option (Mem) := (if ib (0 : Int32) 76 then (f_X7_putAt_5 4096 r0 x1 x2 x3 x4 (V r0 ((0 : Int32)).toNatClampNeg) V) else none)
def f_X7_takeOut_9 : Nat → Nat → Int32 → Mem → Option (Mem)
  | 0, _, _, _ => none
  | n + 1, r0, x2, V => (if ib (0 : Int32) 76 then (if (V r0 ((0 : Int32)).toNatClampNeg) ≤ x2 then (if ib (0 : Int32) 76 then ((f_X7_layAt r0 (V r0 ((0 : Int32)).toNatClampNeg) (0 : Int32) (0 : Int32) (0 : Int32) V).bind fun q58 => some q58) else none) else ((f_X7_of r0 (x2 + (1 : Int32)) (0 : Int32) V).bind fun q23 => ((f_X7_of r0 (x2 + (1 : Int32)) (1 : Int32) q23.2).bind fun q31 => ((f_X7_of r0 (x2 + (1 : Int32)) (2 : Int32) q31.2).bind fun q39 => ((f_X7_layAt r0 x2 q23.1 q31.1 q39.1 q39.2).bind fun q42 => (f_X7_takeOut_9 n r0 (x2 + 1) q42)))))) else none)
def f_X7_takeOut (r0 : Nat) (x1 : Int32) (V : Mem) : Option (Mem) := (if ib (0 : Int32) 76 then (if ib (0 : Int32) 76 then (f_X7_takeOut_9 4096 r0 x1 (st V r0 ((0 : Int32)).toNatClampNeg ((V r0 ((0 : Int32)).toNatClampNeg) - (1 : Int32)))) else none) else none)
def f_X7_moveTo (r0 : Nat) (x1 : Int32) (x2 : Int32) (V : Mem) : Option (Mem) := ((f_X7_of r0 x1 (0 : Int32) V).bind fun q3 => ((f_X7_of r0 x1 (1 : Int32) q3.2).bind fun q10 => ((f_X7_of r0 x1 (2 : Int32) q10.2).bind fun q18 => ((f_X7_takeOut r0 x1 q18.2).bind fun q25 => ((f_X7_putAt r0 x2 q3.1 q10.1 q18.1 q25).bind fun q35 => some q35)))))
def f_X7_keep_51 : Nat → Int32 → Mem → Option (Mem)
  | 0, _, _ => none
  | n + 1, x1, V => (if (76 : Int32) ≤ x1 then some (st V 0 9 ((V 0 9) + (1 : Int32))) else (if ib x1 76 then (if ib (((76 : Int32) * (V 0 9)) + x1) 1824 then (f_X7_keep_51 n (x1 + 1) (st V 7 ((((76 : Int32) * (V 0 9)) + x1)).toNatClampNeg (V 4 (x1).toNatClampNeg))) else none) else none))
def f_X7_keep_49 (V : Mem) : Option (Mem) := (f_X7_keep_51 4096 (0 : Int32) V)
def f_X7_keep_11 : Nat → Int32 → Mem → Option (Mem)
  | 0, _, _ => none
  | n + 1, x1, V => (if (1748 : Int32) ≤ x1 then (f_X7_keep_49  (st V 0 9 ((V 0 9) - (1 : Int32)))) else (if ib (x1 + (76 : Int32)) 1824 then (if ib x1 1824 then (f_X7_keep_11 n (x1 + 1) (st V 7 (x1).toNatClampNeg (V 7 ((x1 + (76 : Int32))).toNatClampNeg))) else none) else none))
def f_X7_keep (V : Mem) : Option (Mem) := (if (V 0 9) = (24 : Int32) then (f_X7_keep_11 4096 (0 : Int32) V) else (f_X7_keep_49  V))
def f_X7_isSuch (x0 : Int32) (x1 : Int32) (x2 : Int32) (V : Mem) : Option (Int32 × Mem) := ((f_X7_in (x0).toInt64 (1 : Int64) (5 : Int64) V).bind fun q6 => (if q6.1 = (0 : Int32) then some ((0 : Int32), q6.2) else ((f_X7_in (x1).toInt64 (0 : Int64) (2 : Int64) q6.2).bind fun q18 => (if q18.1 = (0 : Int32) then some ((0 : Int32), q18.2) else ((f_X7_in (x2).toInt64 (0 : Int64) (20 : Int64) q18.2).bind fun q30 => (if q30.1 = (0 : Int32) then some ((0 : Int32), q30.2) else some ((1 : Int32), q30.2)))))))
def f_X7_put (x1 : Int32) (x2 : Int32) (x3 : Int32) (x4 : Int32) (V : Mem) : Option (Int32 × Mem) := ((f_X7_isThere (st V 0 0 (0 : Int32))).bind fun q6 => (if q6.1 = (0 : Int32) then some ((-1000002 : Int32), q6.2) else (if ib (0 : Int32) 76 then ((f_X7_in (x1).toInt64 (0 : Int64) ((q6.2 4 ((0 : Int32)).toNatClampNeg)).toInt64 q6.2).bind fun q25 => (if q25.1 = (0 : Int32) then some ((-1000001 : Int32), q25.2) else ((f_X7_isSuch x2 x3 x4 q25.2).bind fun q35 => (if q35.1 = (0 : Int32) then some ((-1000001 : Int32), q35.2) else (if ib (0 : Int32) 76 then (if (q35.2 4 ((0 : Int32)).toNatClampNeg) = (24 : Int32) then some ((-1000003 : Int32), q35.2) else ((f_X7_keep q35.2).bind fun q59 => ((f_X7_putAt 4 x1 x2 x3 x4 q59).bind fun q71 => (if ib (0 : Int32) 76 then some ((q71 4 ((0 : Int32)).toNatClampNeg), q71) else none)))) else none))))) else none)))
def f_X7_take (x1 : Int32) (V : Mem) : Option (Int32 × Mem) := ((f_X7_isParagraph x1 (st V 0 0 (0 : Int32))).bind fun q7 => (if q7.1 = (0 : Int32) then some ((-1000001 : Int32), q7.2) else (if ib (0 : Int32) 76 then (if (q7.2 4 ((0 : Int32)).toNatClampNeg) = (1 : Int32) then some ((-1000002 : Int32), q7.2) else ((f_X7_keep q7.2).bind fun q30 => ((f_X7_takeOut 4 x1 q30).bind fun q38 => (if ib (0 : Int32) 76 then some ((q38 4 ((0 : Int32)).toNatClampNeg), q38) else none)))) else none)))
def f_X7_move (x1 : Int32) (x2 : Int32) (V : Mem) : Option (Int32 × Mem) := ((f_X7_isParagraph x1 (st V 0 0 (0 : Int32))).bind fun q7 => (if q7.1 = (0 : Int32) then some ((-1000001 : Int32), q7.2) else ((f_X7_isParagraph x2 q7.2).bind fun q15 => (if q15.1 = (0 : Int32) then some ((-1000001 : Int32), q15.2) else (if x1 = x2 then some ((-1000002 : Int32), q15.2) else ((f_X7_keep q15.2).bind fun q33 => ((f_X7_of 4 x1 (1 : Int32) q33).bind fun q42 => ((f_X7_moveTo 4 x1 x2 q42.2).bind fun q52 => some (q42.1, q52)))))))))
def f_X7_change (x1 : Int32) (x2 : Int32) (x3 : Int32) (x4 : Int32) (V : Mem) : Option (Int32 × Mem) := ((f_X7_isParagraph x1 (st V 0 0 (0 : Int32))).bind fun q7 => (if q7.1 = (0 : Int32) then some ((-1000001 : Int32), q7.2) else ((f_X7_isSuch x2 x3 x4 q7.2).bind fun q17 => (if q17.1 = (0 : Int32) then some ((-1000001 : Int32), q17.2) else ((f_X7_keep q17.2).bind fun q27 => ((f_X7_of 4 x1 (0 : Int32) q27).bind fun q36 => ((f_X7_layAt 4 x1 x2 x3 x4 q36.2).bind fun q50 => some (q36.1, q50))))))))
def f_X7_style (x1 : Int32) (x2 : Int32) (V : Mem) : Option (Int32 × Mem) := ((f_X7_isThere (st V 0 0 (0 : Int32))).bind fun q6 => (if q6.1 = (0 : Int32) then some ((-1000002 : Int32), q6.2) else ((f_X7_in (x1).toInt64 (0 : Int64) (2 : Int64) q6.2).bind fun q21 => (if q21.1 = (0 : Int32) then some ((-1000001 : Int32), q21.2) else ((f_X7_in (x2).toInt64 (0 : Int64) (3 : Int64) q21.2).bind fun q33 => (if q33.1 = (0 : Int32) then some ((-1000001 : Int32), q33.2) else ((f_X7_keep q33.2).bind fun q43 => (if ib ((1 : Int32) + x1) 76 then (if ib ((1 : Int32) + x1) 76 then some ((q43 4 (((1 : Int32) + x1)).toNatClampNeg), (st q43 4 (((1 : Int32) + x1)).toNatClampNeg x2)) else none) else none))))))))
def f_X7_undo_27 : Nat → Int32 → Mem → Option (Int32 × Mem)
  | 0, _, _ => none
  | n + 1, x1, V => (if (76 : Int32) ≤ x1 then some ((V 0 9), V) else (if ib (((76 : Int32) * (V 0 9)) + x1) 1824 then (if ib x1 76 then (f_X7_undo_27 n (x1 + 1) (st V 4 (x1).toNatClampNeg (V 7 ((((76 : Int32) * (V 0 9)) + x1)).toNatClampNeg))) else none) else none))
def f_X7_undo (V : Mem) : Option (Int32 × Mem) := (if ((st V 0 0 (0 : Int32)) 0 9) = (0 : Int32) then some ((-1000002 : Int32), (st V 0 0 (0 : Int32))) else (f_X7_undo_27 4096 (0 : Int32) (st (st V 0 0 (0 : Int32)) 0 9 (((st V 0 0 (0 : Int32)) 0 9) - (1 : Int32)))))
def f_X7_paragraph (x1 : Int32) (x2 : Int32) (V : Mem) : Option (Int32 × Mem) := ((f_X7_isParagraph x1 (st V 0 0 (0 : Int32))).bind fun q7 => (if q7.1 = (0 : Int32) then some ((-1000001 : Int32), q7.2) else ((f_X7_in (x2).toInt64 (0 : Int64) (5 : Int64) q7.2).bind fun q19 => (if q19.1 = (0 : Int32) then some ((-1000001 : Int32), q19.2) else ((f_X7_countAll 4 q19.2).bind fun q33 => (if (2 : Int32) ≤ x2 then (if (5 : Int32) ≤ x2 then ((f_X7_writeLabel 4 x1 (0 : Int32) q33).bind fun q78 => some ((q78 0 23), q78)) else (if ib ((((3 : Int32) * x1) + x2) - (2 : Int32)) 72 then some ((q33 11 (((((3 : Int32) * x1) + x2) - (2 : Int32))).toNatClampNeg), q33) else none)) else ((f_X7_of 4 x1 ((1 : Int32) + x2) q33).bind fun q49 => some (q49.1, q49.2))))))))
def f_X7_signAt (x1 : Int32) (V : Mem) : Option (Int32 × Mem) := (if (V 0 23) ≤ x1 then some ((-1000000 : Int32), V) else (if ib x1 40 then some ((V 12 (x1).toNatClampNeg), V) else none))
def f_X7_label (x1 : Int32) (x2 : Int32) (x3 : Int32) (V : Mem) : Option (Int32 × Mem) := ((f_X7_isParagraph x1 (st V 0 0 (0 : Int32))).bind fun q7 => (if q7.1 = (0 : Int32) then some ((-1000001 : Int32), q7.2) else ((f_X7_in (x2).toInt64 (0 : Int64) (2 : Int64) q7.2).bind fun q19 => (if q19.1 = (0 : Int32) then some ((-1000001 : Int32), q19.2) else (if (0 : Int32) ≤ x3 then ((f_X7_countAll 4 q19.2).bind fun q37 => ((f_X7_writeLabel 4 x1 x2 q37).bind fun q47 => ((f_X7_signAt x3 q47).bind fun q52 => some (q52.1, q52.2)))) else some ((-1000001 : Int32), q19.2))))))
def f_X7_called_84 (x1 : Int32) (x3 : Int32) (x4 : Int32) (V : Mem) : Option (Int32 × Mem) := ((f_X7_writeLabel 4 x1 x4 V).bind fun q92 => ((f_X7_signAt x3 q92).bind fun q97 => some (q97.1, q97.2)))
def f_X7_called_39 : Nat → Int32 → Int32 → Int32 → Int32 → Mem → Option (Int32 × Mem)
  | 0, _, _, _, _, _ => none
  | n + 1, x1, x2, x3, x4, V => ((f_X7_of 4 x1 (1 : Int32) V).bind fun q47 => (if q47.1 ≤ x4 then (f_X7_called_84 x1 x3 x4 q47.2) else (if ib (((3 : Int32) * x1) + x4) 72 then (if ib (((3 : Int32) * x2) + x4) 72 then (if (q47.2 11 ((((3 : Int32) * x1) + x4)).toNatClampNeg) = (q47.2 11 ((((3 : Int32) * x2) + x4)).toNatClampNeg) then (f_X7_called_39 n x1 x2 x3 (x4 + 1) q47.2) else (f_X7_called_84 x1 x3 x4 q47.2)) else none) else none)))
def f_X7_called (x1 : Int32) (x2 : Int32) (x3 : Int32) (V : Mem) : Option (Int32 × Mem) := ((f_X7_isParagraph x1 (st V 0 0 (0 : Int32))).bind fun q7 => (if q7.1 = (0 : Int32) then some ((-1000001 : Int32), q7.2) else ((f_X7_isParagraph x2 q7.2).bind fun q15 => (if q15.1 = (0 : Int32) then some ((-1000001 : Int32), q15.2) else (if (0 : Int32) ≤ x3 then ((f_X7_countAll 4 q15.2).bind fun q33 => (f_X7_called_39 4096 x1 x2 x3 (0 : Int32) q33)) else some ((-1000001 : Int32), q15.2))))))
def f_X7_span_80 : Nat → Int32 → Int32 → Int32 → Int32 → Mem → Option (Int32 × Mem)
  | 0, _, _, _, _, _ => none
  | n + 1, x2, x3, x4, x5, V => (if x2 < x5 then (if x4 = (0 : Int32) then (if ib x3 6 then some ((V 9 (x3).toNatClampNeg), V) else none) else (if ib x3 6 then some ((V 10 (x3).toNatClampNeg), V) else none)) else ((f_X7_passes 4 x5 V).bind fun q93 => (f_X7_span_80 n x2 x3 x4 (x5 + 1) q93)))
def f_X7_span_55 : Nat → Int32 → Int32 → Int32 → Int32 → Int32 → Mem → Option (Int32 × Mem)
  | 0, _, _, _, _, _, _ => none
  | n + 1, x1, x2, x3, x4, x5, V => (if (6 : Int32) ≤ x5 then (f_X7_span_80 4096 x2 x3 x4 x1 V) else ((f_X7_become x5 x5 (0 : Int32) V).bind fun q68 => (f_X7_span_55 n x1 x2 x3 x4 (x5 + 1) q68)))
def f_X7_span (x1 : Int32) (x2 : Int32) (x3 : Int32) (x4 : Int32) (V : Mem) : Option (Int32 × Mem) := ((f_X7_isParagraph x1 (st V 0 0 (0 : Int32))).bind fun q7 => (if q7.1 = (0 : Int32) then some ((-1000001 : Int32), q7.2) else ((f_X7_isParagraph x2 q7.2).bind fun q15 => (if q15.1 = (0 : Int32) then some ((-1000001 : Int32), q15.2) else (if x2 < x1 then some ((-1000001 : Int32), q15.2) else ((f_X7_in (x3).toInt64 (0 : Int64) (5 : Int64) q15.2).bind fun q32 => (if q32.1 = (0 : Int32) then some ((-1000001 : Int32), q32.2) else ((f_X7_in (x4).toInt64 (0 : Int64) (1 : Int64) q32.2).bind fun q43 => (if q43.1 = (0 : Int32) then some ((-1000001 : Int32), q43.2) else (f_X7_span_55 4096 x1 x2 x3 x4 (0 : Int32) q43.2))))))))))
def f_X7_holdLabel_10 : Nat → Int32 → Mem → Option (Mem)
  | 0, _, _ => none
  | n + 1, x1, V => (if (V 0 23) ≤ x1 then some V else (if ib x1 40 then (if ib x1 40 then (f_X7_holdLabel_10 n (x1 + 1) (st V 13 (x1).toNatClampNeg (V 12 (x1).toNatClampNeg))) else none) else none))
def f_X7_holdLabel (V : Mem) : Option (Mem) := (f_X7_holdLabel_10 4096 (0 : Int32) (st V 0 25 (V 0 23)))
def f_X7_compared_53 (V : Mem) : Option (Int32 × Mem) := some (((V 0 23) - (V 0 25)), V)
def f_X7_compared_2 : Nat → Int32 → Mem → Option (Int32 × Mem)
  | 0, _, _ => none
  | n + 1, x1, V => (if (V 0 23) ≤ x1 then (f_X7_compared_53  V) else (if (V 0 25) ≤ x1 then (f_X7_compared_53  V) else (if ib x1 40 then (if ib x1 40 then (if (V 12 (x1).toNatClampNeg) = (V 13 (x1).toNatClampNeg) then (f_X7_compared_2 n (x1 + 1) V) else (if ib x1 40 then (if ib x1 40 then some (((V 12 (x1).toNatClampNeg) - (V 13 (x1).toNatClampNeg)), V) else none) else none)) else none) else none)))
def f_X7_compared (V : Mem) : Option (Int32 × Mem) := (f_X7_compared_2 4096 (0 : Int32) V)
def f_X7_register_149 (k32 : Int32 → Int32 → Mem → Option (Int32 × Mem)) (x1 : Int32) (x2 : Int32) (V : Mem) : Option (Int32 × Mem) := (k32 x1 (x2 + 1) V)
def f_X7_register_136 (k72 : Int32 → Int32 → Int32 → Int32 → Mem → Option (Int32 × Mem)) (x1 : Int32) (x2 : Int32) (x3 : Int32) (x4 : Int32) (V : Mem) : Option (Int32 × Mem) := (k72 x1 x2 x3 (x4 + 1) V)
def f_X7_register_134 (k72 : Int32 → Int32 → Int32 → Int32 → Mem → Option (Int32 × Mem)) (x1 : Int32) (x2 : Int32) (x4 : Int32) (s0 : Int32) (s1 : Int32) (V : Mem) : Option (Int32 × Mem) := (f_X7_register_136 k72 x1 x2 (s0 + s1) x4 V)
def f_X7_register_72 (k32 : Int32 → Int32 → Mem → Option (Int32 × Mem)) : Nat → Int32 → Int32 → Int32 → Int32 → Mem → Option (Int32 × Mem)
  | 0, _, _, _, _, _ => none
  | n + 1, x1, x2, x3, x4, V => (if ib (0 : Int32) 76 then (if (V 4 ((0 : Int32)).toNatClampNeg) ≤ x4 then (if x3 = x1 then some (x2, V) else (f_X7_register_149 k32 x1 x2 V)) else ((f_X7_isLabelled 4 x4 V).bind fun q89 => (if q89.1 = (0 : Int32) then (f_X7_register_136 (f_X7_register_72 k32 n) x1 x2 x3 x4 q89.2) else ((f_X7_writeLabel 4 x4 (0 : Int32) q89.2).bind fun q103 => ((f_X7_compared q103).bind fun q107 => (if q107.1 < (0 : Int32) then (f_X7_register_134 (f_X7_register_72 k32 n) x1 x2 x4 x3 (1 : Int32) q107.2) else (if q107.1 = (0 : Int32) then (if x2 ≤ x4 then (f_X7_register_134 (f_X7_register_72 k32 n) x1 x2 x4 x3 (0 : Int32) q107.2) else (f_X7_register_134 (f_X7_register_72 k32 n) x1 x2 x4 x3 (1 : Int32) q107.2)) else (f_X7_register_134 (f_X7_register_72 k32 n) x1 x2 x4 x3 (0 : Int32) q107.2)))))))) else none)
def f_X7_register_32 : Nat → Int32 → Int32 → Mem → Option (Int32 × Mem)
  | 0, _, _, _ => none
  | n + 1, x1, x2, V => (if ib (0 : Int32) 76 then (if (V 4 ((0 : Int32)).toNatClampNeg) ≤ x2 then some ((-1000000 : Int32), V) else ((f_X7_isLabelled 4 x2 V).bind fun q47 => (if q47.1 = (0 : Int32) then (f_X7_register_149 (f_X7_register_32 n) x1 x2 q47.2) else ((f_X7_writeLabel 4 x2 (0 : Int32) q47.2).bind fun q60 => ((f_X7_holdLabel q60).bind fun q64 => (f_X7_register_72 (f_X7_register_32 n) 4096 x1 x2 (0 : Int32) (0 : Int32) q64)))))) else none)
def f_X7_register (x1 : Int32) (V : Mem) : Option (Int32 × Mem) := ((f_X7_isThere (st V 0 0 (0 : Int32))).bind fun q6 => (if q6.1 = (0 : Int32) then some ((-1000002 : Int32), q6.2) else (if (0 : Int32) ≤ x1 then ((f_X7_countAll 4 q6.2).bind fun q27 => (f_X7_register_32 4096 x1 (0 : Int32) q27)) else some ((-1000001 : Int32), q6.2))))
def f_X7_rowFound_35 (V : Mem) : Option (Int32 × Mem) := ((f_X7_finding (2 : Int32) V).bind fun q37 => some (q37.1, q37.2))
def f_X7_rowFound (x1 : Int32) (x2 : Int32) (x3 : Int32) (V : Mem) : Option (Int32 × Mem) := (if ib x1 8 then (if (0 : Int32) ≤ (V 1 (x1).toNatClampNeg) then (if x2 < (0 : Int32) then (f_X7_rowFound_35  V) else (if ib x1 8 then (if (lg_cmp ((x2).toInt64 + (x3).toInt64) ((V 2 (x1).toNatClampNeg)).toInt64) ≤ (0 : Int32) then some ((0 : Int32), (st V 0 1 (0 : Int32))) else (f_X7_rowFound_35  V)) else none)) else ((f_X7_finding (1 : Int32) V).bind fun q11 => some (q11.1, q11.2))) else none)
def f_X7_bears_153 (k65 : Int32 → Int32 → Int32 → Int32 → Mem → Option (Int32 × Mem)) (x1 : Int32) (x2 : Int32) (x3 : Int32) (x5 : Int32) (x6 : Int32) (V : Mem) : Option (Int32 × Mem) := (if x6 = (0 : Int32) then (k65 x1 x2 x3 (x5 + 1) V) else some (x5, V))
def f_X7_bears_145 (k105 : Int32 → Int32 → Int32 → Int32 → Int32 → Int32 → Mem → Option (Int32 × Mem)) (x1 : Int32) (x2 : Int32) (x3 : Int32) (x5 : Int32) (x7 : Int32) (s0 : Int32) (V : Mem) : Option (Int32 × Mem) := (k105 x1 x2 x3 x5 s0 (x7 + 1) V)
def f_X7_bears_105 (k65 : Int32 → Int32 → Int32 → Int32 → Mem → Option (Int32 × Mem)) : Nat → Int32 → Int32 → Int32 → Int32 → Int32 → Int32 → Mem → Option (Int32 × Mem)
  | 0, _, _, _, _, _, _, _ => none
  | n + 1, x1, x2, x3, x5, x6, x7, V => (if x3 ≤ x7 then (f_X7_bears_153 k65 x1 x2 x3 x5 x6 V) else (if x6 = (0 : Int32) then (f_X7_bears_153 k65 x1 x2 x3 x5 x6 V) else (if ib x7 40 then (if ib ((((40 : Int32) * x1) + x2) + x7) 320 then (if (V 12 (x7).toNatClampNeg) = (V 3 (((((40 : Int32) * x1) + x2) + x7)).toNatClampNeg) then (f_X7_bears_145 (f_X7_bears_105 k65 n) x1 x2 x3 x5 x7 (1 : Int32) V) else (f_X7_bears_145 (f_X7_bears_105 k65 n) x1 x2 x3 x5 x7 (0 : Int32) V)) else none) else none)))
def f_X7_bears_100 (k65 : Int32 → Int32 → Int32 → Int32 → Mem → Option (Int32 × Mem)) (x1 : Int32) (x2 : Int32) (x3 : Int32) (x5 : Int32) (s0 : Int32) (V : Mem) : Option (Int32 × Mem) := (f_X7_bears_105 k65 4096 x1 x2 x3 x5 s0 (0 : Int32) V)
def f_X7_bears_65 : Nat → Int32 → Int32 → Int32 → Int32 → Mem → Option (Int32 × Mem)
  | 0, _, _, _, _, _ => none
  | n + 1, x1, x2, x3, x5, V => (if ib (0 : Int32) 76 then (if (V 4 ((0 : Int32)).toNatClampNeg) ≤ x5 then some ((-1000000 : Int32), V) else ((f_X7_writeLabel 4 x5 (0 : Int32) V).bind fun q84 => (if (q84 0 23) = x3 then (f_X7_bears_100 (f_X7_bears_65 n) x1 x2 x3 x5 (1 : Int32) q84) else (f_X7_bears_100 (f_X7_bears_65 n) x1 x2 x3 x5 (0 : Int32) q84)))) else none)
def f_X7_bears (x1 : Int32) (x2 : Int32) (x3 : Int32) (V : Mem) : Option (Int32 × Mem) := ((f_X7_isThere (st V 0 0 (0 : Int32))).bind fun q6 => (if q6.1 = (0 : Int32) then some ((-1000002 : Int32), q6.2) else ((f_X7_isRow x1 q6.2).bind fun q16 => (if q16.1 = (0 : Int32) then some ((-1000001 : Int32), q16.2) else ((f_X7_in (x3).toInt64 (1 : Int64) (40 : Int64) q16.2).bind fun q28 => (if q28.1 = (0 : Int32) then some ((-1000001 : Int32), q28.2) else ((f_X7_rowFound x1 x2 x3 q28.2).bind fun q41 => (if q41.1 = (0 : Int32) then ((f_X7_countAll 4 q41.2).bind fun q59 => (f_X7_bears_65 4096 x1 x2 x3 (0 : Int32) q59)) else some (q41.1, q41.2)))))))))
def f_X7_isOther_47_c0_c6 (s2 : Int32) (V : Mem) : Option (Int32 × Mem) := ((f_X7_writeLabel 6 s2 (0 : Int32) V).bind fun q48 => ((f_X7_compared q48).bind fun q52 => (if q52.1 = (0 : Int32) then some ((0 : Int32), q52.2) else some ((1 : Int32), q52.2))))
def f_X7_isOther (x1 : Int32) (x2 : Int32) (V : Mem) : Option (Int32 × Mem) := ((f_X7_countAll 4 V).bind fun q5 => ((f_X7_writeLabel 4 x1 (0 : Int32) q5).bind fun q15 => ((f_X7_holdLabel q15).bind fun q19 => ((f_X7_countAll 6 q19).bind fun q27 => (if x2 ≤ x1 then (f_X7_isOther_47_c0_c6 (x1 - (1 : Int32)) q27) else (f_X7_isOther_47_c0_c6 x1 q27))))))
def f_X7_changed_75 (k45 : Int32 → Int32 → Int32 → Mem → Option (Int32 × Mem)) (x1 : Int32) (x3 : Int32) (s0 : Int32) (s1 : Int32) (V : Mem) : Option (Int32 × Mem) := (k45 x1 (s0 + s1) (x3 + 1) V)
def f_X7_changed_45 : Nat → Int32 → Int32 → Int32 → Mem → Option (Int32 × Mem)
  | 0, _, _, _, _ => none
  | n + 1, x1, x2, x3, V => (if ib (0 : Int32) 76 then (if (V 4 ((0 : Int32)).toNatClampNeg) ≤ x3 then some (x2, V) else (if x3 = x1 then (f_X7_changed_75 (f_X7_changed_45 n) x1 x3 x2 (0 : Int32) V) else ((f_X7_isOther x3 x1 V).bind fun q64 => (if q64.1 = (0 : Int32) then (f_X7_changed_75 (f_X7_changed_45 n) x1 x3 x2 (0 : Int32) q64.2) else (f_X7_changed_75 (f_X7_changed_45 n) x1 x3 x2 (1 : Int32) q64.2))))) else none)
def f_X7_changed (x1 : Int32) (V : Mem) : Option (Int32 × Mem) := ((f_X7_isParagraph x1 (st V 0 0 (0 : Int32))).bind fun q7 => (if q7.1 = (0 : Int32) then some ((-1000001 : Int32), q7.2) else (if ib (0 : Int32) 76 then (if (q7.2 4 ((0 : Int32)).toNatClampNeg) = (1 : Int32) then some ((-1000002 : Int32), q7.2) else ((f_X7_layThen q7.2).bind fun q30 => ((f_X7_takeOut 6 x1 q30).bind fun q38 => (f_X7_changed_45 4096 x1 (0 : Int32) (0 : Int32) q38)))) else none)))
def f_X7_farOf (x0 : Int32) (x1 : Int32) (V : Mem) : Option (Int32 × Mem) := (if x1 ≤ x0 then some ((x0 - x1), V) else some ((x1 - x0), V))
def f_X7_nearest_130 (k34 : Int32 → Int32 → Int32 → Int32 → Mem → Option (Int32 × Mem)) (x1 : Int32) (x2 : Int32) (x4 : Int32) (s0 : Int32) (V : Mem) : Option (Int32 × Mem) := (k34 x1 x2 s0 (x4 + 1) V)
def f_X7_nearest_103 (k34 : Int32 → Int32 → Int32 → Int32 → Mem → Option (Int32 × Mem)) (x1 : Int32) (x2 : Int32) (x3 : Int32) (x4 : Int32) (s0 : Int32) (V : Mem) : Option (Int32 × Mem) := ((f_X7_ownOf 6 x4 V).bind fun q112 => (if q112.1 = x2 then (if s0 = (0 : Int32) then (f_X7_nearest_130 k34 x1 x2 x4 x3 q112.2) else (f_X7_nearest_130 k34 x1 x2 x4 x4 q112.2)) else (f_X7_nearest_130 k34 x1 x2 x4 x3 q112.2)))
def f_X7_nearest_34 : Nat → Int32 → Int32 → Int32 → Int32 → Mem → Option (Int32 × Mem)
  | 0, _, _, _, _, _ => none
  | n + 1, x1, x2, x3, x4, V => (if ib (0 : Int32) 76 then (if (V 4 ((0 : Int32)).toNatClampNeg) ≤ x4 then some (x3, V) else ((f_X7_isLabelled 4 x1 V).bind fun q50 => (if q50.1 = (0 : Int32) then some (x3, q50.2) else ((f_X7_layThen q50.2).bind fun q57 => ((f_X7_moveTo 6 x1 x4 q57).bind fun q67 => ((f_X7_countAll 6 q67).bind fun q75 => (if x3 = (-1000000 : Int32) then (f_X7_nearest_103 (f_X7_nearest_34 n) x1 x2 x3 x4 (1 : Int32) q75) else ((f_X7_farOf x4 x1 q75).bind fun q87 => ((f_X7_farOf x3 x1 q87.2).bind fun q92 => (if q92.1 ≤ q87.1 then (f_X7_nearest_103 (f_X7_nearest_34 n) x1 x2 x3 x4 (0 : Int32) q92.2) else (f_X7_nearest_103 (f_X7_nearest_34 n) x1 x2 x3 x4 (1 : Int32) q92.2))))))))))) else none)
def f_X7_nearest (x1 : Int32) (x2 : Int32) (V : Mem) : Option (Int32 × Mem) := ((f_X7_isParagraph x1 (st V 0 0 (0 : Int32))).bind fun q7 => (if q7.1 = (0 : Int32) then some ((-1000001 : Int32), q7.2) else ((f_X7_in (x2).toInt64 (0 : Int64) (99 : Int64) q7.2).bind fun q19 => (if q19.1 = (0 : Int32) then some ((-1000001 : Int32), q19.2) else (f_X7_nearest_34 4096 x1 x2 (-1000000 : Int32) (0 : Int32) q19.2)))))
def f_X7_sets_84 (k42 : Int32 → Int32 → Int32 → Mem → Option (Int32 × Mem)) (x1 : Int32) (x3 : Int32) (s0 : Int32) (s1 : Int32) (V : Mem) : Option (Int32 × Mem) := (k42 x1 (s0 ||| s1) (x3 + 1) V)
def f_X7_sets_42 : Nat → Int32 → Int32 → Int32 → Mem → Option (Int32 × Mem)
  | 0, _, _, _, _ => none
  | n + 1, x1, x2, x3, V => (if ib (0 : Int32) 76 then (if (V 4 ((0 : Int32)).toNatClampNeg) ≤ x3 then some (x2, V) else ((f_X7_isLabelled 4 x3 V).bind fun q58 => (if q58.1 = (0 : Int32) then (f_X7_sets_84 (f_X7_sets_42 n) x1 x3 x2 (0 : Int32) q58.2) else ((f_X7_ownOf 4 x3 q58.2).bind fun q70 => (if q70.1 = x1 then (f_X7_sets_84 (f_X7_sets_42 n) x1 x3 x2 ((1 : Int32) <<< (x3 &&& 31)) q70.2) else (f_X7_sets_84 (f_X7_sets_42 n) x1 x3 x2 (0 : Int32) q70.2)))))) else none)
def f_X7_sets (x1 : Int32) (V : Mem) : Option (Int32 × Mem) := ((f_X7_isThere (st V 0 0 (0 : Int32))).bind fun q6 => (if q6.1 = (0 : Int32) then some ((-1000002 : Int32), q6.2) else ((f_X7_in (x1).toInt64 (0 : Int64) (99 : Int64) q6.2).bind fun q21 => (if q21.1 = (0 : Int32) then some ((-1000001 : Int32), q21.2) else ((f_X7_countAll 4 q21.2).bind fun q35 => (f_X7_sets_42 4096 x1 (0 : Int32) (0 : Int32) q35))))))
def f_X7_deepest_90 (k45 : Int32 → Int32 → Int32 → Int32 → Mem → Option (Int32 × Mem)) (x1 : Int32) (x2 : Int32) (x3 : Int32) (x4 : Int32) (V : Mem) : Option (Int32 × Mem) := (k45 x1 x2 x3 (x4 + 1) V)
def f_X7_deepest_45 : Nat → Int32 → Int32 → Int32 → Int32 → Mem → Option (Int32 × Mem)
  | 0, _, _, _, _, _ => none
  | n + 1, x1, x2, x3, x4, V => (if ib (0 : Int32) 76 then (if (V 4 ((0 : Int32)).toNatClampNeg) ≤ x4 then (if x1 = (0 : Int32) then some (x2, V) else some (x3, V)) else ((f_X7_writeLabel 4 x4 (0 : Int32) V).bind fun q64 => (if (q64 0 23) ≤ (0 : Int32) then (f_X7_deepest_90 (f_X7_deepest_45 n) x1 x2 x3 x4 q64) else (if (q64 0 23) ≤ x2 then (f_X7_deepest_90 (f_X7_deepest_45 n) x1 x2 x3 x4 q64) else (f_X7_deepest_90 (f_X7_deepest_45 n) x1 (q64 0 23) x4 x4 q64))))) else none)
def f_X7_deepest (x1 : Int32) (V : Mem) : Option (Int32 × Mem) := ((f_X7_isThere (st V 0 0 (0 : Int32))).bind fun q6 => (if q6.1 = (0 : Int32) then some ((-1000002 : Int32), q6.2) else ((f_X7_in (x1).toInt64 (0 : Int64) (1 : Int64) q6.2).bind fun q19 => (if q19.1 = (0 : Int32) then some ((-1000001 : Int32), q19.2) else ((f_X7_countAll 4 q19.2).bind fun q33 => (f_X7_deepest_45 4096 x1 (-1000000 : Int32) (-1000000 : Int32) (0 : Int32) q33))))))
def f_X7_isCountedSo_66 (k13 : Int32 → Int32 → Int32 → Int32 → Mem → Option (Int32 × Mem)) (x1 : Int32) (x2 : Int32) (x4 : Int32) (s0 : Int32) (V : Mem) : Option (Int32 × Mem) := (k13 x1 x2 s0 (x4 + 1) V)
def f_X7_isCountedSo_49 (k13 : Int32 → Int32 → Int32 → Int32 → Mem → Option (Int32 × Mem)) (x1 : Int32) (x2 : Int32) (x4 : Int32) (s0 : Int32) (V : Mem) : Option (Int32 × Mem) := (if ib (x1 + x4) 320 then (if s0 = (V 3 ((x1 + x4)).toNatClampNeg) then (f_X7_isCountedSo_66 k13 x1 x2 x4 (1 : Int32) V) else (f_X7_isCountedSo_66 k13 x1 x2 x4 (0 : Int32) V)) else none)
def f_X7_isCountedSo_13 : Nat → Int32 → Int32 → Int32 → Int32 → Mem → Option (Int32 × Mem)
  | 0, _, _, _, _, _ => none
  | n + 1, x1, x2, x3, x4, V => (if x2 ≤ x4 then (if (x3 &&& 1) = x3 then some (x3, V) else none) else (if x3 = (0 : Int32) then (f_X7_isCountedSo_66 (f_X7_isCountedSo_13 n) x1 x2 x4 (0 : Int32) V) else ((f_X7_isLabelled 6 x4 V).bind fun q29 => (if q29.1 = (0 : Int32) then (f_X7_isCountedSo_49 (f_X7_isCountedSo_13 n) x1 x2 x4 (0 : Int32) q29.2) else ((f_X7_ownOf 6 x4 q29.2).bind fun q42 => (f_X7_isCountedSo_49 (f_X7_isCountedSo_13 n) x1 x2 x4 q42.1 q42.2))))))
def f_X7_isCountedSo (x1 : Int32) (x2 : Int32) (V : Mem) : Option (Int32 × Mem) := ((f_X7_countAll 6 V).bind fun q5 => (f_X7_isCountedSo_13 4096 x1 x2 (1 : Int32) (0 : Int32) q5))
def f_X7_who_157 (k106 : Int32 → Int32 → Int32 → Int32 → Int32 → Int32 → Int32 → Int32 → Mem → Option (Int32 × Mem)) (x1 : Int32) (x2 : Int32) (x3 : Int32) (x4 : Int32) (x5 : Int32) (x8 : Int32) (x9 : Int32) (s0 : Int32) (s1 : Int32) (V : Mem) : Option (Int32 × Mem) := (k106 x1 x2 x3 x4 x5 (s0 ||| s1) x8 (x9 + 1) V)
def f_X7_who_106 : Nat → Int32 → Int32 → Int32 → Int32 → Int32 → Int32 → Int32 → Int32 → Mem → Option (Int32 × Mem)
  | 0, _, _, _, _, _, _, _, _, _ => none
  | n + 1, x1, x2, x3, x4, x5, x7, x8, x9, V => (if x8 < x9 then some (x7, V) else ((f_X7_layThen V).bind fun q114 => (if ib (((4 : Int32) + ((3 : Int32) * x1)) + x2) 76 then ((f_X7_isCountedSo (((40 : Int32) * x3) + x4) x5 (st q114 6 ((((4 : Int32) + ((3 : Int32) * x1)) + x2)).toNatClampNeg x9)).bind fun q143 => (if q143.1 = (0 : Int32) then (f_X7_who_157 (f_X7_who_106 n) x1 x2 x3 x4 x5 x8 x9 x7 (0 : Int32) q143.2) else (f_X7_who_157 (f_X7_who_106 n) x1 x2 x3 x4 x5 x8 x9 x7 ((1 : Int32) <<< (x9 &&& 31)) q143.2))) else none)))
def f_X7_who_104 (x1 : Int32) (x2 : Int32) (x3 : Int32) (x4 : Int32) (x5 : Int32) (x7 : Int32) (x8 : Int32) (s0 : Int32) (V : Mem) : Option (Int32 × Mem) := (f_X7_who_106 4096 x1 x2 x3 x4 x5 x7 x8 s0 V)
def f_X7_who_93 (x1 : Int32) (x2 : Int32) (x3 : Int32) (x4 : Int32) (x5 : Int32) (x7 : Int32) (s0 : Int32) (V : Mem) : Option (Int32 × Mem) := (if x2 = (0 : Int32) then (f_X7_who_104 x1 x2 x3 x4 x5 x7 s0 (1 : Int32) V) else (f_X7_who_104 x1 x2 x3 x4 x5 x7 s0 (0 : Int32) V))
def f_X7_who (x1 : Int32) (x2 : Int32) (x3 : Int32) (x4 : Int32) (x5 : Int32) (V : Mem) : Option (Int32 × Mem) := ((f_X7_isParagraph x1 (st V 0 0 (0 : Int32))).bind fun q7 => (if q7.1 = (0 : Int32) then some ((-1000001 : Int32), q7.2) else ((f_X7_in (x2).toInt64 (0 : Int64) (2 : Int64) q7.2).bind fun q19 => (if q19.1 = (0 : Int32) then some ((-1000001 : Int32), q19.2) else ((f_X7_isRow x3 q19.2).bind fun q26 => (if q26.1 = (0 : Int32) then some ((-1000001 : Int32), q26.2) else (if ib (0 : Int32) 76 then ((f_X7_in (x5).toInt64 (1 : Int64) ((q26.2 4 ((0 : Int32)).toNatClampNeg)).toInt64 q26.2).bind fun q43 => (if q43.1 = (0 : Int32) then some ((-1000001 : Int32), q43.2) else ((f_X7_rowFound x3 x4 x5 q43.2).bind fun q58 => (if q58.1 = (0 : Int32) then (if x2 = (0 : Int32) then (f_X7_who_93 x1 x2 x3 x4 x5 (0 : Int32) (5 : Int32) q58.2) else (if x2 = (1 : Int32) then (f_X7_who_93 x1 x2 x3 x4 x5 (0 : Int32) (2 : Int32) q58.2) else (f_X7_who_93 x1 x2 x3 x4 x5 (0 : Int32) (20 : Int32) q58.2))) else some (q58.1, q58.2))))) else none)))))))
def f_X7_restarts_35 (k4 : Int32 → Int32 → Mem → Option (Int32 × Mem)) (x2 : Int32) (s0 : Int32) (s1 : Int32) (V : Mem) : Option (Int32 × Mem) := (k4 (s0 ||| s1) (x2 + 1) V)
def f_X7_restarts_4 : Nat → Int32 → Int32 → Mem → Option (Int32 × Mem)
  | 0, _, _, _ => none
  | n + 1, x1, x2, V => (if ib (0 : Int32) 76 then (if (V 4 ((0 : Int32)).toNatClampNeg) ≤ x2 then some (x1, V) else ((f_X7_of 4 x2 (0 : Int32) V).bind fun q21 => (if q21.1 = (2 : Int32) then (f_X7_restarts_35 (f_X7_restarts_4 n) x2 x1 ((1 : Int32) <<< (x2 &&& 31)) q21.2) else (f_X7_restarts_35 (f_X7_restarts_4 n) x2 x1 (0 : Int32) q21.2)))) else none)
def f_X7_restarts (V : Mem) : Option (Int32 × Mem) := (f_X7_restarts_4 4096 (0 : Int32) (0 : Int32) V)
def f_X7_bits_4 : Nat → Int32 → Int32 → Int32 → Mem → Option (Int32 × Mem)
  | 0, _, _, _, _ => none
  | n + 1, x0, x1, x2, V => (if (24 : Int32) ≤ x2 then some (x1, V) else (f_X7_bits_4 n x0 (x1 + ((x0 >>> (x2 &&& 31)) &&& (1 : Int32))) (x2 + 1) V))
def f_X7_bits (x0 : Int32) (V : Mem) : Option (Int32 × Mem) := (f_X7_bits_4 4096 x0 (0 : Int32) (0 : Int32) V)
def f_X7_lost_48 (V : Mem) : Option (Int64 × Mem) := some ((-1000001 : Int64), V)
def f_X7_lost_279 (x10 : Int64) (s0 : Int64) (V : Mem) : Option (Int64 × Mem) := (if x10 = (0 : Int64) then none else some ((s0 / x10), V))
def f_X7_lost_242 : Nat → Int32 → Int64 → Int64 → Int64 → Int64 → Mem → Option (Int64 × Mem)
  | 0, _, _, _, _, _, _ => none
  | n + 1, x4, x6, x8, x10, x12, V => (if (lg_cmp x12 (0 : Int64)) = (0 : Int32) then (if x4 = (0 : Int32) then (f_X7_lost_279 x10 x6 V) else (f_X7_lost_279 x10 x8 V)) else (if x12 = (0 : Int64) then none else (f_X7_lost_242 n x4 x6 x8 x12 (x10 - (x10 / x12) * x12) V)))
def f_X7_lost_225 (k80 : Int32 → Int32 → Int32 → Int32 → Int32 → Int64 → Int64 → Int32 → Mem → Option (Int64 × Mem)) (x1 : Int32) (x2 : Int32) (x3 : Int32) (x4 : Int32) (x5 : Int32) (x8 : Int64) (x10 : Int32) (s0 : Int64) (s1 : Int64) (V : Mem) : Option (Int64 × Mem) := (k80 x1 x2 x3 x4 x5 (s0 + s1) x8 (x10 + 1) V)
def f_X7_lost_183 (k106 : Int32 → Int32 → Int32 → Int32 → Int32 → Int64 → Int64 → Int32 → Int64 → Int32 → Int32 → Mem → Option (Int64 × Mem)) (x1 : Int32) (x2 : Int32) (x3 : Int32) (x4 : Int32) (x5 : Int32) (x6 : Int64) (x8 : Int64) (x10 : Int32) (x11 : Int64) (x13 : Int32) (x14 : Int32) (V : Mem) : Option (Int64 × Mem) := (k106 x1 x2 x3 x4 x5 x6 x8 x10 x11 x13 (x14 + 1) V)
def f_X7_lost_176_c6 (k106 : Int32 → Int32 → Int32 → Int32 → Int32 → Int64 → Int64 → Int32 → Int64 → Int32 → Int32 → Mem → Option (Int64 × Mem)) (x1 : Int32) (x2 : Int32) (x3 : Int32) (x4 : Int32) (x5 : Int32) (x6 : Int64) (x8 : Int64) (x10 : Int32) (x11 : Int64) (x13 : Int32) (x14 : Int32) (s1 : Int32) (s2 : Int32) (V : Mem) : Option (Int64 × Mem) := (if ib s1 76 then (f_X7_lost_183 k106 x1 x2 x3 x4 x5 x6 x8 x10 x11 (x13 >>> ((1 : Int32) &&& 31)) x14 (st V 6 (s1).toNatClampNeg s2)) else none)
def f_X7_lost_148 (k106 : Int32 → Int32 → Int32 → Int32 → Int32 → Int64 → Int64 → Int32 → Int64 → Int32 → Int32 → Mem → Option (Int64 × Mem)) (x1 : Int32) (x2 : Int32) (x3 : Int32) (x4 : Int32) (x5 : Int32) (x6 : Int64) (x8 : Int64) (x10 : Int32) (x13 : Int32) (x14 : Int32) (s0 : Int64) (s1 : Int64) (V : Mem) : Option (Int64 × Mem) := (if (x13 &&& (1 : Int32)) = (1 : Int32) then (f_X7_lost_176_c6 k106 x1 x2 x3 x4 x5 x6 x8 x10 (s0 * s1) x13 x14 (((4 : Int32) + ((3 : Int32) * x14)) + (0 : Int32)) (1 : Int32) V) else (f_X7_lost_176_c6 k106 x1 x2 x3 x4 x5 x6 x8 x10 (s0 * s1) x13 x14 (((4 : Int32) + ((3 : Int32) * x14)) + (0 : Int32)) (2 : Int32) V))
def f_X7_lost_106 (k80 : Int32 → Int32 → Int32 → Int32 → Int32 → Int64 → Int64 → Int32 → Mem → Option (Int64 × Mem)) : Nat → Int32 → Int32 → Int32 → Int32 → Int32 → Int64 → Int64 → Int32 → Int64 → Int32 → Int32 → Mem → Option (Int64 × Mem)
  | 0, _, _, _, _, _, _, _, _, _, _, _, _ => none
  | n + 1, x1, x2, x3, x4, x5, x6, x8, x10, x11, x13, x14, V => (if ib (0 : Int32) 76 then (if (V 4 ((0 : Int32)).toNatClampNeg) ≤ x14 then ((f_X7_countAll 6 V).bind fun q194 => ((f_X7_ownOf 6 x1 q194).bind fun q212 => (if q212.1 = x2 then (f_X7_lost_225 k80 x1 x2 x3 x4 x5 (x8 + x11) x10 x6 x11 q212.2) else (f_X7_lost_225 k80 x1 x2 x3 x4 x5 (x8 + x11) x10 x6 (0 : Int64) q212.2)))) else ((f_X7_has x5 x14 V).bind fun q121 => (if q121.1 = (0 : Int32) then (f_X7_lost_183 (f_X7_lost_106 k80 n) x1 x2 x3 x4 x5 x6 x8 x10 x11 x13 x14 q121.2) else (if (x13 &&& (1 : Int32)) = (1 : Int32) then (f_X7_lost_148 (f_X7_lost_106 k80 n) x1 x2 x3 x4 x5 x6 x8 x10 x13 x14 x11 (x3).toInt64 q121.2) else (f_X7_lost_148 (f_X7_lost_106 k80 n) x1 x2 x3 x4 x5 x6 x8 x10 x13 x14 x11 ((10 : Int64) - (x3).toInt64) q121.2))))) else none)
def f_X7_lost_80 : Nat → Int32 → Int32 → Int32 → Int32 → Int32 → Int64 → Int64 → Int32 → Mem → Option (Int64 × Mem)
  | 0, _, _, _, _, _, _, _, _, _ => none
  | n + 1, x1, x2, x3, x4, x5, x6, x8, x10, V => ((f_X7_bits x5 V).bind fun q85 => (if ((1 : Int32) <<< (q85.1 &&& 31)) ≤ x10 then (f_X7_lost_242 4096 x4 x6 x8 x6 x8 q85.2) else ((f_X7_layThen q85.2).bind fun q100 => (f_X7_lost_106 (f_X7_lost_80 n) 4096 x1 x2 x3 x4 x5 x6 x8 x10 (1 : Int64) x10 (0 : Int32) q100))))
def f_X7_lost (x1 : Int32) (x2 : Int32) (x3 : Int32) (x4 : Int32) (V : Mem) : Option (Int64 × Mem) := ((f_X7_isParagraph x1 (st V 0 0 (0 : Int32))).bind fun q7 => (if q7.1 = (0 : Int32) then (f_X7_lost_48  q7.2) else ((f_X7_in (x2).toInt64 (0 : Int64) (99 : Int64) q7.2).bind fun q19 => (if q19.1 = (0 : Int32) then (f_X7_lost_48  q19.2) else ((f_X7_in (x3).toInt64 (0 : Int64) (10 : Int64) q19.2).bind fun q31 => (if q31.1 = (0 : Int32) then (f_X7_lost_48  q31.2) else ((f_X7_in (x4).toInt64 (0 : Int64) (1 : Int64) q31.2).bind fun q42 => (if q42.1 = (0 : Int32) then (f_X7_lost_48  q42.2) else ((f_X7_restarts q42.2).bind fun q53 => ((f_X7_bits q53.1 q53.2).bind fun q60 => (if q60.1 ≤ (5 : Int32) then (f_X7_lost_80 4096 x1 x2 x3 x4 q53.1 (0 : Int64) (0 : Int64) (0 : Int32) q60.2) else some ((-1000003 : Int64), q60.2))))))))))))
def f_X7_drawn_186 (k63 : Int32 → Int32 → Int64 → Int32 → Mem → Option (Int32 × Mem)) (x1 : Int32) (x3 : Int32) (x4 : Int64) (x6 : Int32) (V : Mem) : Option (Int32 × Mem) := (k63 x1 x3 x4 (x6 + 1) V)
def f_X7_drawn_167 (k63 : Int32 → Int32 → Int64 → Int32 → Mem → Option (Int32 × Mem)) (x1 : Int32) (x3 : Int32) (x4 : Int64) (x6 : Int32) (x7 : Int32) (V : Mem) : Option (Int32 × Mem) := (if ib (0 : Int32) 76 then (if (V 6 ((0 : Int32)).toNatClampNeg) ≤ (1 : Int32) then (f_X7_drawn_186 k63 x1 x3 x4 x6 V) else ((f_X7_takeOut 6 x7 V).bind fun q183 => (f_X7_drawn_186 k63 x1 x3 x4 x6 q183))) else none)
def f_X7_drawn_63 : Nat → Int32 → Int32 → Int64 → Int32 → Mem → Option (Int32 × Mem)
  | 0, _, _, _, _, _ => none
  | n + 1, x1, x3, x4, x6, V => (if x1 ≤ x6 then ((f_X7_countAll 6 V).bind fun q197 => (if x3 = (0 : Int32) then (if ib (0 : Int32) 76 then some ((q197 6 ((0 : Int32)).toNatClampNeg), q197) else none) else ((f_X7_lastTogether 6 q197).bind fun q218 => some (q218.1, q218.2)))) else (if ib (0 : Int32) 76 then (if ((V 6 ((0 : Int32)).toNatClampNeg)).toInt64 = (0 : Int64) then none else (if (lg_cmp (((x4 * (16807 : Int64)) - ((x4 * (16807 : Int64)) / (2147483647 : Int64)) * (2147483647 : Int64)) - (((x4 * (16807 : Int64)) - ((x4 * (16807 : Int64)) / (2147483647 : Int64)) * (2147483647 : Int64)) / (2 : Int64)) * (2 : Int64)) (0 : Int64)) = (0 : Int32) then (if ib (0 : Int32) 76 then (if (24 : Int32) ≤ (V 6 ((0 : Int32)).toNatClampNeg) then (f_X7_drawn_167 (f_X7_drawn_63 n) x1 x3 ((x4 * (16807 : Int64)) - ((x4 * (16807 : Int64)) / (2147483647 : Int64)) * (2147483647 : Int64)) x6 (((((x4 * (16807 : Int64)) - ((x4 * (16807 : Int64)) / (2147483647 : Int64)) * (2147483647 : Int64)) / (8 : Int64)) - ((((x4 * (16807 : Int64)) - ((x4 * (16807 : Int64)) / (2147483647 : Int64)) * (2147483647 : Int64)) / (8 : Int64)) / ((V 6 ((0 : Int32)).toNatClampNeg)).toInt64) * ((V 6 ((0 : Int32)).toNatClampNeg)).toInt64)).toInt32 V) else ((f_X7_putAt 6 (((((x4 * (16807 : Int64)) - ((x4 * (16807 : Int64)) / (2147483647 : Int64)) * (2147483647 : Int64)) / (8 : Int64)) - ((((x4 * (16807 : Int64)) - ((x4 * (16807 : Int64)) / (2147483647 : Int64)) * (2147483647 : Int64)) / (8 : Int64)) / ((V 6 ((0 : Int32)).toNatClampNeg)).toInt64) * ((V 6 ((0 : Int32)).toNatClampNeg)).toInt64)).toInt32 ((1 : Int32) + (((((x4 * (16807 : Int64)) - ((x4 * (16807 : Int64)) / (2147483647 : Int64)) * (2147483647 : Int64)) / (64 : Int64)) - ((((x4 * (16807 : Int64)) - ((x4 * (16807 : Int64)) / (2147483647 : Int64)) * (2147483647 : Int64)) / (64 : Int64)) / (5 : Int64)) * (5 : Int64))).toInt32) (((((x4 * (16807 : Int64)) - ((x4 * (16807 : Int64)) / (2147483647 : Int64)) * (2147483647 : Int64)) / (512 : Int64)) - ((((x4 * (16807 : Int64)) - ((x4 * (16807 : Int64)) / (2147483647 : Int64)) * (2147483647 : Int64)) / (512 : Int64)) / (3 : Int64)) * (3 : Int64))).toInt32 (((((x4 * (16807 : Int64)) - ((x4 * (16807 : Int64)) / (2147483647 : Int64)) * (2147483647 : Int64)) / (4096 : Int64)) - ((((x4 * (16807 : Int64)) - ((x4 * (16807 : Int64)) / (2147483647 : Int64)) * (2147483647 : Int64)) / (4096 : Int64)) / (21 : Int64)) * (21 : Int64))).toInt32 V).bind fun q161 => (f_X7_drawn_186 (f_X7_drawn_63 n) x1 x3 ((x4 * (16807 : Int64)) - ((x4 * (16807 : Int64)) / (2147483647 : Int64)) * (2147483647 : Int64)) x6 q161))) else none) else (f_X7_drawn_167 (f_X7_drawn_63 n) x1 x3 ((x4 * (16807 : Int64)) - ((x4 * (16807 : Int64)) / (2147483647 : Int64)) * (2147483647 : Int64)) x6 (((((x4 * (16807 : Int64)) - ((x4 * (16807 : Int64)) / (2147483647 : Int64)) * (2147483647 : Int64)) / (8 : Int64)) - ((((x4 * (16807 : Int64)) - ((x4 * (16807 : Int64)) / (2147483647 : Int64)) * (2147483647 : Int64)) / (8 : Int64)) / ((V 6 ((0 : Int32)).toNatClampNeg)).toInt64) * ((V 6 ((0 : Int32)).toNatClampNeg)).toInt64)).toInt32 V))) else none))
def f_X7_drawn (x1 : Int32) (x2 : Int32) (x3 : Int32) (V : Mem) : Option (Int32 × Mem) := ((f_X7_isThere (st V 0 0 (0 : Int32))).bind fun q6 => (if q6.1 = (0 : Int32) then some ((-1000002 : Int32), q6.2) else ((f_X7_in (x1).toInt64 (0 : Int64) (60 : Int64) q6.2).bind fun q21 => (if q21.1 = (0 : Int32) then some ((-1000001 : Int32), q21.2) else ((f_X7_in (x2).toInt64 (1 : Int64) (999999 : Int64) q21.2).bind fun q33 => (if q33.1 = (0 : Int32) then some ((-1000001 : Int32), q33.2) else ((f_X7_in (x3).toInt64 (0 : Int64) (1 : Int64) q33.2).bind fun q43 => (if q43.1 = (0 : Int32) then some ((-1000001 : Int32), q43.2) else ((f_X7_layThen q43.2).bind fun q53 => (f_X7_drawn_63 4096 x1 x3 (x2).toInt64 (0 : Int32) q53))))))))))
def f_X7_image_30 : Nat → Int32 → Int32 → Mem → Option (Int32 × Mem)
  | 0, _, _, _ => none
  | n + 1, x1, x2, V => (if (76 : Int32) ≤ x2 then (if ib x1 2 then some ((1 : Int32), (st V 14 (x1).toNatClampNeg (vp_nar .boolean (1 : Int32)))) else none) else (if ib x2 76 then (if ib (((76 : Int32) * x1) + x2) 152 then (f_X7_image_30 n x1 (x2 + 1) (st V 15 ((((76 : Int32) * x1) + x2)).toNatClampNeg (V 4 (x2).toNatClampNeg))) else none) else none))
def f_X7_image (x1 : Int32) (V : Mem) : Option (Int32 × Mem) := ((f_X7_in (x1).toInt64 (0 : Int64) (1 : Int64) (st V 0 0 (0 : Int32))).bind fun q9 => (if q9.1 = (0 : Int32) then some ((-1000001 : Int32), q9.2) else ((f_X7_isThere q9.2).bind fun q19 => (if q19.1 = (0 : Int32) then some ((-1000002 : Int32), q19.2) else (f_X7_image_30 4096 x1 (0 : Int32) q19.2)))))
def f_X7_restore_32 : Nat → Int32 → Int32 → Mem → Option (Int32 × Mem)
  | 0, _, _, _ => none
  | n + 1, x1, x2, V => (if (76 : Int32) ≤ x2 then some ((1 : Int32), (st V 0 9 (0 : Int32))) else (if ib (((76 : Int32) * x1) + x2) 152 then (if ib x2 76 then (f_X7_restore_32 n x1 (x2 + 1) (st V 4 (x2).toNatClampNeg (V 15 ((((76 : Int32) * x1) + x2)).toNatClampNeg))) else none) else none))
def f_X7_restore (x1 : Int32) (V : Mem) : Option (Int32 × Mem) := ((f_X7_in (x1).toInt64 (0 : Int64) (1 : Int64) (st V 0 0 (0 : Int32))).bind fun q9 => (if q9.1 = (0 : Int32) then some ((-1000001 : Int32), q9.2) else (if ib x1 2 then (if (q9.2 14 (x1).toNatClampNeg) = (0 : Int32) then some ((-1000002 : Int32), q9.2) else (f_X7_restore_32 4096 x1 (0 : Int32) q9.2)) else none)))
def f_X7_isOf_19 (x0 : Int32) (x1 : Int32) (V : Mem) : Option (Int32 × Mem) := (if x1 = (4 : Int32) then (if x0 = (5 : Int32) then some ((1 : Int32), V) else some ((0 : Int32), V)) else some ((0 : Int32), V))
def f_X7_isOf (x0 : Int32) (x1 : Int32) (V : Mem) : Option (Int32 × Mem) := (if x1 = (0 : Int32) then some ((1 : Int32), V) else (if x0 = x1 then some ((1 : Int32), V) else (if x1 = (1 : Int32) then (if x0 < (4 : Int32) then some ((1 : Int32), V) else (f_X7_isOf_19 x0 x1 V)) else (f_X7_isOf_19 x0 x1 V))))
def f_X7_kind (x1 : Int32) (V : Mem) : Option (Int32 × Mem) := ((f_X7_isParagraph x1 (st V 0 0 (0 : Int32))).bind fun q7 => (if q7.1 = (0 : Int32) then some ((-1000001 : Int32), q7.2) else ((f_X7_of 4 x1 (0 : Int32) q7.2).bind fun q19 => some (q19.1, q19.2))))
def f_X7_as (x1 : Int32) (x2 : Int32) (V : Mem) : Option (Int32 × Mem) := ((f_X7_isParagraph x1 (st V 0 0 (0 : Int32))).bind fun q7 => (if q7.1 = (0 : Int32) then some ((-1000001 : Int32), q7.2) else ((f_X7_in (x2).toInt64 (0 : Int64) (5 : Int64) q7.2).bind fun q19 => (if q19.1 = (0 : Int32) then some ((-1000001 : Int32), q19.2) else ((f_X7_of 4 x1 (0 : Int32) (st q19.2 0 1 (0 : Int32))).bind fun q39 => ((f_X7_isOf q39.1 x2 q39.2).bind fun q43 => (if q43.1 = (0 : Int32) then ((f_X7_finding (3 : Int32) q43.2).bind fun q55 => some (q55.1, q55.2)) else some (x1, q43.2))))))))
def f_X7_began (x1 : Int32) (V : Mem) : Option (Mem) := (if (16 : Int32) ≤ (V 0 29) then some V else (if ib (V 0 29) 16 then some (st (st V 16 ((V 0 29)).toNatClampNeg x1) 0 29 (((st V 16 ((V 0 29)).toNatClampNeg x1) 0 29) + (1 : Int32))) else none))
def f_X7_plainSize (x1 : Int32) (V : Mem) : Option (Int32 × Mem) := ((f_X7_began (10 : Int32) V).bind fun q3 => ((f_X7_of 4 x1 (2 : Int32) q3).bind fun q12 => some (q12.1, q12.2)))
def f_X7_textSize_29 (x1 : Int32) (x2 : Int32) (V : Mem) : Option (Int32 × Mem) := ((f_X7_began (13 : Int32) V).bind fun q32 => ((f_X7_plainSize x1 q32).bind fun q37 => (if x2 = (0 : Int32) then some ((q37.1 - (100 : Int32)), q37.2) else some (((2 : Int32) * (q37.1 - (100 : Int32))), q37.2))))
def f_X7_textSize_18 (x1 : Int32) (s0 : Int32) (V : Mem) : Option (Int32 × Mem) := (if s0 = (0 : Int32) then (f_X7_textSize_29 x1 s0 V) else ((f_X7_began (14 : Int32) V).bind fun q26 => (f_X7_textSize_29 x1 s0 q26)))
def f_X7_textSize (x1 : Int32) (V : Mem) : Option (Int32 × Mem) := ((f_X7_of 4 x1 (0 : Int32) V).bind fun q6 => (if q6.1 = (5 : Int32) then (f_X7_textSize_18 x1 (1 : Int32) q6.2) else (f_X7_textSize_18 x1 (0 : Int32) q6.2)))
def f_X7_markOf_56 (x1 : Int32) (x2 : Int32) (V : Mem) : Option (Int32 × Mem) := ((f_X7_began (21 : Int32) V).bind fun q59 => ((f_X7_began (20 : Int32) q59).bind fun q65 => ((f_X7_ownOf 4 x1 q65).bind fun q75 => (if x2 = (1 : Int32) then some ((x1 + q75.1), q75.2) else (if x2 = (3 : Int32) then some (((x1 + q75.1) - (1000 : Int32)), q75.2) else some (((2 : Int32) * (x1 + q75.1)), q75.2))))))
def f_X7_markOf_53_c0 (x1 : Int32) (x2 : Int32) (s1 : Int32) (V : Mem) : Option (Int32 × Mem) := ((f_X7_began s1 V).bind fun q53 => (f_X7_markOf_56 x1 x2 q53))
def f_X7_markOf (x1 : Int32) (V : Mem) : Option (Int32 × Mem) := ((f_X7_of 4 x1 (0 : Int32) V).bind fun q6 => (if q6.1 < (4 : Int32) then (if q6.1 = (1 : Int32) then (f_X7_markOf_56 x1 q6.1 q6.2) else (if q6.1 = (3 : Int32) then (f_X7_markOf_53_c0 x1 q6.1 (22 : Int32) q6.2) else (f_X7_markOf_53_c0 x1 q6.1 (24 : Int32) q6.2))) else ((f_X7_began (23 : Int32) q6.2).bind fun q18 => ((f_X7_began (20 : Int32) q18).bind fun q24 => ((f_X7_textSize x1 q24).bind fun q30 => some ((x1 - q30.1), q30.2))))))
def f_X7_sizeOf_32 (x1 : Int32) (x2 : Int32) (V : Mem) : Option (Int32 × Mem) := ((f_X7_began (11 : Int32) V).bind fun q35 => ((f_X7_plainSize x1 q35).bind fun q40 => ((f_X7_markOf x1 q40.2).bind fun q47 => (if x2 = (2 : Int32) then some ((-(q40.1 + q47.1)), q47.2) else some ((q40.1 + q47.1), q47.2)))))
def f_X7_sizeOf (x1 : Int32) (V : Mem) : Option (Int32 × Mem) := ((f_X7_of 4 x1 (0 : Int32) V).bind fun q6 => (if q6.1 < (4 : Int32) then (if q6.1 = (2 : Int32) then ((f_X7_began (12 : Int32) q6.2).bind fun q29 => (f_X7_sizeOf_32 x1 q6.1 q29)) else (f_X7_sizeOf_32 x1 q6.1 q6.2)) else ((f_X7_textSize x1 q6.2).bind fun q17 => some (q17.1, q17.2))))
def f_X7_ask (x1 : Int32) (x2 : Int32) (V : Mem) : Option (Int32 × Mem) := ((f_X7_isParagraph x1 (st V 0 0 (0 : Int32))).bind fun q7 => (if q7.1 = (0 : Int32) then some ((-1000001 : Int32), q7.2) else ((f_X7_in (x2).toInt64 (0 : Int64) (1 : Int64) q7.2).bind fun q17 => (if q17.1 = (0 : Int32) then some ((-1000001 : Int32), q17.2) else ((f_X7_countAll 4 (st q17.2 0 29 (0 : Int32))).bind fun q36 => (if x2 = (0 : Int32) then ((f_X7_sizeOf x1 q36).bind fun q45 => some (q45.1, q45.2)) else ((f_X7_markOf x1 q36).bind fun q53 => some (q53.1, q53.2))))))))
def f_X7_trace (x1 : Int32) (V : Mem) : Option (Int32 × Mem) := ((f_X7_in (x1).toInt64 (0 : Int64) ((((st V 0 0 (0 : Int32)) 0 29) - (1 : Int32))).toInt64 (st V 0 0 (0 : Int32))).bind fun q15 => (if q15.1 = (0 : Int32) then some ((-1000000 : Int32), q15.2) else (if ib x1 16 then some ((q15.2 16 (x1).toNatClampNeg), q15.2) else none)))
def f_X7_count_71 (k50 : Int32 → Int32 → Mem → Option (Int32 × Mem)) (x3 : Int32) (s0 : Int32) (s1 : Int32) (V : Mem) : Option (Int32 × Mem) := (k50 (s0 + s1) (x3 + 1) V)
def f_X7_count_50 : Nat → Int32 → Int32 → Mem → Option (Int32 × Mem)
  | 0, _, _, _ => none
  | n + 1, x2, x3, V => (if (8 : Int32) ≤ x3 then some (x2, V) else (if ib x3 8 then (if (V 1 (x3).toNatClampNeg) < (0 : Int32) then (f_X7_count_71 (f_X7_count_50 n) x3 x2 (0 : Int32) V) else (f_X7_count_71 (f_X7_count_50 n) x3 x2 (1 : Int32) V)) else none))
def f_X7_count_117 (k90 : Int32 → Int32 → Mem → Option (Int32 × Mem)) (x3 : Int32) (s0 : Int32) (s1 : Int32) (V : Mem) : Option (Int32 × Mem) := (k90 (s0 + s1) (x3 + 1) V)
def f_X7_count_90 : Nat → Int32 → Int32 → Mem → Option (Int32 × Mem)
  | 0, _, _, _ => none
  | n + 1, x2, x3, V => (if ib (0 : Int32) 76 then (if (V 4 ((0 : Int32)).toNatClampNeg) ≤ x3 then some (x2, V) else ((f_X7_isLabelled 4 x3 V).bind fun q106 => (if q106.1 = (0 : Int32) then (f_X7_count_117 (f_X7_count_90 n) x3 x2 (0 : Int32) q106.2) else (f_X7_count_117 (f_X7_count_90 n) x3 x2 (1 : Int32) q106.2)))) else none)
def f_X7_count (x1 : Int32) (V : Mem) : Option (Int32 × Mem) := (if x1 = (0 : Int32) then (f_X7_count_50 4096 (0 : Int32) (0 : Int32) (st V 0 0 (0 : Int32))) else (if x1 = (1 : Int32) then (if ib (0 : Int32) 76 then some (((st V 0 0 (0 : Int32)) 4 ((0 : Int32)).toNatClampNeg), (st V 0 0 (0 : Int32))) else none) else (if x1 = (2 : Int32) then (f_X7_count_90 4096 (0 : Int32) (0 : Int32) (st V 0 0 (0 : Int32))) else (if x1 = (3 : Int32) then ((f_X7_countAll 4 (st V 0 0 (0 : Int32))).bind fun q132 => ((f_X7_lastTogether 4 q132).bind fun q140 => some (q140.1, q140.2))) else (if x1 = (4 : Int32) then some (((st V 0 0 (0 : Int32)) 0 9), (st V 0 0 (0 : Int32))) else (if x1 = (5 : Int32) then some (((st V 0 0 (0 : Int32)) 0 11), (st V 0 0 (0 : Int32))) else some ((-1000001 : Int32), (st V 0 0 (0 : Int32)))))))))
def f_X7_status (V : Mem) : Option (Int32 × Mem) := some (((st V 0 0 (0 : Int32)) 0 1), (st V 0 0 (0 : Int32)))
def f_X6_answerTo_L0_63_t3 (x2 : Int32) (x3 : Int32) (x5 : Int32) (V : Mem) : Option (Int32 × Mem) := (if ib x5 6 then ((f_X6_answerOf_L0 (tba 3 (x5).toNatClampNeg) x2 (x3 + (1 : Int32)) V).bind fun q73 => some (q73.1, q73.2)) else none)
def f_X6_answerTo_L0_29_t3 : Nat → Int32 → Int32 → Int32 → Int32 → Mem → Option (Int32 × Mem)
  | 0, _, _, _, _, _ => none
  | n + 1, x2, x3, x5, x6, V => (if (6 : Int32) ≤ x6 then (f_X6_answerTo_L0_63_t3 x2 x3 x5 V) else (if x5 = (0 : Int32) then (f_X6_answerTo_L0_63_t3 x2 x3 x5 V) else (if ib x5 6 then (if (tba 3 (x5).toNatClampNeg) = (0 : Int32) then (if ib x5 6 then (f_X6_answerTo_L0_29_t3 n x2 x3 (tba 0 (x5).toNatClampNeg) (x6 + 1) V) else none) else (f_X6_answerTo_L0_63_t3 x2 x3 x5 V)) else none)))
def f_X6_answerTo_L0_13_u3 (x2 : Int32) (x3 : Int32) (V : Mem) : Option (Int32 × Mem) := (if ib x2 24 then (f_X6_answerTo_L0_29_t3 4096 x2 x3 (V 6 (x2).toNatClampNeg) (0 : Int32) V) else none)
def f_X6_answerTo_L0_63_t2 (x2 : Int32) (x3 : Int32) (x5 : Int32) (V : Mem) : Option (Int32 × Mem) := (if ib x5 6 then ((f_X6_answerOf_L0 (tba 2 (x5).toNatClampNeg) x2 (x3 + (1 : Int32)) V).bind fun q73 => some (q73.1, q73.2)) else none)
def f_X6_answerTo_L0_29_t2 : Nat → Int32 → Int32 → Int32 → Int32 → Mem → Option (Int32 × Mem)
  | 0, _, _, _, _, _ => none
  | n + 1, x2, x3, x5, x6, V => (if (6 : Int32) ≤ x6 then (f_X6_answerTo_L0_63_t2 x2 x3 x5 V) else (if x5 = (0 : Int32) then (f_X6_answerTo_L0_63_t2 x2 x3 x5 V) else (if ib x5 6 then (if (tba 2 (x5).toNatClampNeg) = (0 : Int32) then (if ib x5 6 then (f_X6_answerTo_L0_29_t2 n x2 x3 (tba 0 (x5).toNatClampNeg) (x6 + 1) V) else none) else (f_X6_answerTo_L0_63_t2 x2 x3 x5 V)) else none)))
def f_X6_answerTo_L0_13_u2 (x2 : Int32) (x3 : Int32) (V : Mem) : Option (Int32 × Mem) := (if ib x2 24 then (f_X6_answerTo_L0_29_t2 4096 x2 x3 (V 6 (x2).toNatClampNeg) (0 : Int32) V) else none)
def f_X6_answerTo_L0 (x1 : Int32) (x2 : Int32) (x3 : Int32) (V : Mem) : Option (Int32 × Mem) := (if x1 = (0 : Int32) then (f_X6_answerTo_L0_13_u2 x2 x3 V) else (f_X6_answerTo_L0_13_u3 x2 x3 V))
def f_X6_answerOf_L1 (x1 : Int32) (x2 : Int32) (x3 : Int32) (V : Mem) : Option (Int32 × Mem) := (if x3 ≤ (20 : Int32) then ((f_X6_leaveTrace x1 V).bind fun q10 => (if x1 = (10 : Int32) then (if ib x2 24 then some ((q10 8 (x2).toNatClampNeg), q10) else none) else (if x1 = (11 : Int32) then ((f_X6_answerOf_L0 (10 : Int32) x2 (x3 + (1 : Int32)) q10).bind fun q108 => ((f_X6_answerTo_L0 (1 : Int32) x2 (x3 + (1 : Int32)) q108.2).bind fun q116 => some ((q108.1 + q116.1), q116.2))) else (if x1 = (12 : Int32) then ((f_X6_answerOf_L0 (11 : Int32) x2 (x3 + (1 : Int32)) q10).bind fun q127 => some ((-q127.1), q127.2)) else (if x1 = (13 : Int32) then ((f_X6_answerOf_L0 (10 : Int32) x2 (x3 + (1 : Int32)) q10).bind fun q138 => some ((q138.1 - (100 : Int32)), q138.2)) else (if x1 = (14 : Int32) then ((f_X6_answerOf_L0 (13 : Int32) x2 (x3 + (1 : Int32)) q10).bind fun q152 => some (((2 : Int32) * q152.1), q152.2)) else (if x1 = (15 : Int32) then some ((0 : Int32), q10) else (if x1 = (16 : Int32) then some ((0 : Int32), q10) else (if x1 = (17 : Int32) then some ((0 : Int32), q10) else (if x1 = (18 : Int32) then some ((0 : Int32), q10) else (if x1 = (19 : Int32) then some ((0 : Int32), q10) else (if x1 = (20 : Int32) then some (x2, q10) else (if x1 = (21 : Int32) then ((f_X6_answerOf_L0 (20 : Int32) x2 (x3 + (1 : Int32)) q10).bind fun q165 => ((f_X3_ownCount 4 x2 q165.2).bind fun q173 => some ((q165.1 + q173.1), q173.2))) else (if x1 = (22 : Int32) then ((f_X6_answerOf_L0 (21 : Int32) x2 (x3 + (1 : Int32)) q10).bind fun q184 => some ((q184.1 - (1000 : Int32)), q184.2)) else (if x1 = (23 : Int32) then ((f_X6_answerOf_L0 (20 : Int32) x2 (x3 + (1 : Int32)) q10).bind fun q198 => ((f_X6_answerTo_L0 (0 : Int32) x2 (x3 + (1 : Int32)) q198.2).bind fun q206 => some ((q198.1 - q206.1), q206.2))) else (if x1 = (24 : Int32) then ((f_X6_answerOf_L0 (21 : Int32) x2 (x3 + (1 : Int32)) q10).bind fun q218 => some (((2 : Int32) * q218.1), q218.2)) else some ((0 : Int32), q10))))))))))))))))) else some ((0 : Int32), V))
def f_X6_answerTo_L1_63_t3 (x2 : Int32) (x3 : Int32) (x5 : Int32) (V : Mem) : Option (Int32 × Mem) := (if ib x5 6 then ((f_X6_answerOf_L1 (tba 3 (x5).toNatClampNeg) x2 (x3 + (1 : Int32)) V).bind fun q73 => some (q73.1, q73.2)) else none)
def f_X6_answerTo_L1_29_t3 : Nat → Int32 → Int32 → Int32 → Int32 → Mem → Option (Int32 × Mem)
  | 0, _, _, _, _, _ => none
  | n + 1, x2, x3, x5, x6, V => (if (6 : Int32) ≤ x6 then (f_X6_answerTo_L1_63_t3 x2 x3 x5 V) else (if x5 = (0 : Int32) then (f_X6_answerTo_L1_63_t3 x2 x3 x5 V) else (if ib x5 6 then (if (tba 3 (x5).toNatClampNeg) = (0 : Int32) then (if ib x5 6 then (f_X6_answerTo_L1_29_t3 n x2 x3 (tba 0 (x5).toNatClampNeg) (x6 + 1) V) else none) else (f_X6_answerTo_L1_63_t3 x2 x3 x5 V)) else none)))
def f_X6_answerTo_L1_13_u3 (x2 : Int32) (x3 : Int32) (V : Mem) : Option (Int32 × Mem) := (if ib x2 24 then (f_X6_answerTo_L1_29_t3 4096 x2 x3 (V 6 (x2).toNatClampNeg) (0 : Int32) V) else none)
def f_X6_answerTo_L1_63_t2 (x2 : Int32) (x3 : Int32) (x5 : Int32) (V : Mem) : Option (Int32 × Mem) := (if ib x5 6 then ((f_X6_answerOf_L1 (tba 2 (x5).toNatClampNeg) x2 (x3 + (1 : Int32)) V).bind fun q73 => some (q73.1, q73.2)) else none)
def f_X6_answerTo_L1_29_t2 : Nat → Int32 → Int32 → Int32 → Int32 → Mem → Option (Int32 × Mem)
  | 0, _, _, _, _, _ => none
  | n + 1, x2, x3, x5, x6, V => (if (6 : Int32) ≤ x6 then (f_X6_answerTo_L1_63_t2 x2 x3 x5 V) else (if x5 = (0 : Int32) then (f_X6_answerTo_L1_63_t2 x2 x3 x5 V) else (if ib x5 6 then (if (tba 2 (x5).toNatClampNeg) = (0 : Int32) then (if ib x5 6 then (f_X6_answerTo_L1_29_t2 n x2 x3 (tba 0 (x5).toNatClampNeg) (x6 + 1) V) else none) else (f_X6_answerTo_L1_63_t2 x2 x3 x5 V)) else none)))
def f_X6_answerTo_L1_13_u2 (x2 : Int32) (x3 : Int32) (V : Mem) : Option (Int32 × Mem) := (if ib x2 24 then (f_X6_answerTo_L1_29_t2 4096 x2 x3 (V 6 (x2).toNatClampNeg) (0 : Int32) V) else none)
def f_X6_answerTo_L1 (x1 : Int32) (x2 : Int32) (x3 : Int32) (V : Mem) : Option (Int32 × Mem) := (if x1 = (0 : Int32) then (f_X6_answerTo_L1_13_u2 x2 x3 V) else (f_X6_answerTo_L1_13_u3 x2 x3 V))
def f_X6_answerOf_L2 (x1 : Int32) (x2 : Int32) (x3 : Int32) (V : Mem) : Option (Int32 × Mem) := (if x3 ≤ (20 : Int32) then ((f_X6_leaveTrace x1 V).bind fun q10 => (if x1 = (10 : Int32) then (if ib x2 24 then some ((q10 8 (x2).toNatClampNeg), q10) else none) else (if x1 = (11 : Int32) then ((f_X6_answerOf_L1 (10 : Int32) x2 (x3 + (1 : Int32)) q10).bind fun q108 => ((f_X6_answerTo_L1 (1 : Int32) x2 (x3 + (1 : Int32)) q108.2).bind fun q116 => some ((q108.1 + q116.1), q116.2))) else (if x1 = (12 : Int32) then ((f_X6_answerOf_L1 (11 : Int32) x2 (x3 + (1 : Int32)) q10).bind fun q127 => some ((-q127.1), q127.2)) else (if x1 = (13 : Int32) then ((f_X6_answerOf_L1 (10 : Int32) x2 (x3 + (1 : Int32)) q10).bind fun q138 => some ((q138.1 - (100 : Int32)), q138.2)) else (if x1 = (14 : Int32) then ((f_X6_answerOf_L1 (13 : Int32) x2 (x3 + (1 : Int32)) q10).bind fun q152 => some (((2 : Int32) * q152.1), q152.2)) else (if x1 = (15 : Int32) then some ((0 : Int32), q10) else (if x1 = (16 : Int32) then some ((0 : Int32), q10) else (if x1 = (17 : Int32) then some ((0 : Int32), q10) else (if x1 = (18 : Int32) then some ((0 : Int32), q10) else (if x1 = (19 : Int32) then some ((0 : Int32), q10) else (if x1 = (20 : Int32) then some (x2, q10) else (if x1 = (21 : Int32) then ((f_X6_answerOf_L1 (20 : Int32) x2 (x3 + (1 : Int32)) q10).bind fun q165 => ((f_X3_ownCount 4 x2 q165.2).bind fun q173 => some ((q165.1 + q173.1), q173.2))) else (if x1 = (22 : Int32) then ((f_X6_answerOf_L1 (21 : Int32) x2 (x3 + (1 : Int32)) q10).bind fun q184 => some ((q184.1 - (1000 : Int32)), q184.2)) else (if x1 = (23 : Int32) then ((f_X6_answerOf_L1 (20 : Int32) x2 (x3 + (1 : Int32)) q10).bind fun q198 => ((f_X6_answerTo_L1 (0 : Int32) x2 (x3 + (1 : Int32)) q198.2).bind fun q206 => some ((q198.1 - q206.1), q206.2))) else (if x1 = (24 : Int32) then ((f_X6_answerOf_L1 (21 : Int32) x2 (x3 + (1 : Int32)) q10).bind fun q218 => some (((2 : Int32) * q218.1), q218.2)) else some ((0 : Int32), q10))))))))))))))))) else some ((0 : Int32), V))
def f_X6_answerTo_L2_63_t3 (x2 : Int32) (x3 : Int32) (x5 : Int32) (V : Mem) : Option (Int32 × Mem) := (if ib x5 6 then ((f_X6_answerOf_L2 (tba 3 (x5).toNatClampNeg) x2 (x3 + (1 : Int32)) V).bind fun q73 => some (q73.1, q73.2)) else none)
def f_X6_answerTo_L2_29_t3 : Nat → Int32 → Int32 → Int32 → Int32 → Mem → Option (Int32 × Mem)
  | 0, _, _, _, _, _ => none
  | n + 1, x2, x3, x5, x6, V => (if (6 : Int32) ≤ x6 then (f_X6_answerTo_L2_63_t3 x2 x3 x5 V) else (if x5 = (0 : Int32) then (f_X6_answerTo_L2_63_t3 x2 x3 x5 V) else (if ib x5 6 then (if (tba 3 (x5).toNatClampNeg) = (0 : Int32) then (if ib x5 6 then (f_X6_answerTo_L2_29_t3 n x2 x3 (tba 0 (x5).toNatClampNeg) (x6 + 1) V) else none) else (f_X6_answerTo_L2_63_t3 x2 x3 x5 V)) else none)))
def f_X6_answerTo_L2_13_u3 (x2 : Int32) (x3 : Int32) (V : Mem) : Option (Int32 × Mem) := (if ib x2 24 then (f_X6_answerTo_L2_29_t3 4096 x2 x3 (V 6 (x2).toNatClampNeg) (0 : Int32) V) else none)
def f_X6_answerTo_L2_63_t2 (x2 : Int32) (x3 : Int32) (x5 : Int32) (V : Mem) : Option (Int32 × Mem) := (if ib x5 6 then ((f_X6_answerOf_L2 (tba 2 (x5).toNatClampNeg) x2 (x3 + (1 : Int32)) V).bind fun q73 => some (q73.1, q73.2)) else none)
def f_X6_answerTo_L2_29_t2 : Nat → Int32 → Int32 → Int32 → Int32 → Mem → Option (Int32 × Mem)
  | 0, _, _, _, _, _ => none
  | n + 1, x2, x3, x5, x6, V => (if (6 : Int32) ≤ x6 then (f_X6_answerTo_L2_63_t2 x2 x3 x5 V) else (if x5 = (0 : Int32) then (f_X6_answerTo_L2_63_t2 x2 x3 x5 V) else (if ib x5 6 then (if (tba 2 (x5).toNatClampNeg) = (0 : Int32) then (if ib x5 6 then (f_X6_answerTo_L2_29_t2 n x2 x3 (tba 0 (x5).toNatClampNeg) (x6 + 1) V) else none) else (f_X6_answerTo_L2_63_t2 x2 x3 x5 V)) else none)))
def f_X6_answerTo_L2_13_u2 (x2 : Int32) (x3 : Int32) (V : Mem) : Option (Int32 × Mem) := (if ib x2 24 then (f_X6_answerTo_L2_29_t2 4096 x2 x3 (V 6 (x2).toNatClampNeg) (0 : Int32) V) else none)
def f_X6_answerTo_L2 (x1 : Int32) (x2 : Int32) (x3 : Int32) (V : Mem) : Option (Int32 × Mem) := (if x1 = (0 : Int32) then (f_X6_answerTo_L2_13_u2 x2 x3 V) else (f_X6_answerTo_L2_13_u3 x2 x3 V))
def f_X6_answerOf_L3 (x1 : Int32) (x2 : Int32) (x3 : Int32) (V : Mem) : Option (Int32 × Mem) := (if x3 ≤ (20 : Int32) then ((f_X6_leaveTrace x1 V).bind fun q10 => (if x1 = (10 : Int32) then (if ib x2 24 then some ((q10 8 (x2).toNatClampNeg), q10) else none) else (if x1 = (11 : Int32) then ((f_X6_answerOf_L2 (10 : Int32) x2 (x3 + (1 : Int32)) q10).bind fun q108 => ((f_X6_answerTo_L2 (1 : Int32) x2 (x3 + (1 : Int32)) q108.2).bind fun q116 => some ((q108.1 + q116.1), q116.2))) else (if x1 = (12 : Int32) then ((f_X6_answerOf_L2 (11 : Int32) x2 (x3 + (1 : Int32)) q10).bind fun q127 => some ((-q127.1), q127.2)) else (if x1 = (13 : Int32) then ((f_X6_answerOf_L2 (10 : Int32) x2 (x3 + (1 : Int32)) q10).bind fun q138 => some ((q138.1 - (100 : Int32)), q138.2)) else (if x1 = (14 : Int32) then ((f_X6_answerOf_L2 (13 : Int32) x2 (x3 + (1 : Int32)) q10).bind fun q152 => some (((2 : Int32) * q152.1), q152.2)) else (if x1 = (15 : Int32) then some ((0 : Int32), q10) else (if x1 = (16 : Int32) then some ((0 : Int32), q10) else (if x1 = (17 : Int32) then some ((0 : Int32), q10) else (if x1 = (18 : Int32) then some ((0 : Int32), q10) else (if x1 = (19 : Int32) then some ((0 : Int32), q10) else (if x1 = (20 : Int32) then some (x2, q10) else (if x1 = (21 : Int32) then ((f_X6_answerOf_L2 (20 : Int32) x2 (x3 + (1 : Int32)) q10).bind fun q165 => ((f_X3_ownCount 4 x2 q165.2).bind fun q173 => some ((q165.1 + q173.1), q173.2))) else (if x1 = (22 : Int32) then ((f_X6_answerOf_L2 (21 : Int32) x2 (x3 + (1 : Int32)) q10).bind fun q184 => some ((q184.1 - (1000 : Int32)), q184.2)) else (if x1 = (23 : Int32) then ((f_X6_answerOf_L2 (20 : Int32) x2 (x3 + (1 : Int32)) q10).bind fun q198 => ((f_X6_answerTo_L2 (0 : Int32) x2 (x3 + (1 : Int32)) q198.2).bind fun q206 => some ((q198.1 - q206.1), q206.2))) else (if x1 = (24 : Int32) then ((f_X6_answerOf_L2 (21 : Int32) x2 (x3 + (1 : Int32)) q10).bind fun q218 => some (((2 : Int32) * q218.1), q218.2)) else some ((0 : Int32), q10))))))))))))))))) else some ((0 : Int32), V))
def f_X6_answerTo_L3_63_t3 (x2 : Int32) (x3 : Int32) (x5 : Int32) (V : Mem) : Option (Int32 × Mem) := (if ib x5 6 then ((f_X6_answerOf_L3 (tba 3 (x5).toNatClampNeg) x2 (x3 + (1 : Int32)) V).bind fun q73 => some (q73.1, q73.2)) else none)
def f_X6_answerTo_L3_29_t3 : Nat → Int32 → Int32 → Int32 → Int32 → Mem → Option (Int32 × Mem)
  | 0, _, _, _, _, _ => none
  | n + 1, x2, x3, x5, x6, V => (if (6 : Int32) ≤ x6 then (f_X6_answerTo_L3_63_t3 x2 x3 x5 V) else (if x5 = (0 : Int32) then (f_X6_answerTo_L3_63_t3 x2 x3 x5 V) else (if ib x5 6 then (if (tba 3 (x5).toNatClampNeg) = (0 : Int32) then (if ib x5 6 then (f_X6_answerTo_L3_29_t3 n x2 x3 (tba 0 (x5).toNatClampNeg) (x6 + 1) V) else none) else (f_X6_answerTo_L3_63_t3 x2 x3 x5 V)) else none)))
def f_X6_answerTo_L3_13_u3 (x2 : Int32) (x3 : Int32) (V : Mem) : Option (Int32 × Mem) := (if ib x2 24 then (f_X6_answerTo_L3_29_t3 4096 x2 x3 (V 6 (x2).toNatClampNeg) (0 : Int32) V) else none)
def f_X6_answerTo_L3_63_t2 (x2 : Int32) (x3 : Int32) (x5 : Int32) (V : Mem) : Option (Int32 × Mem) := (if ib x5 6 then ((f_X6_answerOf_L3 (tba 2 (x5).toNatClampNeg) x2 (x3 + (1 : Int32)) V).bind fun q73 => some (q73.1, q73.2)) else none)
def f_X6_answerTo_L3_29_t2 : Nat → Int32 → Int32 → Int32 → Int32 → Mem → Option (Int32 × Mem)
  | 0, _, _, _, _, _ => none
  | n + 1, x2, x3, x5, x6, V => (if (6 : Int32) ≤ x6 then (f_X6_answerTo_L3_63_t2 x2 x3 x5 V) else (if x5 = (0 : Int32) then (f_X6_answerTo_L3_63_t2 x2 x3 x5 V) else (if ib x5 6 then (if (tba 2 (x5).toNatClampNeg) = (0 : Int32) then (if ib x5 6 then (f_X6_answerTo_L3_29_t2 n x2 x3 (tba 0 (x5).toNatClampNeg) (x6 + 1) V) else none) else (f_X6_answerTo_L3_63_t2 x2 x3 x5 V)) else none)))
def f_X6_answerTo_L3_13_u2 (x2 : Int32) (x3 : Int32) (V : Mem) : Option (Int32 × Mem) := (if ib x2 24 then (f_X6_answerTo_L3_29_t2 4096 x2 x3 (V 6 (x2).toNatClampNeg) (0 : Int32) V) else none)
def f_X6_answerTo_L3 (x1 : Int32) (x2 : Int32) (x3 : Int32) (V : Mem) : Option (Int32 × Mem) := (if x1 = (0 : Int32) then (f_X6_answerTo_L3_13_u2 x2 x3 V) else (f_X6_answerTo_L3_13_u3 x2 x3 V))
def f_X6_answerOf_L4 (x1 : Int32) (x2 : Int32) (x3 : Int32) (V : Mem) : Option (Int32 × Mem) := (if x3 ≤ (20 : Int32) then ((f_X6_leaveTrace x1 V).bind fun q10 => (if x1 = (10 : Int32) then (if ib x2 24 then some ((q10 8 (x2).toNatClampNeg), q10) else none) else (if x1 = (11 : Int32) then ((f_X6_answerOf_L3 (10 : Int32) x2 (x3 + (1 : Int32)) q10).bind fun q108 => ((f_X6_answerTo_L3 (1 : Int32) x2 (x3 + (1 : Int32)) q108.2).bind fun q116 => some ((q108.1 + q116.1), q116.2))) else (if x1 = (12 : Int32) then ((f_X6_answerOf_L3 (11 : Int32) x2 (x3 + (1 : Int32)) q10).bind fun q127 => some ((-q127.1), q127.2)) else (if x1 = (13 : Int32) then ((f_X6_answerOf_L3 (10 : Int32) x2 (x3 + (1 : Int32)) q10).bind fun q138 => some ((q138.1 - (100 : Int32)), q138.2)) else (if x1 = (14 : Int32) then ((f_X6_answerOf_L3 (13 : Int32) x2 (x3 + (1 : Int32)) q10).bind fun q152 => some (((2 : Int32) * q152.1), q152.2)) else (if x1 = (15 : Int32) then some ((0 : Int32), q10) else (if x1 = (16 : Int32) then some ((0 : Int32), q10) else (if x1 = (17 : Int32) then some ((0 : Int32), q10) else (if x1 = (18 : Int32) then some ((0 : Int32), q10) else (if x1 = (19 : Int32) then some ((0 : Int32), q10) else (if x1 = (20 : Int32) then some (x2, q10) else (if x1 = (21 : Int32) then ((f_X6_answerOf_L3 (20 : Int32) x2 (x3 + (1 : Int32)) q10).bind fun q165 => ((f_X3_ownCount 4 x2 q165.2).bind fun q173 => some ((q165.1 + q173.1), q173.2))) else (if x1 = (22 : Int32) then ((f_X6_answerOf_L3 (21 : Int32) x2 (x3 + (1 : Int32)) q10).bind fun q184 => some ((q184.1 - (1000 : Int32)), q184.2)) else (if x1 = (23 : Int32) then ((f_X6_answerOf_L3 (20 : Int32) x2 (x3 + (1 : Int32)) q10).bind fun q198 => ((f_X6_answerTo_L3 (0 : Int32) x2 (x3 + (1 : Int32)) q198.2).bind fun q206 => some ((q198.1 - q206.1), q206.2))) else (if x1 = (24 : Int32) then ((f_X6_answerOf_L3 (21 : Int32) x2 (x3 + (1 : Int32)) q10).bind fun q218 => some (((2 : Int32) * q218.1), q218.2)) else some ((0 : Int32), q10))))))))))))))))) else some ((0 : Int32), V))
def f_X6_answerTo_L4_63_t3 (x2 : Int32) (x3 : Int32) (x5 : Int32) (V : Mem) : Option (Int32 × Mem) := (if ib x5 6 then ((f_X6_answerOf_L4 (tba 3 (x5).toNatClampNeg) x2 (x3 + (1 : Int32)) V).bind fun q73 => some (q73.1, q73.2)) else none)
def f_X6_answerTo_L4_29_t3 : Nat → Int32 → Int32 → Int32 → Int32 → Mem → Option (Int32 × Mem)
  | 0, _, _, _, _, _ => none
  | n + 1, x2, x3, x5, x6, V => (if (6 : Int32) ≤ x6 then (f_X6_answerTo_L4_63_t3 x2 x3 x5 V) else (if x5 = (0 : Int32) then (f_X6_answerTo_L4_63_t3 x2 x3 x5 V) else (if ib x5 6 then (if (tba 3 (x5).toNatClampNeg) = (0 : Int32) then (if ib x5 6 then (f_X6_answerTo_L4_29_t3 n x2 x3 (tba 0 (x5).toNatClampNeg) (x6 + 1) V) else none) else (f_X6_answerTo_L4_63_t3 x2 x3 x5 V)) else none)))
def f_X6_answerTo_L4_13_u3 (x2 : Int32) (x3 : Int32) (V : Mem) : Option (Int32 × Mem) := (if ib x2 24 then (f_X6_answerTo_L4_29_t3 4096 x2 x3 (V 6 (x2).toNatClampNeg) (0 : Int32) V) else none)
def f_X6_answerTo_L4_63_t2 (x2 : Int32) (x3 : Int32) (x5 : Int32) (V : Mem) : Option (Int32 × Mem) := (if ib x5 6 then ((f_X6_answerOf_L4 (tba 2 (x5).toNatClampNeg) x2 (x3 + (1 : Int32)) V).bind fun q73 => some (q73.1, q73.2)) else none)
def f_X6_answerTo_L4_29_t2 : Nat → Int32 → Int32 → Int32 → Int32 → Mem → Option (Int32 × Mem)
  | 0, _, _, _, _, _ => none
  | n + 1, x2, x3, x5, x6, V => (if (6 : Int32) ≤ x6 then (f_X6_answerTo_L4_63_t2 x2 x3 x5 V) else (if x5 = (0 : Int32) then (f_X6_answerTo_L4_63_t2 x2 x3 x5 V) else (if ib x5 6 then (if (tba 2 (x5).toNatClampNeg) = (0 : Int32) then (if ib x5 6 then (f_X6_answerTo_L4_29_t2 n x2 x3 (tba 0 (x5).toNatClampNeg) (x6 + 1) V) else none) else (f_X6_answerTo_L4_63_t2 x2 x3 x5 V)) else none)))
def f_X6_answerTo_L4_13_u2 (x2 : Int32) (x3 : Int32) (V : Mem) : Option (Int32 × Mem) := (if ib x2 24 then (f_X6_answerTo_L4_29_t2 4096 x2 x3 (V 6 (x2).toNatClampNeg) (0 : Int32) V) else none)
def f_X6_answerTo_L4 (x1 : Int32) (x2 : Int32) (x3 : Int32) (V : Mem) : Option (Int32 × Mem) := (if x1 = (0 : Int32) then (f_X6_answerTo_L4_13_u2 x2 x3 V) else (f_X6_answerTo_L4_13_u3 x2 x3 V))
def f_X6_answerOf_L5 (x1 : Int32) (x2 : Int32) (x3 : Int32) (V : Mem) : Option (Int32 × Mem) := (if x3 ≤ (20 : Int32) then ((f_X6_leaveTrace x1 V).bind fun q10 => (if x1 = (10 : Int32) then (if ib x2 24 then some ((q10 8 (x2).toNatClampNeg), q10) else none) else (if x1 = (11 : Int32) then ((f_X6_answerOf_L4 (10 : Int32) x2 (x3 + (1 : Int32)) q10).bind fun q108 => ((f_X6_answerTo_L4 (1 : Int32) x2 (x3 + (1 : Int32)) q108.2).bind fun q116 => some ((q108.1 + q116.1), q116.2))) else (if x1 = (12 : Int32) then ((f_X6_answerOf_L4 (11 : Int32) x2 (x3 + (1 : Int32)) q10).bind fun q127 => some ((-q127.1), q127.2)) else (if x1 = (13 : Int32) then ((f_X6_answerOf_L4 (10 : Int32) x2 (x3 + (1 : Int32)) q10).bind fun q138 => some ((q138.1 - (100 : Int32)), q138.2)) else (if x1 = (14 : Int32) then ((f_X6_answerOf_L4 (13 : Int32) x2 (x3 + (1 : Int32)) q10).bind fun q152 => some (((2 : Int32) * q152.1), q152.2)) else (if x1 = (15 : Int32) then some ((0 : Int32), q10) else (if x1 = (16 : Int32) then some ((0 : Int32), q10) else (if x1 = (17 : Int32) then some ((0 : Int32), q10) else (if x1 = (18 : Int32) then some ((0 : Int32), q10) else (if x1 = (19 : Int32) then some ((0 : Int32), q10) else (if x1 = (20 : Int32) then some (x2, q10) else (if x1 = (21 : Int32) then ((f_X6_answerOf_L4 (20 : Int32) x2 (x3 + (1 : Int32)) q10).bind fun q165 => ((f_X3_ownCount 4 x2 q165.2).bind fun q173 => some ((q165.1 + q173.1), q173.2))) else (if x1 = (22 : Int32) then ((f_X6_answerOf_L4 (21 : Int32) x2 (x3 + (1 : Int32)) q10).bind fun q184 => some ((q184.1 - (1000 : Int32)), q184.2)) else (if x1 = (23 : Int32) then ((f_X6_answerOf_L4 (20 : Int32) x2 (x3 + (1 : Int32)) q10).bind fun q198 => ((f_X6_answerTo_L4 (0 : Int32) x2 (x3 + (1 : Int32)) q198.2).bind fun q206 => some ((q198.1 - q206.1), q206.2))) else (if x1 = (24 : Int32) then ((f_X6_answerOf_L4 (21 : Int32) x2 (x3 + (1 : Int32)) q10).bind fun q218 => some (((2 : Int32) * q218.1), q218.2)) else some ((0 : Int32), q10))))))))))))))))) else some ((0 : Int32), V))
def f_X6_answerTo_L5_63_t3 (x2 : Int32) (x3 : Int32) (x5 : Int32) (V : Mem) : Option (Int32 × Mem) := (if ib x5 6 then ((f_X6_answerOf_L5 (tba 3 (x5).toNatClampNeg) x2 (x3 + (1 : Int32)) V).bind fun q73 => some (q73.1, q73.2)) else none)
def f_X6_answerTo_L5_29_t3 : Nat → Int32 → Int32 → Int32 → Int32 → Mem → Option (Int32 × Mem)
  | 0, _, _, _, _, _ => none
  | n + 1, x2, x3, x5, x6, V => (if (6 : Int32) ≤ x6 then (f_X6_answerTo_L5_63_t3 x2 x3 x5 V) else (if x5 = (0 : Int32) then (f_X6_answerTo_L5_63_t3 x2 x3 x5 V) else (if ib x5 6 then (if (tba 3 (x5).toNatClampNeg) = (0 : Int32) then (if ib x5 6 then (f_X6_answerTo_L5_29_t3 n x2 x3 (tba 0 (x5).toNatClampNeg) (x6 + 1) V) else none) else (f_X6_answerTo_L5_63_t3 x2 x3 x5 V)) else none)))
def f_X6_answerTo_L5_13_u3 (x2 : Int32) (x3 : Int32) (V : Mem) : Option (Int32 × Mem) := (if ib x2 24 then (f_X6_answerTo_L5_29_t3 4096 x2 x3 (V 6 (x2).toNatClampNeg) (0 : Int32) V) else none)
def f_X6_answerTo_L5_63_t2 (x2 : Int32) (x3 : Int32) (x5 : Int32) (V : Mem) : Option (Int32 × Mem) := (if ib x5 6 then ((f_X6_answerOf_L5 (tba 2 (x5).toNatClampNeg) x2 (x3 + (1 : Int32)) V).bind fun q73 => some (q73.1, q73.2)) else none)
def f_X6_answerTo_L5_29_t2 : Nat → Int32 → Int32 → Int32 → Int32 → Mem → Option (Int32 × Mem)
  | 0, _, _, _, _, _ => none
  | n + 1, x2, x3, x5, x6, V => (if (6 : Int32) ≤ x6 then (f_X6_answerTo_L5_63_t2 x2 x3 x5 V) else (if x5 = (0 : Int32) then (f_X6_answerTo_L5_63_t2 x2 x3 x5 V) else (if ib x5 6 then (if (tba 2 (x5).toNatClampNeg) = (0 : Int32) then (if ib x5 6 then (f_X6_answerTo_L5_29_t2 n x2 x3 (tba 0 (x5).toNatClampNeg) (x6 + 1) V) else none) else (f_X6_answerTo_L5_63_t2 x2 x3 x5 V)) else none)))
def f_X6_answerTo_L5_13_u2 (x2 : Int32) (x3 : Int32) (V : Mem) : Option (Int32 × Mem) := (if ib x2 24 then (f_X6_answerTo_L5_29_t2 4096 x2 x3 (V 6 (x2).toNatClampNeg) (0 : Int32) V) else none)
def f_X6_answerTo_L5 (x1 : Int32) (x2 : Int32) (x3 : Int32) (V : Mem) : Option (Int32 × Mem) := (if x1 = (0 : Int32) then (f_X6_answerTo_L5_13_u2 x2 x3 V) else (f_X6_answerTo_L5_13_u3 x2 x3 V))
def f_X6_answerOf_L6 (x1 : Int32) (x2 : Int32) (x3 : Int32) (V : Mem) : Option (Int32 × Mem) := (if x3 ≤ (20 : Int32) then ((f_X6_leaveTrace x1 V).bind fun q10 => (if x1 = (10 : Int32) then (if ib x2 24 then some ((q10 8 (x2).toNatClampNeg), q10) else none) else (if x1 = (11 : Int32) then ((f_X6_answerOf_L5 (10 : Int32) x2 (x3 + (1 : Int32)) q10).bind fun q108 => ((f_X6_answerTo_L5 (1 : Int32) x2 (x3 + (1 : Int32)) q108.2).bind fun q116 => some ((q108.1 + q116.1), q116.2))) else (if x1 = (12 : Int32) then ((f_X6_answerOf_L5 (11 : Int32) x2 (x3 + (1 : Int32)) q10).bind fun q127 => some ((-q127.1), q127.2)) else (if x1 = (13 : Int32) then ((f_X6_answerOf_L5 (10 : Int32) x2 (x3 + (1 : Int32)) q10).bind fun q138 => some ((q138.1 - (100 : Int32)), q138.2)) else (if x1 = (14 : Int32) then ((f_X6_answerOf_L5 (13 : Int32) x2 (x3 + (1 : Int32)) q10).bind fun q152 => some (((2 : Int32) * q152.1), q152.2)) else (if x1 = (15 : Int32) then some ((0 : Int32), q10) else (if x1 = (16 : Int32) then some ((0 : Int32), q10) else (if x1 = (17 : Int32) then some ((0 : Int32), q10) else (if x1 = (18 : Int32) then some ((0 : Int32), q10) else (if x1 = (19 : Int32) then some ((0 : Int32), q10) else (if x1 = (20 : Int32) then some (x2, q10) else (if x1 = (21 : Int32) then ((f_X6_answerOf_L5 (20 : Int32) x2 (x3 + (1 : Int32)) q10).bind fun q165 => ((f_X3_ownCount 4 x2 q165.2).bind fun q173 => some ((q165.1 + q173.1), q173.2))) else (if x1 = (22 : Int32) then ((f_X6_answerOf_L5 (21 : Int32) x2 (x3 + (1 : Int32)) q10).bind fun q184 => some ((q184.1 - (1000 : Int32)), q184.2)) else (if x1 = (23 : Int32) then ((f_X6_answerOf_L5 (20 : Int32) x2 (x3 + (1 : Int32)) q10).bind fun q198 => ((f_X6_answerTo_L5 (0 : Int32) x2 (x3 + (1 : Int32)) q198.2).bind fun q206 => some ((q198.1 - q206.1), q206.2))) else (if x1 = (24 : Int32) then ((f_X6_answerOf_L5 (21 : Int32) x2 (x3 + (1 : Int32)) q10).bind fun q218 => some (((2 : Int32) * q218.1), q218.2)) else some ((0 : Int32), q10))))))))))))))))) else some ((0 : Int32), V))
def f_X6_answerTo_L6_63_t3 (x2 : Int32) (x3 : Int32) (x5 : Int32) (V : Mem) : Option (Int32 × Mem) := (if ib x5 6 then ((f_X6_answerOf_L6 (tba 3 (x5).toNatClampNeg) x2 (x3 + (1 : Int32)) V).bind fun q73 => some (q73.1, q73.2)) else none)
def f_X6_answerTo_L6_29_t3 : Nat → Int32 → Int32 → Int32 → Int32 → Mem → Option (Int32 × Mem)
  | 0, _, _, _, _, _ => none
  | n + 1, x2, x3, x5, x6, V => (if (6 : Int32) ≤ x6 then (f_X6_answerTo_L6_63_t3 x2 x3 x5 V) else (if x5 = (0 : Int32) then (f_X6_answerTo_L6_63_t3 x2 x3 x5 V) else (if ib x5 6 then (if (tba 3 (x5).toNatClampNeg) = (0 : Int32) then (if ib x5 6 then (f_X6_answerTo_L6_29_t3 n x2 x3 (tba 0 (x5).toNatClampNeg) (x6 + 1) V) else none) else (f_X6_answerTo_L6_63_t3 x2 x3 x5 V)) else none)))
def f_X6_answerTo_L6_13_u3 (x2 : Int32) (x3 : Int32) (V : Mem) : Option (Int32 × Mem) := (if ib x2 24 then (f_X6_answerTo_L6_29_t3 4096 x2 x3 (V 6 (x2).toNatClampNeg) (0 : Int32) V) else none)
def f_X6_answerTo_L6_63_t2 (x2 : Int32) (x3 : Int32) (x5 : Int32) (V : Mem) : Option (Int32 × Mem) := (if ib x5 6 then ((f_X6_answerOf_L6 (tba 2 (x5).toNatClampNeg) x2 (x3 + (1 : Int32)) V).bind fun q73 => some (q73.1, q73.2)) else none)
def f_X6_answerTo_L6_29_t2 : Nat → Int32 → Int32 → Int32 → Int32 → Mem → Option (Int32 × Mem)
  | 0, _, _, _, _, _ => none
  | n + 1, x2, x3, x5, x6, V => (if (6 : Int32) ≤ x6 then (f_X6_answerTo_L6_63_t2 x2 x3 x5 V) else (if x5 = (0 : Int32) then (f_X6_answerTo_L6_63_t2 x2 x3 x5 V) else (if ib x5 6 then (if (tba 2 (x5).toNatClampNeg) = (0 : Int32) then (if ib x5 6 then (f_X6_answerTo_L6_29_t2 n x2 x3 (tba 0 (x5).toNatClampNeg) (x6 + 1) V) else none) else (f_X6_answerTo_L6_63_t2 x2 x3 x5 V)) else none)))
def f_X6_answerTo_L6_13_u2 (x2 : Int32) (x3 : Int32) (V : Mem) : Option (Int32 × Mem) := (if ib x2 24 then (f_X6_answerTo_L6_29_t2 4096 x2 x3 (V 6 (x2).toNatClampNeg) (0 : Int32) V) else none)
def f_X6_answerTo_L6 (x1 : Int32) (x2 : Int32) (x3 : Int32) (V : Mem) : Option (Int32 × Mem) := (if x1 = (0 : Int32) then (f_X6_answerTo_L6_13_u2 x2 x3 V) else (f_X6_answerTo_L6_13_u3 x2 x3 V))
def f_X6_ask (x1 : Int32) (x2 : Int32) (V : Mem) : Option (Int32 × Mem) := ((f_X3_has 4 x1 V).bind fun q5 => (if q5.1 = (0 : Int32) then some ((-1000001 : Int32), q5.2) else ((f_X6_isBetween x2 (0 : Int32) (1 : Int32) q5.2).bind fun q14 => (if q14.1 = (0 : Int32) then some ((-1000001 : Int32), q14.2) else ((f_X6_answerTo_L6 x2 x1 (0 : Int32) (st q14.2 0 11 (0 : Int32))).bind fun q32 => some (q32.1, q32.2))))))
end
section
def S_row (I : Mem → Mem → Prop) : Prop := ∀ (a0 a1 a2 : Int32) (V U : Mem), I V U → ∃ q r, f_X6_row a0 a1 a2 V = some q ∧ f_X7_row a0 a1 a2 U = some r ∧ q.1 = r.1 ∧ I q.2 r.2
def S_set (I : Mem → Mem → Prop) : Prop := ∀ (a0 a1 a2 : Int32) (V U : Mem), I V U → ∃ q r, f_X6_set a0 a1 a2 V = some q ∧ f_X7_set a0 a1 a2 U = some r ∧ q.1 = r.1 ∧ I q.2 r.2
def S_copy (I : Mem → Mem → Prop) : Prop := ∀ (a0 a1 a2 a3 a4 : Int32) (V U : Mem), I V U → ∃ q r, f_X6_copy a0 a1 a2 a3 a4 V = some q ∧ f_X7_copy a0 a1 a2 a3 a4 U = some r ∧ q.1 = r.1 ∧ I q.2 r.2
def S_drop (I : Mem → Mem → Prop) : Prop := ∀ (a0 : Int32) (V U : Mem), I V U → ∃ q r, f_X6_drop a0 V = some q ∧ f_X7_drop a0 U = some r ∧ q.1 = r.1 ∧ I q.2 r.2
def S_feed (I : Mem → Mem → Prop) : Prop := ∀ (a0 : Int32) (V U : Mem), I V U → ∃ q r, f_X6_feed a0 V = some q ∧ f_X7_feed a0 U = some r ∧ q.1 = r.1 ∧ I q.2 r.2
def S_sheet (I : Mem → Mem → Prop) : Prop := ∀ (V U : Mem), I V U → ∃ q r, f_X6_sheet  V = some q ∧ f_X7_sheet  U = some r ∧ q.1 = r.1 ∧ I q.2 r.2
def S_fault (I : Mem → Mem → Prop) : Prop := ∀ (V U : Mem), I V U → ∃ q r, f_X6_fault  V = some q ∧ f_X7_fault  U = some r ∧ q.1 = r.1 ∧ I q.2 r.2
def S_undo (I : Mem → Mem → Prop) : Prop := ∀ (V U : Mem), I V U → ∃ q r, f_X6_undo  V = some q ∧ f_X7_undo  U = some r ∧ q.1 = r.1 ∧ I q.2 r.2
def S_put (I : Mem → Mem → Prop) : Prop := ∀ (a0 a1 a2 a3 : Int32) (V U : Mem), I V U → ∃ q r, f_X6_put a0 a1 a2 a3 V = some q ∧ f_X7_put a0 a1 a2 a3 U = some r ∧ q.1 = r.1 ∧ I q.2 r.2
def S_take (I : Mem → Mem → Prop) : Prop := ∀ (a0 : Int32) (V U : Mem), I V U → ∃ q r, f_X6_take a0 V = some q ∧ f_X7_take a0 U = some r ∧ q.1 = r.1 ∧ I q.2 r.2
def S_move (I : Mem → Mem → Prop) : Prop := ∀ (a0 a1 : Int32) (V U : Mem), I V U → ∃ q r, f_X6_move a0 a1 V = some q ∧ f_X7_move a0 a1 U = some r ∧ q.1 = r.1 ∧ I q.2 r.2
def S_change (I : Mem → Mem → Prop) : Prop := ∀ (a0 a1 a2 a3 : Int32) (V U : Mem), I V U → ∃ q r, f_X6_change a0 a1 a2 a3 V = some q ∧ f_X7_change a0 a1 a2 a3 U = some r ∧ q.1 = r.1 ∧ I q.2 r.2
def S_style (I : Mem → Mem → Prop) : Prop := ∀ (a0 a1 : Int32) (V U : Mem), I V U → ∃ q r, f_X6_style a0 a1 V = some q ∧ f_X7_style a0 a1 U = some r ∧ q.1 = r.1 ∧ I q.2 r.2
def S_paragraph (I : Mem → Mem → Prop) : Prop := ∀ (a0 a1 : Int32) (V U : Mem), I V U → ∃ q r, f_X6_paragraph a0 a1 V = some q ∧ f_X7_paragraph a0 a1 U = some r ∧ q.1 = r.1 ∧ I q.2 r.2
def S_label (I : Mem → Mem → Prop) : Prop := ∀ (a0 a1 a2 : Int32) (V U : Mem), I V U → ∃ q r, f_X6_label a0 a1 a2 V = some q ∧ f_X7_label a0 a1 a2 U = some r ∧ q.1 = r.1 ∧ I q.2 r.2
def S_called (I : Mem → Mem → Prop) : Prop := ∀ (a0 a1 a2 : Int32) (V U : Mem), I V U → ∃ q r, f_X6_called a0 a1 a2 V = some q ∧ f_X7_called a0 a1 a2 U = some r ∧ q.1 = r.1 ∧ I q.2 r.2
def S_span (I : Mem → Mem → Prop) : Prop := ∀ (a0 a1 a2 a3 : Int32) (V U : Mem), I V U → ∃ q r, f_X6_span a0 a1 a2 a3 V = some q ∧ f_X7_span a0 a1 a2 a3 U = some r ∧ q.1 = r.1 ∧ I q.2 r.2
def S_register (I : Mem → Mem → Prop) : Prop := ∀ (a0 : Int32) (V U : Mem), I V U → ∃ q r, f_X6_register a0 V = some q ∧ f_X7_register a0 U = some r ∧ q.1 = r.1 ∧ I q.2 r.2
def S_bears (I : Mem → Mem → Prop) : Prop := ∀ (a0 a1 a2 : Int32) (V U : Mem), I V U → ∃ q r, f_X6_bears a0 a1 a2 V = some q ∧ f_X7_bears a0 a1 a2 U = some r ∧ q.1 = r.1 ∧ I q.2 r.2
def S_changed (I : Mem → Mem → Prop) : Prop := ∀ (a0 : Int32) (V U : Mem), I V U → ∃ q r, f_X6_changed a0 V = some q ∧ f_X7_changed a0 U = some r ∧ q.1 = r.1 ∧ I q.2 r.2
def S_nearest (I : Mem → Mem → Prop) : Prop := ∀ (a0 a1 : Int32) (V U : Mem), I V U → ∃ q r, f_X6_nearest a0 a1 V = some q ∧ f_X7_nearest a0 a1 U = some r ∧ q.1 = r.1 ∧ I q.2 r.2
def S_sets (I : Mem → Mem → Prop) : Prop := ∀ (a0 : Int32) (V U : Mem), I V U → ∃ q r, f_X6_sets a0 V = some q ∧ f_X7_sets a0 U = some r ∧ q.1 = r.1 ∧ I q.2 r.2
def S_deepest (I : Mem → Mem → Prop) : Prop := ∀ (a0 : Int32) (V U : Mem), I V U → ∃ q r, f_X6_deepest a0 V = some q ∧ f_X7_deepest a0 U = some r ∧ q.1 = r.1 ∧ I q.2 r.2
def S_who (I : Mem → Mem → Prop) : Prop := ∀ (a0 a1 a2 a3 a4 : Int32) (V U : Mem), I V U → ∃ q r, f_X6_who a0 a1 a2 a3 a4 V = some q ∧ f_X7_who a0 a1 a2 a3 a4 U = some r ∧ q.1 = r.1 ∧ I q.2 r.2
def S_lost (I : Mem → Mem → Prop) : Prop := ∀ (a0 a1 a2 a3 : Int32) (V U : Mem), I V U → ∃ q r, f_X6_lost a0 a1 a2 a3 V = some q ∧ f_X7_lost a0 a1 a2 a3 U = some r ∧ q.1 = r.1 ∧ I q.2 r.2
def S_drawn (I : Mem → Mem → Prop) : Prop := ∀ (a0 a1 a2 : Int32) (V U : Mem), I V U → ∃ q r, f_X6_drawn a0 a1 a2 V = some q ∧ f_X7_drawn a0 a1 a2 U = some r ∧ q.1 = r.1 ∧ I q.2 r.2
def S_image (I : Mem → Mem → Prop) : Prop := ∀ (a0 : Int32) (V U : Mem), I V U → ∃ q r, f_X6_image a0 V = some q ∧ f_X7_image a0 U = some r ∧ q.1 = r.1 ∧ I q.2 r.2
def S_restore (I : Mem → Mem → Prop) : Prop := ∀ (a0 : Int32) (V U : Mem), I V U → ∃ q r, f_X6_restore a0 V = some q ∧ f_X7_restore a0 U = some r ∧ q.1 = r.1 ∧ I q.2 r.2
def S_kind (I : Mem → Mem → Prop) : Prop := ∀ (a0 : Int32) (V U : Mem), I V U → ∃ q r, f_X6_kind a0 V = some q ∧ f_X7_kind a0 U = some r ∧ q.1 = r.1 ∧ I q.2 r.2
def S_as (I : Mem → Mem → Prop) : Prop := ∀ (a0 a1 : Int32) (V U : Mem), I V U → ∃ q r, f_X6_as a0 a1 V = some q ∧ f_X7_as a0 a1 U = some r ∧ q.1 = r.1 ∧ I q.2 r.2
def S_ask (I : Mem → Mem → Prop) : Prop := ∀ (a0 a1 : Int32) (V U : Mem), I V U → ∃ q r, f_X6_ask a0 a1 V = some q ∧ f_X7_ask a0 a1 U = some r ∧ q.1 = r.1 ∧ I q.2 r.2
def S_trace (I : Mem → Mem → Prop) : Prop := ∀ (a0 : Int32) (V U : Mem), I V U → ∃ q r, f_X6_trace a0 V = some q ∧ f_X7_trace a0 U = some r ∧ q.1 = r.1 ∧ I q.2 r.2
def S_count (I : Mem → Mem → Prop) : Prop := ∀ (a0 : Int32) (V U : Mem), I V U → ∃ q r, f_X6_count a0 V = some q ∧ f_X7_count a0 U = some r ∧ q.1 = r.1 ∧ I q.2 r.2
def S_status (I : Mem → Mem → Prop) : Prop := ∀ (V U : Mem), I V U → ∃ q r, f_X6_status  V = some q ∧ f_X7_status  U = some r ∧ q.1 = r.1 ∧ I q.2 r.2
end
section
/-! Pure rows: numbers and places of Mem. -/
theorem st_at (V : Mem) (i k : Nat) (x : Int32) (a b : Nat) : st V i k x a b = if a = i ∧ b = k then x else V a b := by
  unfold st ms upd
  by_cases h : a = i
  · subst h
    by_cases h2 : b = k
    · simp [h2]
    · simp [h2]
  · simp [h]
theorem st_id {V : Mem} {i k : Nat} {x : Int32} {a : Nat} (h : a ≠ i) : st V i k x a = V a := by
  unfold st ms
  rw [if_neg h]
theorem ms_at (V : Mem) (i : Nat) (f : Nat → Int32) (a b : Nat) : ms V i f a b = if a = i then f b else V a b := by
  unfold ms
  by_cases h : a = i
  · rw [if_pos h, if_pos h]
  · rw [if_neg h, if_neg h]
theorem ms_id {V : Mem} {i a : Nat} {f : Nat → Int32} (h : a ≠ i) : ms V i f a = V a := if_neg h
theorem ms_eq {V : Mem} {i : Nat} {f : Nat → Int32} : ms V i f i = f := if_pos rfl
theorem cp_at (V : Mem) (i0 i sp dp n a b : Nat) : cp V i0 i sp dp n a b = if a = i ∧ dp ≤ b ∧ b < dp + n then V i0 (sp + (b - dp)) else V a b := by
  unfold cp ms va_cpy
  by_cases h : a = i
  · subst h
    by_cases h2 : dp ≤ b ∧ b < dp + n
    · simp [h2]
    · rw [if_pos rfl, if_neg h2, if_neg (fun q => h2 q.2)]
  · rw [if_neg h, if_neg (fun q => h q.1)]
theorem cp_id {V : Mem} {i0 i sp dp n a : Nat} (h : a ≠ i) : cp V i0 i sp dp n a = V a := by
  unfold cp ms
  rw [if_neg h]
theorem st_same {V : Mem} {i k : Nat} {x : Int32} : st V i k x i k = x := by rw [st_at, if_pos ⟨rfl, rfl⟩]
theorem st_ne1 {V : Mem} {i k a b : Nat} {x : Int32} (h : a ≠ i) : st V i k x a b = V a b := by rw [st_id h]
theorem st_ne2 {V : Mem} {i k a b : Nat} {x : Int32} (h : b ≠ k) : st V i k x a b = V a b := by rw [st_at, if_neg (fun q => h q.2)]
theorem ms_same {V : Mem} {i b : Nat} {f : Nat → Int32} : ms V i f i b = f b := by rw [ms_eq]
theorem ms_ne {V : Mem} {i a b : Nat} {f : Nat → Int32} (h : a ≠ i) : ms V i f a b = V a b := by rw [ms_id h]
theorem cp_in {V : Mem} {i0 i sp dp n b : Nat} (h : dp ≤ b ∧ b < dp + n) : cp V i0 i sp dp n i b = V i0 (sp + (b - dp)) := by rw [cp_at, if_pos ⟨rfl, h⟩]
theorem cp_out {V : Mem} {i0 i sp dp n b : Nat} (h : b < dp ∨ dp + n ≤ b) : cp V i0 i sp dp n i b = V i b := by rw [cp_at, if_neg (by omega)]
theorem cp_ne {V : Mem} {i0 i sp dp n a b : Nat} (h : a ≠ i) : cp V i0 i sp dp n a b = V a b := by rw [cp_id h]
theorem li (n : Nat) : (OfNat.ofNat n : Int32) = nI (OfNat.ofNat n) := rfl
theorem nle {a b : Nat} (ha : a < 2147483648) (hb : b < 2147483648) : (nI a ≤ nI b) ↔ a ≤ b := nI_leI ha hb
theorem nlt {a b : Nat} (ha : a < 2147483648) (hb : b < 2147483648) : (nI a < nI b) ↔ a < b := nI_ltI ha hb
theorem neq {a b : Nat} (ha : a < 2147483648) (hb : b < 2147483648) : (nI a = nI b) ↔ a = b := nI_eq ha hb
theorem ncl {a : Nat} (ha : a < 2147483648) : (nI a).toNatClampNeg = a := nI_clamp ha
theorem nad (a b : Nat) : nI a + nI b = nI (a + b) := nI_add a b
theorem nsb {a b : Nat} (h : b ≤ a) : nI a - nI b = nI (a - b) := pk_sub h
theorem ibn {j n : Nat} (hj : j < 2147483648) : ib (nI j) n = decide (j < n) := by
  unfold ib
  rw [ncl hj]
  have h0 : ¬ nI j < 0 := nI_pos hj
  by_cases h : n ≤ j
  · simp [h0, h, Nat.not_lt.mpr h]
  · simp [h0, h, Nat.lt_of_not_le h]
theorem ibt {j n : Nat} (h : j < n) (hn : n < 2147483648) : ib (nI j) n = true := by
  rw [ibn (by omega)]
  exact decide_eq_true h
theorem ib_of {x : Int32} {n : Nat} (h : ib x n = true) (hn : n < 2147483648) : ∃ j, j < n ∧ x = nI j := by
  have h1 : vp_in x n := by
    unfold ib at h
    intro q
    rcases q with q | q
    · simp [q] at h
    · simp [q] at h
  exact vp_in_of h1 hn
theorem cokn {a b c n0 n1 : Nat} (ha : a < 2147483648) (hb : b < 2147483648) (hc : c < 2147483648) (h1 : a + c ≤ n0) (h2 : b + c ≤ n1) : cok (nI a) (nI b) (nI c) n0 n1 = true := by
  unfold cok
  rw [ncl ha, ncl hb, ncl hc]
  have e1 : ¬ nI a < 0 := nI_pos ha
  have e2 : ¬ nI b < 0 := nI_pos hb
  have e3 : ¬ nI c < 0 := nI_pos hc
  simp [e1, e2, e3, h1, h2]
/-- an Int32 is one of 0 .. n - 1, or none of them -/
theorem rng (x : Int32) (n : Nat) (hn : n < 2147483648) : (∃ j, j < n ∧ x = nI j) ∨ (x < 0 ∨ nI n ≤ x) := by
  rcases pk_ix x (n := n) hn with h | h | h
  · exact Or.inr (Or.inl h)
  · exact Or.inr (Or.inr h)
  · exact Or.inl h
/-! counters -/
def sA (C : Nat → Nat) (l v : Nat) : Nat → Nat := fun x => if x = l then v else if l < x ∧ x < 3 then 0 else C x
def rsm (C : Nat → Nat) : Nat → Nat := fun x => if x < 3 then C (x + 3) else C x
def kpt (C : Nat → Nat) : Nat → Nat := fun x => if x < 3 then C x else if x < 6 then C (x - 3) else C x
def hdc (C : Nat → Nat) : Nat → Nat := fun x => if x < 3 then 0 else if x < 6 then C (x - 3) else C x
def ov (C : Nat → Nat) (p : Nat × Nat × Nat) : Nat → Nat :=
  if p.1 = 1 then sA C p.2.1 (C p.2.1 + 1)
  else if p.1 = 2 then sA C p.2.1 p.2.2
  else if p.1 = 3 then sA (rsm C) p.2.1 (rsm C p.2.1 + 1)
  else if p.1 = 5 then hdc C
  else C
/-- the counters' row holds C (six of them), the rest as f has it -/
def cf (C : Nat → Nat) (f : Nat → Int32) : Nat → Int32 := fun x => if x < 6 then nI (C x) else f x
theorem sA_loop (r : Nat) : ∀ (d n : Nat) (V : Mem) (k : Nat), k + d = 3 → d < n → f_X1_standAt_8 n r (nI k) V = some (ms V r (fun x => if k ≤ x ∧ x < 3 then 0 else V r x)) := by
  intro d
  induction d with
  | zero =>
    intro n V k hk hn
    obtain ⟨n, rfl⟩ : ∃ n', n = n' + 1 := ⟨n - 1, by omega⟩
    have hk3 : k = 3 := by omega
    subst hk3
    unfold f_X1_standAt_8
    rw [if_pos (by rw [li, nle (by omega) (by omega)]; omega)]
    congr 1
    funext a
    by_cases h : a = r
    · subst h
      rw [ms_eq]
      funext x
      rw [if_neg (by omega)]
    · rw [ms_id h]
  | succ d ih =>
    intro n V k hk hn
    obtain ⟨n, rfl⟩ : ∃ n', n = n' + 1 := ⟨n - 1, by omega⟩
    unfold f_X1_standAt_8
    rw [if_neg (by rw [li, nle (by omega) (by omega)]; omega), if_pos (ibt (by omega) (by omega)), li, nad, ih n _ (k + 1) (by omega) (by omega), ncl (by omega)]
    congr 1
    funext a
    by_cases h : a = r
    · subst h
      rw [ms_eq, ms_eq]
      funext x
      rw [st_at]
      by_cases hx : x = k
      · subst hx
        rw [if_neg (by omega), if_pos ⟨rfl, rfl⟩, if_pos (by omega)]
      · by_cases h1 : k ≤ x ∧ x < 3
        · rw [if_pos h1, if_pos (by omega)]
        · rw [if_neg h1, if_neg (by omega), if_neg (by omega)]
    · rw [ms_id h, ms_id h, st_id h]
theorem standAt_eq (r l v : Nat) (V : Mem) (hl : l < 3) : f_X1_standAt r (nI l) (nI v) V = some (ms V r (fun x => if x = l then nI v else if l < x ∧ x < 3 then 0 else V r x)) := by
  unfold f_X1_standAt
  rw [if_pos (ibt (by omega) (by omega)), li, nad, sA_loop r (2 - l) _ _ (l + 1) (by omega) (by omega), ncl (by omega)]
  congr 1
  funext a
  by_cases h : a = r
  · subst h
    rw [ms_eq, ms_eq]
    funext x
    rw [st_at]
    by_cases hx : x = l
    · subst hx
      rw [if_neg (by omega), if_pos ⟨rfl, rfl⟩, if_pos rfl]
    · by_cases h1 : l < x ∧ x < 3
      · rw [if_pos (by omega), if_neg hx, if_pos h1]
      · rw [if_neg (by omega), if_neg (by omega), if_neg hx, if_neg h1]
  · rw [ms_id h, ms_id h, st_id h]
theorem standAt_cf {r l v : Nat} {V : Mem} {C : Nat → Nat} {f : Nat → Int32} (hl : l < 3) (hC : V r = cf C f) : f_X1_standAt r (nI l) (nI v) V = some (ms V r (cf (sA C l v) f)) := by
  rw [standAt_eq r l v V hl]
  congr 1
  congr 1
  funext x
  unfold cf sA
  rw [hC]
  unfold cf
  by_cases h6 : x < 6
  · rw [if_pos h6, if_pos h6]
    by_cases h1 : x = l
    · rw [if_pos h1, if_pos h1]
    · rw [if_neg h1, if_neg h1]
      by_cases h2 : l < x ∧ x < 3
      · rw [if_pos h2, if_pos h2]; rfl
      · rw [if_neg h2, if_neg h2]
  · rw [if_neg h6, if_neg (by omega), if_neg (by omega), if_neg h6]
theorem ms_ms {V : Mem} {i : Nat} {f g : Nat → Int32} : ms (ms V i f) i g = ms V i g := by
  funext a
  by_cases h : a = i
  · subst h; rw [ms_eq, ms_eq]
  · rw [ms_id h, ms_id h, ms_id h]
theorem cp_ms {V : Mem} {r sp dp n : Nat} : cp V r r sp dp n = ms V r (va_cpy (V r) (V r) sp dp n) := rfl
theorem over_eq {r : Nat} {V : Mem} {C : Nat → Nat} {f : Nat → Int32} {k l s : Nat} (hk : 1 ≤ k ∧ k ≤ 5) (hl : l < 3) (hs : s < 2147483648) (hC : V r = cf C f) : f_X1_over r (nI k) (nI l) (nI s) V = some (ms V r (cf (ov C (k, l, s)) f)) := by
  unfold f_X1_over
  have e3 : (cp V r r ((3 : Int32)).toNatClampNeg ((0 : Int32)).toNatClampNeg ((3 : Int32)).toNatClampNeg) = ms V r (cf (rsm C) f) := by
    show cp V r r 3 0 3 = _
    rw [cp_ms, hC]
    congr 1
    funext x
    unfold va_cpy cf rsm
    by_cases h : 0 ≤ x ∧ x < 0 + 3
    · rw [if_pos h, if_pos (by omega), if_pos (by omega), if_pos (by omega)]
      congr 2
      omega
    · rw [if_neg h, if_neg (show ¬ x < 3 by omega)]
  have e5 : (cp V r r ((0 : Int32)).toNatClampNeg ((3 : Int32)).toNatClampNeg ((3 : Int32)).toNatClampNeg) = ms V r (cf (kpt C) f) := by
    show cp V r r 0 3 3 = _
    rw [cp_ms, hC]
    congr 1
    funext x
    unfold va_cpy cf kpt
    by_cases h : 3 ≤ x ∧ x < 3 + 3
    · rw [if_pos h, if_pos (show 0 + (x - 3) < 6 by omega), if_pos (show x < 6 by omega), if_neg (by omega), if_pos (by omega)]
      congr 2
      omega
    · rw [if_neg h]
      by_cases h6 : x < 6
      · rw [if_pos h6, if_pos h6, if_pos (by omega)]
      · rw [if_neg h6, if_neg h6]
  have b6 : ib (nI l) 6 = true := ibt (by omega) (by omega)
  rcases (show k = 1 ∨ k = 2 ∨ k = 3 ∨ k = 4 ∨ k = 5 by omega) with rfl | rfl | rfl | rfl | rfl
  · rw [if_pos (show nI 1 = (1 : Int32) from rfl), if_pos b6, ncl (by omega), hC]
    have : cf C f l = nI (C l) := if_pos (by omega)
    rw [this, li, nad, standAt_cf hl hC]
    rfl
  · rw [if_neg (show ¬ nI 2 = (1 : Int32) by decide), if_pos (show nI 2 = (2 : Int32) from rfl), standAt_cf hl hC]
    rfl
  · rw [if_neg (show ¬ nI 3 = (1 : Int32) by decide), if_neg (show ¬ nI 3 = (2 : Int32) by decide), if_pos (show nI 3 = (3 : Int32) from rfl), if_pos (by decide), if_pos b6, e3, ncl (by omega), ms_eq]
    have : cf (rsm C) f l = nI (rsm C l) := if_pos (by omega)
    rw [this, li, nad, standAt_cf (C := rsm C) (f := f) hl ms_eq, ms_ms]
    rfl
  · rw [if_neg (show ¬ nI 4 = (1 : Int32) by decide), if_neg (show ¬ nI 4 = (2 : Int32) by decide), if_neg (show ¬ nI 4 = (3 : Int32) by decide), if_pos (show nI 4 = (4 : Int32) from rfl)]
    congr 1
    funext a
    by_cases h : a = r
    · subst h; rw [ms_eq, hC]; rfl
    · rw [ms_id h]
  · rw [if_neg (show ¬ nI 5 = (1 : Int32) by decide), if_neg (show ¬ nI 5 = (2 : Int32) by decide), if_neg (show ¬ nI 5 = (3 : Int32) by decide), if_neg (show ¬ nI 5 = (4 : Int32) by decide), if_pos (show nI 5 = (5 : Int32) from rfl), if_pos (by decide), e5]
    have h0 := standAt_cf (r := r) (l := 0) (v := 0) (V := ms V r (cf (kpt C) f)) (C := kpt C) (f := f) (by omega) ms_eq
    have h1 : f_X1_standAt r (0 : Int32) (0 : Int32) (ms V r (cf (kpt C) f)) = _ := h0
    rw [h1, ms_ms]
    show some _ = some _
    congr 2
    congr 1
    funext x
    unfold sA
    show _ = hdc C x
    unfold hdc kpt
    by_cases hx : x = 0
    · rw [if_pos hx, if_pos (by omega)]
    · rw [if_neg hx]
      by_cases h3 : x < 3
      · rw [if_pos ⟨by omega, h3⟩, if_pos h3]
      · rw [if_neg (by omega), if_neg h3, if_neg h3]
end
section
/-! Sheets of the class: what they hold, and the counters ahead of each paragraph. -/
abbrev Pg : Type := Nat × Nat × Nat
abbrev Sh : Type := List Nat × List Pg
def pg (P : List Pg) (k : Nat) : Pg := P.getD k (0, 0, 0)
def cnt (P : List Pg) (k : Nat) : Nat → Nat := (P.take k).foldl ov (fun _ => 0)
def okP (p : Pg) : Prop := 1 ≤ p.1 ∧ p.1 ≤ 5 ∧ p.2.1 ≤ 2 ∧ p.2.2 ≤ 20
def okS (S : Sh) : Prop := S.1.length = 3 ∧ (∀ s, s ∈ S.1 → s ≤ 3) ∧ S.2.length ≤ 24 ∧ ∀ p, p ∈ S.2 → okP p
def ShX (V : Mem) (z : Nat) (S : Sh) : Prop := V z 4 = nI S.2.length ∧ (∀ l, l < 3 → V (z + 1) l = nI (S.1.getD l 0)) ∧ ∀ k, k < S.2.length → V (z + 2) k = nI (pg S.2 k).1 ∧ V (z + 3) k = nI (pg S.2 k).2.1 ∧ V (z + 4) k = nI (pg S.2 k).2.2
/-- lines 0 to m of the cells hold -/
def CM (V : Mem) (z : Nat) (P : List Pg) (m : Nat) : Prop := m ≤ P.length ∧ V z 6 = nI m ∧ ∀ p, p ≤ m → ∀ x, x < 6 → V (z + 5 + 1 + p) x = nI (cnt P p x)
def CI (V : Mem) (z : Nat) (P : List Pg) : Prop := ∃ m, CM V z P m
/-- only the kept counters of sheet z, and how many they are, have changed -/
def FS (z : Nat) (V V' : Mem) : Prop := (∀ a, a ≠ z → (a < z + 6 ∨ z + 30 < a) → V' a = V a) ∧ ∀ k, k ≠ 6 → V' z k = V z k
theorem FS.rf {z : Nat} {V : Mem} : FS z V V := ⟨fun _ _ _ => rfl, fun _ _ => rfl⟩
theorem FS.tr {z : Nat} {V V' V'' : Mem} (h : FS z V V') (h2 : FS z V' V'') : FS z V V'' := ⟨fun a h1 h3 => (h2.1 a h1 h3).trans (h.1 a h1 h3), fun k hk => (h2.2 k hk).trans (h.2 k hk)⟩
theorem pg_ok {P : List Pg} (h : ∀ p, p ∈ P → okP p) {k : Nat} (hk : k < P.length) : okP (pg P k) := by
  unfold pg
  rw [List.getD_eq_getElem?_getD, List.getElem?_eq_getElem hk]
  exact h _ (List.getElem_mem hk)
theorem cnt_succ {P : List Pg} {k : Nat} (hk : k < P.length) : cnt P (k + 1) = ov (cnt P k) (pg P k) := by
  unfold cnt pg
  rw [List.take_succ_eq_append_getElem hk, List.foldl_append, List.getD_eq_getElem?_getD, List.getElem?_eq_getElem hk]
  rfl
theorem cnt_zero {P : List Pg} : cnt P 0 = fun _ => 0 := rfl
theorem ShX.fs {V V' : Mem} {z : Nat} {S : Sh} (h : ShX V z S) (hf : FS z V V') : ShX V' z S := by
  obtain ⟨h1, h2, h3⟩ := h
  refine ⟨by rw [hf.2 4 (by decide)]; exact h1, fun l hl => by rw [hf.1 (z + 1) (by omega) (by omega)]; exact h2 l hl, fun k hk => ?_⟩
  rw [hf.1 (z + 2) (by omega) (by omega), hf.1 (z + 3) (by omega) (by omega), hf.1 (z + 4) (by omega) (by omega)]
  exact h3 k hk
theorem cf_of {V : Mem} {r : Nat} {C : Nat → Nat} (h : ∀ x, x < 6 → V r x = nI (C x)) : V r = cf C (V r) := by
  funext x
  unfold cf
  by_cases hx : x < 6
  · rw [if_pos hx]; exact h x hx
  · rw [if_neg hx]
theorem ahead_loop {z : Nat} {S : Sh} (hok : okS S) {t : Nat} (ht : t ≤ S.2.length) : ∀ (d n m : Nat) (V : Mem), t ≤ m + d → d < n → ShX V z S → CM V z S.2 m →
    ∃ V', f_X3_ahead_13 z n (nI t) V = some (z + 5 + 1 + t, V') ∧ FS z V V' ∧ ∃ m', t ≤ m' ∧ m ≤ m' ∧ CM V' z S.2 m' := by
  have h24 := hok.2.2.1
  intro d
  induction d with
  | zero =>
    intro n m V hd hn hS hC
    obtain ⟨n, rfl⟩ : ∃ n', n = n' + 1 := ⟨n - 1, by omega⟩
    obtain ⟨c1, c2, c3⟩ := id hC
    refine ⟨V, ?_, FS.rf, m, by omega, Nat.le_refl _, hC⟩
    unfold f_X3_ahead_13
    rw [c2, if_pos (by rw [nle (by omega) (by omega)]; omega), if_pos (ibt (by omega) (by omega)), ncl (by omega)]
  | succ d ih =>
    intro n m V hd hn hS hC
    obtain ⟨n, rfl⟩ : ∃ n', n = n' + 1 := ⟨n - 1, by omega⟩
    obtain ⟨c1, c2, c3⟩ := id hC
    by_cases htm : t ≤ m
    · refine ⟨V, ?_, FS.rf, m, htm, Nat.le_refl _, hC⟩
      unfold f_X3_ahead_13
      rw [c2, if_pos (by rw [nle (by omega) (by omega)]; omega), if_pos (ibt (by omega) (by omega)), ncl (by omega)]
    · have hml : m < S.2.length := by omega
      obtain ⟨k1, k2, k3⟩ := hS.2.2 m hml
      have hp := pg_ok hok.2.2.2 hml
      unfold f_X3_ahead_13
      rw [c2, if_neg (by rw [nle (by omega) (by omega)]; omega), li, nad, if_pos (ibt (by omega) (by omega)), if_pos (ibt (by omega) (by omega)), if_pos (by decide), ncl (show m < _ by omega), ncl (show m + 1 < _ by omega)]
      generalize hW : cp V (z + 5 + 1 + m) (z + 5 + 1 + (m + 1)) (Int32.toNatClampNeg 0) (Int32.toNatClampNeg 0) (Int32.toNatClampNeg 6) = W
      have hW : cp V (z + 5 + 1 + m) (z + 5 + 1 + (m + 1)) 0 0 6 = W := hW
      have w6 : W z 6 = nI m := by rw [← hW, cp_id (by omega)]; exact c2
      have w2 : W (z + 2) = V (z + 2) := by rw [← hW, cp_id (by omega)]
      have w3 : W (z + 3) = V (z + 3) := by rw [← hW, cp_id (by omega)]
      have w4 : W (z + 4) = V (z + 4) := by rw [← hW, cp_id (by omega)]
      have wr : ∀ x, x < 6 → W (z + 5 + 1 + (m + 1)) x = nI (cnt S.2 m x) := by
        intro x hx
        rw [← hW, cp_at, if_pos ⟨rfl, by omega, by omega⟩, Nat.zero_add, Nat.sub_zero]
        exact c3 m (Nat.le_refl m) x hx
      rw [w6, if_pos (ibt (by omega) (by omega)), if_pos (ibt (by omega) (by omega)), if_pos (ibt (by omega) (by omega)), ncl (show m < _ by omega), w2, w3, w4, k1, k2, k3,
        over_eq ⟨hp.1, hp.2.1⟩ (by have := hp.2.2.1; omega) (by have := hp.2.2.2; omega) (cf_of wr), Option.bind_some, ms_id (show z ≠ z + 5 + 1 + (m + 1) by omega), w6, nad]
      generalize hV1 : st (ms W (z + 5 + 1 + (m + 1)) (cf (ov (cnt S.2 m) ((pg S.2 m).1, (pg S.2 m).2.1, (pg S.2 m).2.2)) (W (z + 5 + 1 + (m + 1))))) z 6 (nI (m + 1)) = V1
      have hF : FS z V V1 := by
        refine ⟨fun a h1 h2 => ?_, fun k hk => ?_⟩
        · rw [← hV1, st_id h1, ms_id (by omega), ← hW, cp_id (by omega)]
        · rw [← hV1, st_at, if_neg (by omega), ms_id (by omega), ← hW, cp_id (by omega)]
      have hC1 : CM V1 z S.2 (m + 1) := by
        refine ⟨by omega, by rw [← hV1, st_at, if_pos ⟨rfl, rfl⟩], fun p hp2 x hx => ?_⟩
        rw [← hV1, st_id (by omega)]
        by_cases hpm : p = m + 1
        · subst hpm
          rw [ms_eq, cnt_succ hml]
          exact if_pos hx
        · rw [ms_id (by omega), ← hW, cp_id (by omega)]
          exact c3 p (by omega) x hx
      obtain ⟨V', e1, e2, m', e3, e5, e4⟩ := ih n (m + 1) V1 (by omega) (by omega) (hS.fs hF) hC1
      exact ⟨V', e1, hF.tr e2, m', e3, by omega, e4⟩
theorem ahead_m {z : Nat} {S : Sh} {V : Mem} {m : Nat} (hok : okS S) (hS : ShX V z S) (hm : CM V z S.2 m) {t : Nat} (ht : t ≤ S.2.length) :
    ∃ V' m', f_X3_ahead z (nI t) V = some (z + 5 + 1 + t, V') ∧ FS z V V' ∧ t ≤ m' ∧ m ≤ m' ∧ CM V' z S.2 m' := by
  have h24 := hok.2.2.1
  obtain ⟨V', e1, e2, m', e3, e5, e4⟩ := ahead_loop hok ht t 4096 m V (by omega) (by omega) hS hm
  refine ⟨V', m', ?_, e2, e3, e5, e4⟩
  unfold f_X3_ahead
  rw [hS.1]
  have h1 : (if nI S.2.length < nI t then nI S.2.length else nI t) = nI t := if_neg (by rw [nlt (by omega) (by omega)]; omega)
  rw [h1]
  have h2 : (if (0 : Int32) < nI t then nI t else 0) = nI t := by
    by_cases h0 : t = 0
    · subst h0; rfl
    · rw [if_pos (by rw [li, nlt (by omega) (by omega)]; omega)]
  rw [h2]
  exact e1
theorem ahead_eq {z : Nat} {S : Sh} {V : Mem} (hok : okS S) (hS : ShX V z S) (hC : CI V z S.2) {t : Nat} (ht : t ≤ S.2.length) :
    ∃ V', f_X3_ahead z (nI t) V = some (z + 5 + 1 + t, V') ∧ FS z V V' ∧ CI V' z S.2 ∧ ∀ x, x < 6 → V' (z + 5 + 1 + t) x = nI (cnt S.2 t x) := by
  obtain ⟨m, hm⟩ := hC
  obtain ⟨V', m', e1, e2, e3, e5, e4⟩ := ahead_m hok hS hm ht
  exact ⟨V', e1, e2, ⟨m', e4⟩, fun x hx => e4.2.2 t e3 x hx⟩
end
section
/-! What holds between the class's memory V and the reference's U, between calls. -/
def ShM (f : Nat → Int32) (S : Sh) : Prop := f 0 = nI S.2.length ∧ (∀ l, l < 3 → f (1 + l) = nI (S.1.getD l 0)) ∧ ∀ k, k < S.2.length → f (4 + 3 * k) = nI (pg S.2 k).1 ∧ f (4 + 3 * k + 1) = nI (pg S.2 k).2.1 ∧ f (4 + 3 * k + 2) = nI (pg S.2 k).2.2
/-- an act: what it was, place, other place (or style), and the paragraph that it took -/
abbrev Act : Type := Nat × Nat × Nat × Pg
def insS (S : Sh) (k : Nat) (p : Pg) : Sh := (S.1, S.2.take k ++ p :: S.2.drop k)
def rmvS (S : Sh) (k : Nat) : Sh := (S.1, S.2.take k ++ S.2.drop (k + 1))
def setS (S : Sh) (k : Nat) (p : Pg) : Sh := (S.1, S.2.set k p)
def styS (S : Sh) (l v : Nat) : Sh := (S.1.set l v, S.2)
def mvS (S : Sh) (k t : Nat) : Sh := insS (rmvS S k) t (pg S.2 k)
/-- the act is undone -/
def und (S : Sh) (a : Act) : Sh :=
  if a.1 = 0 then rmvS S a.2.1
  else if a.1 = 1 then insS S a.2.1 a.2.2.2
  else if a.1 = 2 then mvS S a.2.2.1 a.2.1
  else if a.1 = 3 then setS S a.2.1 a.2.2.2
  else styS S a.2.1 a.2.2.1
/-- it can be undone on S -/
def vA (S : Sh) (a : Act) : Prop :=
  if a.1 = 0 then a.2.1 < S.2.length ∧ 1 < S.2.length
  else if a.1 = 1 then a.2.1 ≤ S.2.length ∧ S.2.length < 24 ∧ okP a.2.2.2
  else if a.1 = 2 then a.2.2.1 < S.2.length ∧ a.2.1 < S.2.length
  else if a.1 = 3 then a.2.1 < S.2.length ∧ okP a.2.2.2
  else a.1 = 4 ∧ a.2.1 < 3 ∧ a.2.2.1 ≤ 3
/-- acts, the latest first: all can be undone, one behind the other, and what stands in the reference's row of sheets is what comes -/
def AW (U : Mem) : Sh → List Act → Prop
  | _, [] => True
  | S, a :: A => vA S a ∧ ShM (fun j => U 7 (76 * A.length + j)) (und S a) ∧ AW U (und S a) A
def actRow (V : Mem) (i : Nat) (a : Act) : Prop := V i 0 = nI a.1 ∧ V i 1 = nI a.2.1 ∧ V i 2 = nI a.2.2.1 ∧ V i 3 = nI a.2.2.2.1 ∧ V i 4 = nI a.2.2.2.2.1 ∧ V i 5 = nI a.2.2.2.2.2
/-- the ring of acts (the latest first in A) -/
def AV (V : Mem) (A : List Act) : Prop := A.length ≤ 24 ∧ V 67 2 = nI A.length ∧ ∃ o, o < 24 ∧ V 67 1 = nI o ∧ ∀ k, k < A.length → actRow V (69 + (o + (A.length - 1 - k)) % 24) (A.getD k (0, 0, 0, 0, 0, 0))
def RR (V U : Mem) : Prop := ∀ r, r < 8 → V (99 + 2 * r) 1 = U 1 r ∧ (U 1 r = -1 ∨ ∃ l n, l ≤ 2 ∧ n ≤ 40 ∧ U 1 r = nI l ∧ V (99 + 2 * r) 2 = nI n ∧ U 2 r = nI n ∧ ∀ j, j < n → V (99 + 2 * r + 1) j = U 3 (40 * r + j))
def SN (V U : Mem) : Prop := V 0 12 = U 0 1 ∧ V 0 13 = U 0 18
def TP (V U : Mem) : Prop := ∃ n, n ≤ 130 ∧ V 2 1 = nI n ∧ U 0 11 = nI n ∧ ∀ j, j < n → V 3 j = U 8 j ∧ ∃ b, b < 256 ∧ V 3 j = nI b
def TR (V U : Mem) : Prop := ∃ n, n ≤ 16 ∧ V 0 11 = nI n ∧ U 0 29 = nI n ∧ ∀ j, j < n → V 98 j = U 16 j
def SS (V U : Mem) (S : Sh) (A : List Act) : Prop := okS S ∧ ShX V 4 S ∧ CI V 4 S.2 ∧ ShM (U 4) S ∧ AV V A ∧ U 0 9 = nI A.length ∧ AW U S A
def IM (V U : Mem) : Prop := ∀ k, k < 2 → (V (115 + 31 * k) 4 = 0 ∧ U 14 k = 0) ∨ ∃ S, okS S ∧ 0 < S.2.length ∧ ShX V (115 + 31 * k) S ∧ ShM (fun j => U 15 (76 * k + j)) S ∧ U 14 k = 1
def Z0 (V : Mem) : Prop := ∀ x, x < 6 → V 41 x = 0
def Inv (V U : Mem) : Prop := RR V U ∧ SN V U ∧ TP V U ∧ TR V U ∧ (∃ S A, SS V U S A) ∧ IM V U ∧ Z0 V
theorem RR.cg {V U V' U' : Mem} (h : RR V U) (hV : ∀ a, 99 ≤ a → a < 115 → V' a = V a) (h1 : U' 1 = U 1) (h2 : U' 2 = U 2) (h3 : U' 3 = U 3) : RR V' U' := by
  intro r hr
  rw [hV (99 + 2 * r) (by omega) (by omega), hV (99 + 2 * r + 1) (by omega) (by omega), h1, h2, h3]
  exact h r hr
theorem SN.cg {V U V' U' : Mem} (h : SN V U) (a : V' 0 12 = V 0 12) (b : V' 0 13 = V 0 13) (c : U' 0 1 = U 0 1) (d : U' 0 18 = U 0 18) : SN V' U' := ⟨by rw [a, c]; exact h.1, by rw [b, d]; exact h.2⟩
theorem TP.cg {V U V' U' : Mem} (h : TP V U) (a : V' 2 1 = V 2 1) (b : V' 3 = V 3) (c : U' 0 11 = U 0 11) (d : U' 8 = U 8) : TP V' U' := by
  obtain ⟨n, h1, h2, h3, h4⟩ := h
  exact ⟨n, h1, by rw [a]; exact h2, by rw [c]; exact h3, by rw [b, d]; exact h4⟩
theorem TR.cg {V U V' U' : Mem} (h : TR V U) (a : V' 0 11 = V 0 11) (b : V' 98 = V 98) (c : U' 0 29 = U 0 29) (d : U' 16 = U 16) : TR V' U' := by
  obtain ⟨n, h1, h2, h3, h4⟩ := h
  exact ⟨n, h1, by rw [a]; exact h2, by rw [c]; exact h3, by rw [b, d]; exact h4⟩
theorem ShX.cg {V V' : Mem} {z : Nat} {S : Sh} (h : ShX V z S) (a : V' z 4 = V z 4) (b : ∀ k, 1 ≤ k → k ≤ 4 → V' (z + k) = V (z + k)) : ShX V' z S := by
  refine ⟨by rw [a]; exact h.1, ?_, ?_⟩
  · rw [b 1 (by omega) (by omega)]; exact h.2.1
  · rw [b 2 (by omega) (by omega), b 3 (by omega) (by omega), b 4 (by omega) (by omega)]; exact h.2.2
theorem CI.cg {V V' : Mem} {z : Nat} {P : List Pg} (hl : P.length ≤ 24) (h : CI V z P) (a : V' z 6 = V z 6) (b : ∀ k, k ≤ 24 → V' (z + 5 + 1 + k) = V (z + 5 + 1 + k)) : CI V' z P := by
  obtain ⟨m, h1, h2, h3⟩ := h
  exact ⟨m, h1, by rw [a]; exact h2, fun p hp => by rw [b p (by omega)]; exact h3 p hp⟩
theorem AW.cg {U U' : Mem} (h : U' 7 = U 7) : ∀ {A : List Act} {S : Sh}, AW U S A → AW U' S A := by
  intro A
  induction A with
  | nil => intro S _; trivial
  | cons a A ih =>
    intro S hA
    obtain ⟨h1, h2, h3⟩ := hA
    exact ⟨h1, by rw [h]; exact h2, ih h3⟩
theorem AV.cg {V V' : Mem} {A : List Act} (h : AV V A) (a : V' 67 = V 67) (b : ∀ i, i < 24 → V' (69 + i) = V (69 + i)) : AV V' A := by
  obtain ⟨h1, h2, o, h3, h4, h5⟩ := h
  refine ⟨h1, by rw [a]; exact h2, o, h3, by rw [a]; exact h4, fun k hk => ?_⟩
  have h6 := h5 k hk
  have h7 : (o + (A.length - 1 - k)) % 24 < 24 := Nat.mod_lt _ (by decide)
  unfold actRow at h6 ⊢
  rw [b _ h7]
  exact h6
theorem SS.cg {V U V' U' : Mem} {S : Sh} {A : List Act} (h : SS V U S A) (a : ∀ i, 4 ≤ i → i ≤ 34 → V' i = V i) (b : V' 67 = V 67) (c : ∀ i, i < 24 → V' (69 + i) = V (69 + i)) (d : U' 4 = U 4) (e : U' 0 9 = U 0 9) (f : U' 7 = U 7) : SS V' U' S A := by
  obtain ⟨h1, h2, h3, h4, h5, h6, h7⟩ := h
  refine ⟨h1, h2.cg (by rw [a 4 (by omega) (by omega)]) (fun k q1 q2 => a (4 + k) (by omega) (by omega)), h3.cg h1.2.2.1 (by rw [a 4 (by omega) (by omega)]) (fun k q1 => a (4 + 5 + 1 + k) (by omega) (by omega)), by rw [d]; exact h4, h5.cg b c, by rw [e]; exact h6, h7.cg f⟩
theorem IM.cg {V U V' U' : Mem} (h : IM V U) (a : ∀ i, 115 ≤ i → i < 177 → V' i = V i) (b : U' 14 = U 14) (c : U' 15 = U 15) : IM V' U' := by
  intro k hk
  rcases h k hk with h | ⟨S, h1, h2, h3, h4, h5⟩
  · refine Or.inl ?_
    rw [a (115 + 31 * k) (by omega) (by omega), b]
    exact h
  · refine Or.inr ⟨S, h1, h2, h3.cg (by rw [a (115 + 31 * k) (by omega) (by omega)]) (fun j q1 q2 => a (115 + 31 * k + j) (by omega) (by omega)), by rw [c]; exact h4, by rw [b]; exact h5⟩
/-! small callees -/
theorem isBetween_eq (v a b : Int32) (V : Mem) : f_X6_isBetween v a b V = some (if a ≤ v ∧ v ≤ b then 1 else 0, V) := by
  unfold f_X6_isBetween
  by_cases h1 : v < a
  · rw [if_pos h1, if_neg (fun q => Int32.not_le.mpr h1 q.1)]
  · rw [if_neg h1]
    by_cases h2 : b < v
    · rw [if_pos h2, if_neg (fun q => Int32.not_le.mpr h2 q.2)]
    · rw [if_neg h2, if_pos ⟨Int32.not_lt.mp h1, Int32.not_lt.mp h2⟩]
theorem b01 (P : Prop) [Decidable P] : ((if P then (1 : Int32) else 0) &&& 1) = (if P then 1 else 0) := by
  by_cases h : P
  · rw [if_pos h]; decide
  · rw [if_neg h]; decide
theorem b01z (P : Prop) [Decidable P] : ((if P then (1 : Int32) else 0) = 0) ↔ ¬ P := by
  by_cases h : P
  · rw [if_pos h]
    exact ⟨fun q => absurd q (by decide), fun q => absurd h q⟩
  · rw [if_neg h]
    exact ⟨fun _ => h, fun _ => rfl⟩
theorem isRow_eq (v : Int32) (V : Mem) : f_X6_isRow v V = some (if 0 ≤ v ∧ v ≤ 7 then 1 else 0, V) := by
  unfold f_X6_isRow
  rw [isBetween_eq, Option.bind_some, if_pos (b01 _)]
theorem isLevel_eq (v : Int32) (V : Mem) : f_X6_isLevel v V = some (if 0 ≤ v ∧ v ≤ 2 then 1 else 0, V) := by
  unfold f_X6_isLevel
  rw [isBetween_eq, Option.bind_some, if_pos (b01 _)]
theorem in_eq (a b c : Int64) (V : Mem) : f_X7_in a b c V = some (if b ≤ a ∧ a ≤ c then 1 else 0, V) := by
  unfold f_X7_in
  by_cases h1 : b ≤ a
  · rw [if_neg (Int32.not_lt.mpr ((lg_cmp_ge a b).mpr h1))]
    by_cases h2 : a ≤ c
    · rw [if_neg (Int32.not_lt.mpr ((lg_cmp_le a c).mpr h2)), if_pos ⟨h1, h2⟩]
    · rw [if_pos (Int32.not_le.mp (fun q => h2 ((lg_cmp_le a c).mp q))), if_neg (fun q => h2 q.2)]
  · rw [if_pos (Int32.not_le.mp (fun q => h1 ((lg_cmp_ge a b).mp q))), if_neg (fun q => h1 q.1)]
theorem wle (a b : Int32) : a.toInt64 ≤ b.toInt64 ↔ a ≤ b := by
  rw [Int64.le_iff_toInt_le, Int32.le_iff_toInt_le, Int32.toInt_toInt64, Int32.toInt_toInt64]
theorem inw (a b c : Int32) (V : Mem) : f_X7_in a.toInt64 b.toInt64 c.toInt64 V = some (if b ≤ a ∧ a ≤ c then 1 else 0, V) := by
  rw [in_eq]
  by_cases h : b ≤ a ∧ a ≤ c
  · rw [if_pos h, if_pos ⟨(wle b a).mpr h.1, (wle a c).mpr h.2⟩]
  · rw [if_neg h, if_neg (fun q => h ⟨(wle b a).mp q.1, (wle a c).mp q.2⟩)]
theorem mRow_eq (v : Int32) (V : Mem) : f_X7_isRow v V = some (if 0 ≤ v ∧ v ≤ 7 then 1 else 0, V) := by
  unfold f_X7_isRow
  rw [show (0 : Int64) = (0 : Int32).toInt64 from rfl, show (7 : Int64) = (7 : Int32).toInt64 from rfl, inw, Option.bind_some, if_pos (b01 _)]
/-- a number between 0 and n - 1 -/
theorem btw {x : Int32} {n : Nat} (hn : n < 2147483647) (h : 0 ≤ x ∧ x ≤ nI n) : ∃ j, j ≤ n ∧ x = nI j := by
  rcases rng x (n + 1) (by omega) with ⟨j, h1, h2⟩ | h1 | h1
  · exact ⟨j, by omega, h2⟩
  · exact absurd h1 (Int32.not_lt.mpr h.1)
  · exact absurd h.2 (by
      intro q
      have := Int32.le_trans h1 q
      rw [nle (by omega) (by omega)] at this
      omega)
end
section
/-! Rows: row, set, copy, drop; fault, status, trace. -/
theorem inv_mk {V U V' U' : Mem} (h : Inv V U) (hr : RR V' U') (hs : SN V' U') (hV : ∀ a, a ≠ 0 → (a < 99 ∨ 115 ≤ a) → V' a = V a) (h11 : V' 0 11 = V 0 11) (hU : ∀ a, 4 ≤ a → U' a = U a) (u9 : U' 0 9 = U 0 9) (u11 : U' 0 11 = U 0 11) (u29 : U' 0 29 = U 0 29) : Inv V' U' := by
  obtain ⟨g1, g2, g3, g4, ⟨S, A, g5⟩, g6, g7⟩ := h
  refine ⟨hr, hs, g3.cg (by rw [hV 2 (by omega) (by omega)]) (hV 3 (by omega) (by omega)) u11 (hU 8 (by omega)), g4.cg h11 (hV 98 (by omega) (by omega)) u29 (hU 16 (by omega)), ⟨S, A, g5.cg (fun i a b => hV i (by omega) (by omega)) (hV 67 (by omega) (by omega)) (fun i hi => hV (69 + i) (by omega) (by omega)) (hU 4 (by omega)) u9 (hU 7 (by omega))⟩, g6.cg (fun i a b => hV i (by omega) (by omega)) (hU 14 (by omega)) (hU 15 (by omega)), ?_⟩
  intro x hx
  rw [hV 41 (by omega) (by omega)]
  exact g7 x hx
/-- only the reference's 'thrown' has changed -/
theorem inv_t {V U : Mem} {x : Int32} (h : Inv V U) : Inv V (st U 0 0 x) := by
  refine inv_mk h (h.1.cg (fun _ _ _ => rfl) (st_id (by omega)) (st_id (by omega)) (st_id (by omega))) (h.2.1.cg rfl rfl (by rw [st_at, if_neg (by omega)]) (by rw [st_at, if_neg (by omega)])) (fun _ _ _ => rfl) rfl (fun a ha => st_id (by omega)) (by rw [st_at, if_neg (by omega)]) (by rw [st_at, if_neg (by omega)]) (by rw [st_at, if_neg (by omega)])
/-- the finding is told on both sides -/
theorem inv_f {V U U' : Mem} {x : Int32} (h : Inv V U) (hU : ∀ a, a ≠ 0 → U' a = U a) (hk : ∀ k, k ≠ 0 → k ≠ 1 → U' 0 k = U 0 k) (h1 : U' 0 1 = x) : Inv (st V 0 12 x) U' := by
  refine inv_mk h (h.1.cg (fun a q1 q2 => st_id (by omega)) (hU 1 (by omega)) (hU 2 (by omega)) (hU 3 (by omega))) ⟨by rw [st_at, if_pos ⟨rfl, rfl⟩, h1], by rw [st_at, if_neg (by omega), hk 18 (by omega) (by omega)]; exact h.2.1.2⟩ (fun a q1 q2 => st_id q1) (by rw [st_at, if_neg (by omega)]) (fun a q => hU a (by omega)) (hk 9 (by omega) (by omega)) (hk 11 (by omega) (by omega)) (hk 29 (by omega) (by omega))
theorem s_fault : S_fault Inv := by
  intro V U h
  refine ⟨_, _, rfl, rfl, ?_, inv_t h⟩
  show V 0 13 = st U 0 0 0 0 18
  rw [st_at, if_neg (by omega)]
  exact h.2.1.2
theorem s_status : S_status Inv := by
  intro V U h
  refine ⟨_, _, rfl, rfl, ?_, inv_t h⟩
  show V 0 12 = st U 0 0 0 0 1
  rw [st_at, if_neg (by omega)]
  exact h.2.1.1
theorem fill_loop (r : Nat) : ∀ (d n : Nat) (V : Mem) (k : Nat), k + d = 40 → d < n → f_J7_fill_53178_5 n r 0 (nI k) 40 V = some (ms V r (fun x => if k ≤ x ∧ x < 40 then 0 else V r x)) := by
  intro d
  induction d with
  | zero =>
    intro n V k hk hn
    obtain ⟨n, rfl⟩ : ∃ n', n = n' + 1 := ⟨n - 1, by omega⟩
    have hk3 : k = 40 := by omega
    subst hk3
    unfold f_J7_fill_53178_5
    rw [if_pos (by rw [li, nle (by omega) (by omega)]; omega)]
    congr 1
    funext a
    by_cases h : a = r
    · subst h
      rw [ms_eq]
      funext x
      rw [if_neg (by omega)]
    · rw [ms_id h]
  | succ d ih =>
    intro n V k hk hn
    obtain ⟨n, rfl⟩ : ∃ n', n = n' + 1 := ⟨n - 1, by omega⟩
    unfold f_J7_fill_53178_5
    have e1 : nI k + 1 = nI (k + 1) := nI_1 k
    rw [if_neg (by rw [li, nle (by omega) (by omega)]; omega), if_pos (ibt (by omega) (by omega)), e1, ih n _ (k + 1) (by omega) (by omega), ncl (by omega)]
    congr 1
    funext a
    by_cases h : a = r
    · subst h
      rw [ms_eq, ms_eq]
      funext x
      rw [st_at]
      by_cases hx : x = k
      · subst hx
        rw [if_neg (by omega), if_pos ⟨rfl, rfl⟩, if_pos (by omega)]
      · by_cases h1 : k ≤ x ∧ x < 40
        · rw [if_pos h1, if_pos (by omega)]
        · rw [if_neg h1, if_neg (by omega), if_neg (by omega)]
    · rw [ms_id h, ms_id h, st_id h]
theorem become_eq (z : Nat) (a b : Int32) (V : Mem) : f_X2_become z a b V = some (ms (st (st V z 1 a) z 2 b) (z + 1) (fun x => if x < 40 then 0 else V (z + 1) x)) := by
  unfold f_X2_become f_J7_fill_53178
  have h := fill_loop (z + 1) 40 4096 (st (st V z 1 a) z 2 b) 0 (by omega) (by omega)
  rw [show (0 : Int32) = nI 0 from rfl] at h ⊢
  rw [h, Option.bind_some]
  congr 2
  funext x
  by_cases hx : x < 40
  · rw [if_pos (by omega), if_pos hx]
  · rw [if_neg (by omega), if_neg hx, st_id (by omega), st_id (by omega)]
theorem mrow_loop (a : Nat) (x3 : Int32) (ha : a < 8) : ∀ (d n : Nat) (V : Mem) (k : Nat), k + d = 40 → d < n → f_X7_row_65 n (nI a) x3 (nI k) V = some (x3, ms V 3 (fun x => if 40 * a + k ≤ x ∧ x < 40 * a + 40 then 0 else V 3 x)) := by
  intro d
  induction d with
  | zero =>
    intro n V k hk hn
    obtain ⟨n, rfl⟩ : ∃ n', n = n' + 1 := ⟨n - 1, by omega⟩
    have hk3 : k = 40 := by omega
    subst hk3
    unfold f_X7_row_65
    rw [if_pos (by rw [li, nle (by omega) (by omega)]; omega)]
    congr 2
    funext b
    by_cases h : b = 3
    · subst h
      rw [ms_eq]
      funext x
      rw [if_neg (by omega)]
    · rw [ms_id h]
  | succ d ih =>
    intro n V k hk hn
    obtain ⟨n, rfl⟩ : ∃ n', n = n' + 1 := ⟨n - 1, by omega⟩
    unfold f_X7_row_65
    have e1 : nI k + 1 = nI (k + 1) := nI_1 k
    have e2 : (40 : Int32) * nI a + nI k = nI (40 * a + k) := by rw [li, pk_mul, nad]
    rw [if_neg (by rw [li, nle (by omega) (by omega)]; omega), e2, if_pos (ibt (by omega) (by omega)), e1, ih n _ (k + 1) (by omega) (by omega), ncl (by omega)]
    congr 2
    funext b
    by_cases h : b = 3
    · subst h
      rw [ms_eq, ms_eq]
      funext x
      rw [st_at]
      by_cases hx : x = 40 * a + k
      · subst hx
        rw [if_neg (by omega), if_pos ⟨rfl, rfl⟩, if_pos (by omega)]
      · by_cases h1 : 40 * a + k ≤ x ∧ x < 40 * a + 40
        · rw [if_pos h1, if_pos (by omega)]
        · rw [if_neg h1, if_neg (by omega), if_neg (by omega)]
    · rw [ms_id h, ms_id h, st_id h]
theorem s_row : S_row Inv := by
  intro a b c V U h
  unfold f_X6_row f_X7_row
  rw [isRow_eq, mRow_eq, Option.bind_some, Option.bind_some]
  by_cases h1 : 0 ≤ a ∧ a ≤ 7
  · rw [if_neg (fun q => ((b01z _).mp q) h1), if_neg (fun q => ((b01z _).mp q) h1)]
    dsimp only
    rw [isBetween_eq, show (0 : Int64) = (0 : Int32).toInt64 from rfl, show (2 : Int64) = (2 : Int32).toInt64 from rfl, inw, Option.bind_some, Option.bind_some]
    by_cases h2 : 0 ≤ b ∧ b ≤ 2
    · rw [if_neg (fun q => ((b01z _).mp q) h2), if_neg (fun q => ((b01z _).mp q) h2)]
      by_cases h3 : c ≤ 40
      · rw [if_pos h3, if_pos h3]
        by_cases h4 : 0 ≤ c
        · obtain ⟨r, r1, rfl⟩ := btw (n := 7) (by omega) h1
          obtain ⟨l, l1, rfl⟩ := btw (n := 2) (by omega) h2
          obtain ⟨n, n1, rfl⟩ := btw (n := 40) (by omega) ⟨h4, h3⟩
          rw [if_pos h4, if_pos h4, if_pos (ibt (by omega) (by omega)), if_pos (ibt (by omega) (by omega)), if_pos (ibt (by omega) (by omega)), ncl (by omega), become_eq, Option.bind_some]
          have e := mrow_loop r (nI n) (by omega) 40 4096 (st (st (st (st U 0 0 0) 0 1 0) 1 r (nI l)) 2 r (nI n)) 0 (by omega) (by omega)
          have e' : f_X7_row_65 4096 (nI r) (nI n) 0 (st (st (st (st U 0 0 0) 0 1 0) 1 r (nI l)) 2 r (nI n)) = _ := e
          rw [e']
          refine ⟨_, _, rfl, rfl, rfl, ?_⟩
          dsimp only
          refine inv_mk h ?_ ?_ ?_ ?_ ?_ ?_ ?_ ?_
          · intro r' hr'
            obtain ⟨g1, g2⟩ := h.1 r' hr'
            by_cases hrr : r' = r
            · subst hrr
              refine ⟨?_, Or.inr ⟨l, n, l1, n1, ?_, ?_, ?_, ?_⟩⟩
              · simp (disch := omega) only [st_same, st_ne1, st_ne2, ms_ne, ms_same]
              · simp (disch := omega) only [st_same, st_ne1, st_ne2, ms_ne, ms_same]
              · simp (disch := omega) only [st_same, st_ne1, st_ne2, ms_ne, ms_same]
              · simp (disch := omega) only [st_same, st_ne1, st_ne2, ms_ne, ms_same]
              · intro j hj
                simp (disch := omega) only [st_same, st_ne1, st_ne2, ms_ne, ms_same]
                rw [if_pos (by omega), if_pos (by omega)]
            · simp (disch := omega) only [st_same, st_ne1, st_ne2, ms_ne, ms_same]
              refine ⟨g1, ?_⟩
              rcases g2 with g2 | ⟨l', n', p1, p2, p3, p4, p5, p6⟩
              · exact Or.inl g2
              · refine Or.inr ⟨l', n', p1, p2, p3, p4, p5, fun j hj => ?_⟩
                rw [if_neg (by omega)]
                exact p6 j hj
          · refine ⟨?_, ?_⟩
            · simp (disch := omega) only [st_same, st_ne1, st_ne2, ms_ne, ms_same]
            · simp (disch := omega) only [st_same, st_ne1, st_ne2, ms_ne, ms_same]
              exact h.2.1.2
          · intro x q1 q2
            rw [st_id q1, ms_id (by omega), st_id (by omega), st_id (by omega)]
          · simp (disch := omega) only [st_same, st_ne1, st_ne2, ms_ne, ms_same]
          · intro x q
            rw [ms_id (by omega), st_id (by omega), st_id (by omega), st_id (by omega), st_id (by omega)]
          all_goals simp (disch := omega) only [st_same, st_ne1, st_ne2, ms_ne, ms_same]
        · rw [if_neg h4, if_neg h4]
          refine ⟨_, _, rfl, rfl, rfl, ?_⟩
          refine inv_f h (fun x q => ?_) (fun k q1 q2 => ?_) ?_
          · dsimp only
            rw [st_id q, st_id q, st_id q]
          · dsimp only
            simp (disch := omega) only [st_same, st_ne1, st_ne2]
          · dsimp only
            rw [st_same]
      · rw [if_neg h3, if_neg h3]
        exact ⟨_, _, rfl, rfl, rfl, inv_t h⟩
    · rw [if_pos ((b01z _).mpr h2), if_pos ((b01z _).mpr h2)]
      exact ⟨_, _, rfl, rfl, rfl, inv_t h⟩
  · rw [if_pos ((b01z _).mpr h1), if_pos ((b01z _).mpr h1)]
    exact ⟨_, _, rfl, rfl, rfl, inv_t h⟩
end
section
/-! set, drop, copy, feed, trace. -/
theorem nm1 {l : Nat} (h : l < 2147483648) : ¬ nI l = -1 := fun q => absurd (q ▸ nI_pos' h) (by decide)
theorem isMissing_eq (z : Nat) (V : Mem) : f_X2_isMissing z V = some (if V z 1 = -1 then 1 else 0, V) := by
  unfold f_X2_isMissing
  by_cases h : V z 1 = -1
  · rw [if_pos h, if_pos h]
  · rw [if_neg h, if_neg h]
theorem holds_eq (z : Nat) (a b : Int32) (V : Mem) : f_X2_holds z a b V = some (if 0 ≤ a ∧ 0 ≤ b ∧ a ≤ V z 2 - b then 1 else 0, V) := by
  unfold f_X2_holds
  by_cases h1 : a < 0
  · rw [if_pos h1, if_neg (fun q => Int32.not_le.mpr h1 q.1)]
  · rw [if_neg h1]
    by_cases h2 : b < 0
    · rw [if_pos h2, if_neg (fun q => Int32.not_le.mpr h2 q.2.1)]
    · rw [if_neg h2]
      by_cases h3 : V z 2 - b < a
      · rw [if_pos h3, if_neg (fun q => Int32.not_le.mpr h3 q.2.2)]
      · rw [if_neg h3, if_pos ⟨Int32.not_lt.mp h1, Int32.not_lt.mp h2, Int32.not_lt.mp h3⟩]
theorem findingAt_eq (z : Nat) (a b : Int32) (V : Mem) : f_X2_findingAt z a b V = some (if V z 1 = -1 then 1 else if 0 ≤ a ∧ 0 ≤ b ∧ a ≤ V z 2 - b then 0 else 2, V) := by
  unfold f_X2_findingAt
  rw [isMissing_eq, Option.bind_some]
  by_cases h : V z 1 = -1
  · simp [h]
  · rw [if_pos ((b01z _).mpr h)]
    dsimp only
    rw [holds_eq, Option.bind_some]
    by_cases h2 : 0 ≤ a ∧ 0 ≤ b ∧ a ≤ V z 2 - b
    · simp [h, h2]
    · simp [h, h2]
/-- one item of a row is written on both sides -/
theorem inv_item {V U : Mem} (h : Inv V U) {r n j : Nat} (hr : r < 8) (hn : n ≤ 40) (hj : j < n) (hV : V (99 + 2 * r) 2 = nI n) {v : Int32} : Inv (st (st V (99 + 2 * r + 1) j v) 0 12 0) (st (st (st U 0 0 0) 0 1 0) 3 (40 * r + j) v) := by
  refine inv_mk h ?_ ?_ ?_ ?_ ?_ ?_ ?_ ?_
  · intro r' hr'
    obtain ⟨g1, g2⟩ := h.1 r' hr'
    simp (disch := omega) only [st_same, st_ne1, st_ne2]
    refine ⟨g1, ?_⟩
    rcases g2 with g2 | ⟨l', n', p1, p2, p3, p4, p5, p6⟩
    · exact Or.inl g2
    · refine Or.inr ⟨l', n', p1, p2, p3, p4, p5, fun k hk => ?_⟩
      by_cases e : r' = r ∧ k = j
      · obtain ⟨rfl, rfl⟩ := e
        rw [st_same, st_same]
      · rw [st_at, if_neg (by omega), st_at, if_neg (by omega)]
        simp (disch := omega) only [st_ne1]
        exact p6 k hk
  · refine ⟨?_, ?_⟩
    · simp (disch := omega) only [st_same, st_ne1, st_ne2]
    · simp (disch := omega) only [st_same, st_ne1, st_ne2]
      exact h.2.1.2
  · intro x q1 q2
    rw [st_id q1, st_id (by omega)]
  · simp (disch := omega) only [st_same, st_ne1, st_ne2]
  · intro x q
    rw [st_id (by omega), st_id (by omega), st_id (by omega)]
  all_goals simp (disch := omega) only [st_same, st_ne1, st_ne2]
theorem s_set : S_set Inv := by
  intro a b c V U h
  unfold f_X6_set f_X7_set
  rw [isRow_eq, mRow_eq, Option.bind_some, Option.bind_some]
  by_cases h1 : 0 ≤ a ∧ a ≤ 7
  · rw [if_neg (fun q => ((b01z _).mp q) h1), if_neg (fun q => ((b01z _).mp q) h1)]
    dsimp only
    obtain ⟨r, r1, rfl⟩ := btw (n := 7) (by omega) h1
    obtain ⟨g1, g2⟩ := h.1 r (by omega)
    have e8 : ib (nI r) 8 = true := ibt (by omega) (by omega)
    simp (disch := omega) only [if_pos e8, ncl, st_ne1]
    rw [findingAt_eq, Option.bind_some]
    dsimp only
    rcases g2 with g2 | ⟨l, n, p1, p2, p3, p4, p5, p6⟩
    · rw [g1, if_pos g2, g2, if_neg (by decide), if_neg (by decide)]
      refine ⟨_, _, rfl, rfl, rfl, ?_⟩
      refine inv_f h (fun x q => ?_) (fun k q1 q2 => ?_) ?_
      · dsimp only
        rw [st_id q, st_id q, st_id q]
      · dsimp only
        simp (disch := omega) only [st_same, st_ne1, st_ne2]
      · dsimp only
        rw [st_same]
    · have z1 : ¬ V (99 + 2 * r) 1 = -1 := by rw [g1, p3]; exact nm1 (by omega)
      rw [if_neg z1, p3, if_pos (nI_pos' (by omega)), p5, p4, show (0 : Int64) = (0 : Int32).toInt64 from rfl, inw, Option.bind_some]
      by_cases h2 : 0 ≤ b ∧ b ≤ nI n - 1
      · have hc : (if 0 ≤ b ∧ (0 : Int32) ≤ 1 ∧ b ≤ nI n - 1 then (0 : Int32) else 2) = 0 := if_pos ⟨h2.1, by decide, h2.2⟩
        rw [hc, if_pos rfl, if_neg (fun q => ((b01z _).mp q) h2)]
        have hn0 : 0 < n := by
          rcases Nat.eq_zero_or_pos n with e | e
          · subst e
            exact absurd (Int32.le_trans h2.1 h2.2) (by decide)
          · exact e
        have e1 : nI n - 1 = nI (n - 1) := nsb (b := 1) hn0
        rw [e1] at h2
        obtain ⟨j, j1, rfl⟩ := btw (by omega) h2
        have e40 : ib (nI j) 40 = true := ibt (by omega) (by omega)
        have e2 : (40 : Int32) * nI r + nI j = nI (40 * r + j) := by rw [li, pk_mul, nad]
        have e320 : ib (nI (40 * r + j)) 320 = true := ibt (by omega) (by omega)
        unfold f_X2_narrowed
        unfold f_X7_set_99_c3
        simp (disch := omega) only [if_pos e40, e2, if_pos e320, ncl, st_same, st_ne1, p3, g1]
        by_cases c0 : nI l = 0
        · simp only [if_pos c0, Option.bind_some]
          exact ⟨_, _, rfl, rfl, rfl, inv_item h (by omega) p2 (by omega) p4⟩
        · by_cases c1 : nI l = 1
          · simp only [if_neg c0, if_pos c1, Option.bind_some]
            exact ⟨_, _, rfl, rfl, rfl, inv_item h (by omega) p2 (by omega) p4⟩
          · simp only [if_neg c0, if_neg c1, Option.bind_some]
            exact ⟨_, _, rfl, rfl, rfl, inv_item h (by omega) p2 (by omega) p4⟩
      · have hc : (if 0 ≤ b ∧ (0 : Int32) ≤ 1 ∧ b ≤ nI n - 1 then (0 : Int32) else 2) = 2 := if_neg (fun q => h2 ⟨q.1, q.2.2⟩)
        rw [hc, if_neg (by decide), if_pos ((b01z _).mpr h2)]
        refine ⟨_, _, rfl, rfl, rfl, ?_⟩
        refine inv_f h (fun x q => ?_) (fun k q1 q2 => ?_) ?_
        · dsimp only
          rw [st_id q, st_id q, st_id q]
        · dsimp only
          simp (disch := omega) only [st_same, st_ne1, st_ne2]
        · dsimp only
          rw [st_same]
  · rw [if_pos ((b01z _).mpr h1), if_pos ((b01z _).mpr h1)]
    exact ⟨_, _, rfl, rfl, rfl, inv_t h⟩
theorem s_drop : S_drop Inv := by
  intro a V U h
  unfold f_X6_drop f_X7_drop
  rw [isRow_eq, mRow_eq, Option.bind_some, Option.bind_some]
  by_cases h1 : 0 ≤ a ∧ a ≤ 7
  · rw [if_neg (fun q => ((b01z _).mp q) h1), if_neg (fun q => ((b01z _).mp q) h1)]
    dsimp only
    obtain ⟨r, r1, rfl⟩ := btw (n := 7) (by omega) h1
    obtain ⟨g1, g2⟩ := h.1 r (by omega)
    have e8 : ib (nI r) 8 = true := ibt (by omega) (by omega)
    simp (disch := omega) only [if_pos e8, ncl, st_ne1]
    rw [isMissing_eq, Option.bind_some]
    dsimp only
    rcases g2 with g2 | ⟨l, n, p1, p2, p3, p4, p5, p6⟩
    · rw [g1, if_neg (fun q => ((b01z _).mp q) g2), g2, if_neg (by decide)]
      refine ⟨_, _, rfl, rfl, rfl, ?_⟩
      refine inv_f h (fun x q => ?_) (fun k q1 q2 => ?_) ?_
      · dsimp only
        rw [st_id q, st_id q, st_id q]
      · dsimp only
        simp (disch := omega) only [st_same, st_ne1, st_ne2]
      · dsimp only
        rw [st_same]
    · have z1 : ¬ V (99 + 2 * r) 1 = -1 := by rw [g1, p3]; exact nm1 (by omega)
      rw [if_pos ((b01z _).mpr z1), p3, if_pos (nI_pos' (by omega)), become_eq, Option.bind_some]
      refine ⟨_, _, rfl, rfl, ?_, ?_⟩
      · dsimp only
        rw [p4, p5]
      · dsimp only
        refine inv_mk h ?_ ?_ ?_ ?_ ?_ ?_ ?_ ?_
        · intro r' hr'
          obtain ⟨g3, g4⟩ := h.1 r' hr'
          by_cases hrr : r' = r
          · subst hrr
            refine ⟨?_, Or.inl ?_⟩
            · simp (disch := omega) only [st_same, st_ne1, st_ne2, ms_ne, ms_same]
            · simp (disch := omega) only [st_same, st_ne1, st_ne2, ms_ne, ms_same]
          · simp (disch := omega) only [st_same, st_ne1, st_ne2, ms_ne, ms_same]
            exact ⟨g3, g4⟩
        · refine ⟨?_, ?_⟩
          · simp (disch := omega) only [st_same, st_ne1, st_ne2, ms_ne, ms_same]
          · simp (disch := omega) only [st_same, st_ne1, st_ne2, ms_ne, ms_same]
            exact h.2.1.2
        · intro x q1 q2
          rw [st_id q1, ms_id (by omega), st_id (by omega), st_id (by omega)]
        · simp (disch := omega) only [st_same, st_ne1, st_ne2, ms_ne, ms_same]
        · intro x q
          rw [st_id (by omega), st_id (by omega), st_id (by omega)]
        all_goals simp (disch := omega) only [st_same, st_ne1, st_ne2, ms_ne, ms_same]
  · rw [if_pos ((b01z _).mpr h1), if_pos ((b01z _).mpr h1)]
    exact ⟨_, _, rfl, rfl, rfl, inv_t h⟩
theorem s_trace : S_trace Inv := by
  intro a V U h
  obtain ⟨n, n1, n2, n3, n4⟩ := h.2.2.2.1
  unfold f_X6_trace f_X7_trace
  simp (disch := omega) only [st_ne1, st_ne2]
  rw [n2, n3, show (0 : Int64) = (0 : Int32).toInt64 from rfl, inw, Option.bind_some]
  by_cases h1 : a < 0
  · rw [if_pos h1, if_pos ((b01z _).mpr (fun q => Int32.not_le.mpr h1 q.1))]
    exact ⟨_, _, rfl, rfl, rfl, inv_t h⟩
  · rw [if_neg h1]
    by_cases h2 : nI n ≤ a
    · rw [if_pos h2, if_pos ((b01z _).mpr ?_)]
      · exact ⟨_, _, rfl, rfl, rfl, inv_t h⟩
      · intro q
        rcases Nat.eq_zero_or_pos n with e | e
        · subst e
          exact absurd (Int32.le_trans q.1 q.2) (by decide)
        · have e1 : nI n - 1 = nI (n - 1) := nsb (b := 1) e
          have := Int32.le_trans h2 (e1 ▸ q.2)
          rw [nle (by omega) (by omega)] at this
          omega
    · rw [if_neg h2]
      rcases rng a n (by omega) with ⟨j, j1, rfl⟩ | q | q
      · have e1 : nI n - 1 = nI (n - 1) := nsb (b := 1) (by omega)
        rw [if_neg (fun q => ((b01z _).mp q) ⟨nI_pos' (by omega), by rw [e1, nle (by omega) (by omega)]; omega⟩), if_pos (ibt (by omega) (by omega)), if_pos (ibt (by omega) (by omega)), ncl (by omega)]
        refine ⟨_, _, rfl, rfl, ?_, inv_t h⟩
        dsimp only
        rw [st_ne1 (by omega)]
        exact n4 j j1
      · exact absurd q h1
      · exact absurd q h2
end
section
/-! copy, feed. -/
def gu (f : Nat → Int32) (a b k : Nat) : Nat → Int32 := fun x => if b ≤ x ∧ x < b + k then f (a + (x - b)) else f x
def gd (f : Nat → Int32) (a b c k : Nat) : Nat → Int32 := fun x => if b + (c - k) ≤ x ∧ x < b + c then f (a + (x - b)) else f x
theorem gu_step {V : Mem} {a b k : Nat} (h : ¬ (b ≤ a + k ∧ a + k < b + k)) : st (ms V 3 (gu (V 3) a b k)) 3 (b + k) ((ms V 3 (gu (V 3) a b k)) 3 (a + k)) = ms V 3 (gu (V 3) a b (k + 1)) := by
  funext y
  by_cases hy : y = 3
  · subst hy
    funext x
    rw [ms_same, st_at, ms_same, ms_same]
    unfold gu
    by_cases hx : x = b + k
    · subst hx
      rw [if_pos ⟨rfl, rfl⟩, if_neg h, if_pos (by omega)]
      congr 1
      omega
    · rw [if_neg (by omega)]
      by_cases h1 : b ≤ x ∧ x < b + k
      · rw [if_pos h1, if_pos (by omega)]
      · rw [if_neg h1, if_neg (by omega)]
  · rw [st_id hy, ms_id hy, ms_id hy]
theorem gd_step {V : Mem} {a b c k : Nat} (hk : k < c) (h : ¬ (b + (c - k) ≤ a + (c - 1 - k) ∧ a + (c - 1 - k) < b + c)) : st (ms V 3 (gd (V 3) a b c k)) 3 (b + (c - 1 - k)) ((ms V 3 (gd (V 3) a b c k)) 3 (a + (c - 1 - k))) = ms V 3 (gd (V 3) a b c (k + 1)) := by
  funext y
  by_cases hy : y = 3
  · subst hy
    funext x
    rw [ms_same, st_at, ms_same, ms_same]
    unfold gd
    by_cases hx : x = b + (c - 1 - k)
    · subst hx
      rw [if_pos ⟨rfl, rfl⟩, if_neg h, if_pos (by omega)]
      congr 1
      omega
    · rw [if_neg (by omega)]
      by_cases h1 : b + (c - k) ≤ x ∧ x < b + c
      · rw [if_pos h1, if_pos (by omega)]
      · rw [if_neg h1, if_neg (by omega)]
  · rw [st_id hy, ms_id hy, ms_id hy]
theorem copy_up {V : Mem} {a i b j c : Nat} (ha : a < 8) (hb : b < 8) (hi : i + c ≤ 40) (hj : j + c ≤ 40) (hij : j ≤ i) : ∀ (d n k : Nat), k + d = c → d < n →
    f_X7_copy_143 n (nI a) (nI i) (nI b) (nI j) (nI c) 1 (nI k) (ms V 3 (gu (V 3) (40 * a + i) (40 * b + j) k)) = some (nI c, ms V 3 (gu (V 3) (40 * a + i) (40 * b + j) c)) := by
  intro d
  induction d with
  | zero =>
    intro n k hk hn
    obtain ⟨n, rfl⟩ : ∃ n', n = n' + 1 := ⟨n - 1, by omega⟩
    have e : k = c := by omega
    subst e
    unfold f_X7_copy_143
    rw [if_pos (by rw [nle (by omega) (by omega)]; omega)]
  | succ d ih =>
    intro n k hk hn
    obtain ⟨n, rfl⟩ : ∃ n', n = n' + 1 := ⟨n - 1, by omega⟩
    unfold f_X7_copy_143
    have e1 : nI k + 1 = nI (k + 1) := nI_1 k
    have e2 : (40 : Int32) * nI a + nI i + nI k = nI (40 * a + i + k) := by rw [li, pk_mul, nad, nad]
    have e3 : (40 : Int32) * nI b + nI j + nI k = nI (40 * b + j + k) := by rw [li, pk_mul, nad, nad]
    rw [if_neg (by rw [nle (by omega) (by omega)]; omega), if_neg (by decide)]
    unfold f_X7_copy_167
    rw [e2, e3, if_pos (ibt (by omega) (by omega)), if_pos (ibt (by omega) (by omega)), ncl (by omega), ncl (by omega), e1, gu_step (by omega)]
    exact ih n (k + 1) (by omega) (by omega)
theorem copy_down {V : Mem} {a i b j c : Nat} (ha : a < 8) (hb : b < 8) (hi : i + c ≤ 40) (hj : j + c ≤ 40) (hij : i < j) : ∀ (d n k : Nat), k + d = c → d < n →
    f_X7_copy_143 n (nI a) (nI i) (nI b) (nI j) (nI c) 0 (nI k) (ms V 3 (gd (V 3) (40 * a + i) (40 * b + j) c k)) = some (nI c, ms V 3 (gd (V 3) (40 * a + i) (40 * b + j) c c)) := by
  intro d
  induction d with
  | zero =>
    intro n k hk hn
    obtain ⟨n, rfl⟩ : ∃ n', n = n' + 1 := ⟨n - 1, by omega⟩
    have e : k = c := by omega
    subst e
    unfold f_X7_copy_143
    rw [if_pos (by rw [nle (by omega) (by omega)]; omega)]
  | succ d ih =>
    intro n k hk hn
    obtain ⟨n, rfl⟩ : ∃ n', n = n' + 1 := ⟨n - 1, by omega⟩
    unfold f_X7_copy_143
    have e0 : nI c - 1 - nI k = nI (c - 1 - k) := by rw [li, nsb (by omega), nsb (by omega)]
    have e1 : nI k + 1 = nI (k + 1) := nI_1 k
    have e2 : (40 : Int32) * nI a + nI i + nI (c - 1 - k) = nI (40 * a + i + (c - 1 - k)) := by rw [li, pk_mul, nad, nad]
    have e3 : (40 : Int32) * nI b + nI j + nI (c - 1 - k) = nI (40 * b + j + (c - 1 - k)) := by rw [li, pk_mul, nad, nad]
    rw [if_neg (by rw [nle (by omega) (by omega)]; omega), if_pos rfl]
    unfold f_X7_copy_167
    rw [e0, e2, e3, if_pos (ibt (by omega) (by omega)), if_pos (ibt (by omega) (by omega)), ncl (by omega), ncl (by omega), e1, gd_step (by omega) (by omega)]
    exact ih n (k + 1) (by omega) (by omega)
theorem copy_any {V : Mem} {a i b j c : Nat} (ha : a < 8) (hb : b < 8) (hi : i + c ≤ 40) (hj : j + c ≤ 40) :
    (if nI i < nI j then f_X7_copy_138 (nI a) (nI i) (nI b) (nI j) (nI c) 0 V else f_X7_copy_138 (nI a) (nI i) (nI b) (nI j) (nI c) 1 V) = some (nI c, ms V 3 (gu (V 3) (40 * a + i) (40 * b + j) c)) := by
  by_cases h : i < j
  · rw [if_pos ((nlt (by omega) (by omega)).mpr h)]
    unfold f_X7_copy_138
    have e := copy_down (V := V) ha hb hi hj h c 4096 0 (by omega) (by omega)
    have e0 : ms V 3 (gd (V 3) (40 * a + i) (40 * b + j) c 0) = V := by
      funext y
      by_cases hy : y = 3
      · subst hy
        rw [ms_eq]
        funext x
        unfold gd
        rw [if_neg (by omega)]
      · rw [ms_id hy]
    rw [e0] at e
    rw [show (0 : Int32) = nI 0 from rfl] at e ⊢
    rw [e]
    congr 3
    funext x
    unfold gd gu
    by_cases hx : 40 * b + j ≤ x ∧ x < 40 * b + j + c
    · rw [if_pos (by omega), if_pos hx]
    · rw [if_neg (by omega), if_neg hx]
  · rw [if_neg (fun q => h ((nlt (by omega) (by omega)).mp q))]
    unfold f_X7_copy_138
    have e := copy_up (V := V) ha hb hi hj (by omega) c 4096 0 (by omega) (by omega)
    have e0 : ms V 3 (gu (V 3) (40 * a + i) (40 * b + j) 0) = V := by
      funext y
      by_cases hy : y = 3
      · subst hy
        rw [ms_eq]
        funext x
        unfold gu
        rw [if_neg (by omega)]
      · rw [ms_id hy]
    rw [e0] at e
    rw [show (0 : Int32) = nI 0 from rfl]
    exact e
/-- i and n are places of a row of m -/
theorem hold_iff {x y : Int32} {m : Nat} (hm : m ≤ 40) : (0 ≤ x ∧ 0 ≤ y ∧ x ≤ nI m - y) ↔ ∃ i c, x = nI i ∧ y = nI c ∧ i + c ≤ m := by
  constructor
  · rintro ⟨h1, h2, h3⟩
    obtain ⟨i, i1, rfl⟩ := nI_of (Int32.not_lt.mpr h1)
    obtain ⟨c, c1, rfl⟩ := nI_of (Int32.not_lt.mpr h2)
    refine ⟨i, c, rfl, rfl, ?_⟩
    rw [Int32.le_iff_toInt_le, nI_toInt (by omega)] at h3
    have e : (nI m - nI c).toInt = (m : Int) - c := by
      rw [Int32.toInt_sub, nI_toInt (by omega), nI_toInt (by omega)]
      exact Int.bmod_eq_of_le (by omega) (by omega)
    rw [e] at h3
    omega
  · rintro ⟨i, c, rfl, rfl, h⟩
    refine ⟨nI_pos' (by omega), nI_pos' (by omega), ?_⟩
    rw [nsb (by omega), nle (by omega) (by omega)]
    omega
theorem l64 {i c : Nat} (hi : i < 2147483648) (hc : c < 2147483648) : (nI i).toInt64 + (nI c).toInt64 = lN (i + c) := by
  rw [nI_l hi, nI_l hc, lN_add]
theorem cmp_le {i m : Nat} (hi : i < 9223372036854775808) (hm : m < 9223372036854775808) : (lg_cmp (lN i) (lN m) ≤ 0) ↔ i ≤ m := by
  rw [lg_cmp_le, pk_lLE hi hm]
theorem cmp_gt {i m : Nat} (hi : i < 9223372036854775808) (hm : m < 9223372036854775808) : (0 < lg_cmp (lN i) (lN m)) ↔ m < i := by
  rw [← Int32.not_le, cmp_le hi hm]
  omega
theorem inv_fnd {V U : Mem} {x : Int32} (h : Inv V U) : Inv (st V 0 12 x) (st (st (st U 0 0 0) 0 1 0) 0 1 x) := by
  refine inv_f h (fun a q => ?_) (fun k q1 q2 => ?_) ?_
  · rw [st_id q, st_id q, st_id q]
  · simp (disch := omega) only [st_same, st_ne1, st_ne2]
  · rw [st_same]
end
section
theorem s_copy : S_copy Inv := by
  intro a i b j n V U h
  unfold f_X6_copy f_X7_copy
  rw [isRow_eq, mRow_eq, Option.bind_some, Option.bind_some]
  by_cases h1 : 0 ≤ a ∧ a ≤ 7
  · rw [if_neg (fun q => ((b01z _).mp q) h1), if_neg (fun q => ((b01z _).mp q) h1)]
    dsimp only
    rw [isRow_eq, mRow_eq, Option.bind_some, Option.bind_some]
    by_cases h2 : 0 ≤ b ∧ b ≤ 7
    · rw [if_neg (fun q => ((b01z _).mp q) h2), if_neg (fun q => ((b01z _).mp q) h2)]
      dsimp only
      obtain ⟨ra, ra1, rfl⟩ := btw (n := 7) (by omega) h1
      obtain ⟨rb, rb1, rfl⟩ := btw (n := 7) (by omega) h2
      obtain ⟨ga, ga2⟩ := h.1 ra (by omega)
      obtain ⟨gb, gb2⟩ := h.1 rb (by omega)
      have ea : ib (nI ra) 8 = true := ibt (by omega) (by omega)
      have eb : ib (nI rb) 8 = true := ibt (by omega) (by omega)
      have cra : (nI ra).toNatClampNeg = ra := ncl (by omega)
      have crb : (nI rb).toNatClampNeg = rb := ncl (by omega)
      have s1 : ∀ y, st (st U 0 0 0) 0 1 0 1 y = U 1 y := fun y => by simp (disch := omega) only [st_ne1]
      have s2 : ∀ y, st (st U 0 0 0) 0 1 0 2 y = U 2 y := fun y => by simp (disch := omega) only [st_ne1]
      simp only [if_pos ea, if_pos eb, cra, crb, s1, s2]
      rw [isMissing_eq, Option.bind_some]
      dsimp only
      rcases ga2 with ga2 | ⟨la, na, a1, a2, a3, a4, a5, a6⟩
      · rw [ga, if_neg (fun q => ((b01z _).mp q) ga2), ga2, if_pos (by decide)]
        exact ⟨_, _, rfl, rfl, rfl, inv_fnd h⟩
      · have za : ¬ V (99 + 2 * ra) 1 = -1 := by rw [ga, a3]; exact nm1 (by omega)
        rw [if_pos ((b01z _).mpr za), a3, if_neg (Int32.not_lt.mpr (nI_pos' (by omega))), isMissing_eq, Option.bind_some]
        dsimp only
        rcases gb2 with gb2 | ⟨lb, nb, b1, b2, b3, b4, b5, b6⟩
        · rw [if_neg (fun q => ((b01z _).mp q) (gb.trans gb2)), if_neg (by rw [gb2]; decide)]
          exact ⟨_, _, rfl, rfl, rfl, inv_fnd h⟩
        · have zb : ¬ V (99 + 2 * rb) 1 = -1 := by rw [gb, b3]; exact nm1 (by omega)
          have hll : (V (99 + 2 * ra) 1 = V (99 + 2 * rb) 1) ↔ nI la = nI lb := by rw [ga, gb, a3, b3]
          rw [if_pos ((b01z _).mpr zb), b3, if_pos (nI_pos' (by omega))]
          by_cases hl : nI la = nI lb
          · rw [if_pos (hll.mpr hl), if_pos hl, holds_eq, a4, a5, b5, Option.bind_some]
            by_cases hA : 0 ≤ i ∧ 0 ≤ n ∧ i ≤ nI na - n
            · rw [if_neg (fun q => ((b01z _).mp q) hA)]
              dsimp only
              rw [holds_eq, b4, Option.bind_some]
              by_cases hB : 0 ≤ j ∧ 0 ≤ n ∧ j ≤ nI nb - n
              · rw [if_neg (fun q => ((b01z _).mp q) hB)]
                obtain ⟨i, c, rfl, rfl, hic⟩ := (hold_iff a2).mp hA
                obtain ⟨j, c', rfl, ec, hjc⟩ := (hold_iff b2).mp hB
                have hcl : c < 2147483648 ∨ 2147483648 ≤ c := by omega
                have ecc : c' = c := by
                  have h3 := hA.2.2
                  have : c < 2147483648 := by omega
                  rw [neq (by omega) (by omega)] at ec
                  omega
                subst ecc
                rw [if_pos (cokn (by omega) (by omega) (by omega) (by omega) (by omega)), if_neg (Int32.not_lt.mpr hA.1), if_neg (Int32.not_lt.mpr hB.1), if_neg (Int32.not_lt.mpr hA.2.1), l64 (by omega) (by omega), l64 (by omega) (by omega), nI_l (by omega), nI_l (by omega)]
                rw [if_neg (show ¬ 0 < lg_cmp (lN (i + c')) (lN na) by rw [cmp_gt (by omega) (by omega)]; omega), if_pos ((cmp_le (by omega) (by omega)).mpr hjc), copy_any (by omega) (by omega) (by omega) (by omega), ncl (by omega), ncl (by omega), ncl (by omega)]
                refine ⟨_, _, rfl, rfl, rfl, ?_⟩
                dsimp only
                refine inv_mk h ?_ ?_ ?_ ?_ ?_ ?_ ?_ ?_
                · intro r' hr'
                  obtain ⟨g1, g2⟩ := h.1 r' hr'
                  simp (disch := omega) only [st_same, st_ne1, st_ne2, ms_ne, ms_same, cp_ne]
                  refine ⟨g1, ?_⟩
                  rcases g2 with g2 | ⟨l', n', p1, p2, p3, p4, p5, p6⟩
                  · exact Or.inl g2
                  · refine Or.inr ⟨l', n', p1, p2, p3, p4, p5, fun k hk => ?_⟩
                    have s3 : ∀ y, st (st U 0 0 0) 0 1 0 3 y = U 3 y := fun y => by simp (disch := omega) only [st_ne1]
                    rw [cp_at]
                    unfold gu
                    rw [s3, s3]
                    by_cases e : r' = rb ∧ j ≤ k ∧ k < j + c'
                    · obtain ⟨rfl, e1, e2⟩ := e
                      rw [if_pos ⟨rfl, e1, e2⟩, if_pos (by omega), a6 _ (by omega)]
                      congr 1
                      omega
                    · rw [if_neg (by omega), if_neg (by omega)]
                      exact p6 k hk
                · refine ⟨?_, ?_⟩
                  · simp (disch := omega) only [st_same, st_ne1, st_ne2, ms_ne, ms_same]
                  · simp (disch := omega) only [st_same, st_ne1, st_ne2, ms_ne, ms_same, cp_ne]
                    exact h.2.1.2
                · intro x q1 q2
                  rw [st_id q1, cp_id (by omega)]
                · simp (disch := omega) only [st_same, st_ne1, st_ne2, ms_ne, ms_same, cp_ne]
                · intro x q
                  rw [ms_id (by omega), st_id (by omega), st_id (by omega)]
                all_goals simp (disch := omega) only [st_same, st_ne1, st_ne2, ms_ne, ms_same]
              · rw [if_pos ((b01z _).mpr hB)]
                obtain ⟨i, c, rfl, rfl, hic⟩ := (hold_iff a2).mp hA
                have hM : ∀ X : Option (Int32 × Mem), (if j < 0 then f_X7_copy_121 (st (st U 0 0 0) 0 1 0) else if nI c < 0 then f_X7_copy_121 (st (st U 0 0 0) 0 1 0) else if 0 < lg_cmp ((nI i).toInt64 + (nI c).toInt64) (nI na).toInt64 then f_X7_copy_121 (st (st U 0 0 0) 0 1 0) else if lg_cmp (j.toInt64 + (nI c).toInt64) (nI nb).toInt64 ≤ 0 then X else f_X7_copy_121 (st (st U 0 0 0) 0 1 0)) = f_X7_copy_121 (st (st U 0 0 0) 0 1 0) := by
                  intro X
                  by_cases q1 : j < 0
                  · rw [if_pos q1]
                  · rw [if_neg q1, if_neg (Int32.not_lt.mpr hA.2.1), l64 (by omega) (by omega), nI_l (by omega), if_neg (fun q => by rw [cmp_gt (by omega) (by omega)] at q; omega)]
                    obtain ⟨j, j1, rfl⟩ := nI_of q1
                    rw [l64 (by omega) (by omega), nI_l (by omega), if_neg (fun q => by
                      rw [cmp_le (by omega) (by omega)] at q
                      exact hB ((hold_iff b2).mpr ⟨j, c, rfl, rfl, q⟩))]
                rw [if_neg (Int32.not_lt.mpr hA.1), hM]
                exact ⟨_, _, rfl, rfl, rfl, inv_fnd h⟩
            · rw [if_pos ((b01z _).mpr hA)]
              have hM : ∀ X : Option (Int32 × Mem), (if i < 0 then f_X7_copy_121 (st (st U 0 0 0) 0 1 0) else if j < 0 then f_X7_copy_121 (st (st U 0 0 0) 0 1 0) else if n < 0 then f_X7_copy_121 (st (st U 0 0 0) 0 1 0) else if 0 < lg_cmp (i.toInt64 + n.toInt64) (nI na).toInt64 then f_X7_copy_121 (st (st U 0 0 0) 0 1 0) else X) = f_X7_copy_121 (st (st U 0 0 0) 0 1 0) := by
                intro X
                by_cases q1 : i < 0
                · rw [if_pos q1]
                · rw [if_neg q1]
                  by_cases q2 : j < 0
                  · rw [if_pos q2]
                  · rw [if_neg q2]
                    by_cases q3 : n < 0
                    · rw [if_pos q3]
                    · rw [if_neg q3]
                      obtain ⟨i, i1, rfl⟩ := nI_of q1
                      obtain ⟨n, n1, rfl⟩ := nI_of q3
                      rw [l64 (by omega) (by omega), nI_l (by omega), if_pos ((cmp_gt (by omega) (by omega)).mpr (Nat.lt_of_not_le (fun q => hA ((hold_iff a2).mpr ⟨i, n, rfl, rfl, q⟩))))]
              rw [hM]
              exact ⟨_, _, rfl, rfl, rfl, inv_fnd h⟩
          · rw [if_neg (fun q => hl (hll.mp q)), if_neg hl]
            exact ⟨_, _, rfl, rfl, rfl, inv_fnd h⟩
    · rw [if_pos ((b01z _).mpr h2), if_pos ((b01z _).mpr h2)]
      exact ⟨_, _, rfl, rfl, rfl, inv_t h⟩
  · rw [if_pos ((b01z _).mpr h1), if_pos ((b01z _).mpr h1)]
    exact ⟨_, _, rfl, rfl, rfl, inv_t h⟩
theorem s_feed : S_feed Inv := by
  intro a V U h
  obtain ⟨n, n1, n2, n3, n4⟩ := h.2.2.1
  unfold f_X6_feed f_X7_feed
  rw [isBetween_eq, show (0 : Int64) = (0 : Int32).toInt64 from rfl, show (255 : Int64) = (255 : Int32).toInt64 from rfl, inw, Option.bind_some, Option.bind_some]
  by_cases h1 : 0 ≤ a ∧ a ≤ 255
  · rw [if_neg (fun q => ((b01z _).mp q) h1), if_neg (fun q => ((b01z _).mp q) h1)]
    dsimp only
    obtain ⟨b, b1, rfl⟩ := btw (n := 255) (by omega) h1
    have s11 : st U 0 0 0 0 11 = U 0 11 := st_ne2 (by omega)
    simp only [s11, n2, n3]
    by_cases hn : n = 130
    · subst hn
      rw [if_neg (by decide), if_pos (by decide)]
      exact ⟨_, _, rfl, rfl, rfl, inv_t h⟩
    · have e1 : ib (nI n) 130 = true := ibt (by omega) (by omega)
      have l1 : nI n < 130 := by rw [li, nlt (by omega) (by omega)]; omega
      have l2 : ¬ nI n = 130 := by rw [li, neq (by omega) (by omega)]; omega
      have l3 : (nI n).toNatClampNeg = n := ncl (by omega)
      simp only [if_pos l1, if_neg l2, if_pos e1, l3]
      have t1 : st V 3 n (nI b) 2 1 = nI n := by rw [st_ne1 (by omega)]; exact n2
      have t2 : st (st U 0 0 0) 8 n (nI b) 0 11 = nI n := by rw [st_ne1 (by omega), st_ne2 (by omega)]; exact n3
      rw [t1, t2]
      refine ⟨_, _, rfl, rfl, ?_, ?_⟩
      · dsimp only
        rw [st_same, st_same]
      · dsimp only
        obtain ⟨g1, g2, g3, g4, ⟨S, A, g5⟩, g6, g7⟩ := h
        have e2 : nI n + 1 = nI (n + 1) := nI_1 n
        rw [e2]
        have hV : ∀ y, y ≠ 2 → y ≠ 3 → st (st V 3 n (nI b)) 2 1 (nI (n + 1)) y = V y := fun y q1 q2 => by rw [st_id q1, st_id q2]
        have hU : ∀ y, y ≠ 0 → y ≠ 8 → st (st (st U 0 0 0) 8 n (nI b)) 0 11 (nI (n + 1)) y = U y := fun y q1 q2 => by rw [st_id q1, st_id q2, st_id q1]
        have hU0 : ∀ k, k ≠ 0 → k ≠ 11 → st (st (st U 0 0 0) 8 n (nI b)) 0 11 (nI (n + 1)) 0 k = U 0 k := fun k q1 q2 => by rw [st_ne2 q2, st_ne1 (by omega), st_ne2 q1]
        refine ⟨g1.cg (fun y q1 q2 => hV y (by omega) (by omega)) (hU 1 (by omega) (by omega)) (hU 2 (by omega) (by omega)) (hU 3 (by omega) (by omega)), g2.cg (by rw [hV 0 (by omega) (by omega)]) (by rw [hV 0 (by omega) (by omega)]) (hU0 1 (by omega) (by omega)) (hU0 18 (by omega) (by omega)), ?_, g4.cg (by rw [hV 0 (by omega) (by omega)]) (hV 98 (by omega) (by omega)) (hU0 29 (by omega) (by omega)) (hU 16 (by omega) (by omega)), ⟨S, A, g5.cg (fun i q1 q2 => hV i (by omega) (by omega)) (hV 67 (by omega) (by omega)) (fun i hi => hV (69 + i) (by omega) (by omega)) (hU 4 (by omega) (by omega)) (hU0 9 (by omega) (by omega)) (hU 7 (by omega) (by omega))⟩, g6.cg (fun i q1 q2 => hV i (by omega) (by omega)) (hU 14 (by omega) (by omega)) (hU 15 (by omega) (by omega)), ?_⟩
        · refine ⟨n + 1, by omega, st_same, st_same, fun j hj => ?_⟩
          rw [st_ne1 (show (3 : Nat) ≠ 2 by omega), st_ne1 (show (8 : Nat) ≠ 0 by omega)]
          by_cases e : j = n
          · subst e
            rw [st_same, st_same]
            exact ⟨rfl, b, by omega, rfl⟩
          · rw [st_ne2 e, st_ne2 e, st_ne1 (by omega)]
            exact n4 j (by omega)
        · intro y hy
          rw [hV 41 (by omega) (by omega)]
          exact g7 y hy
  · rw [if_pos ((b01z _).mpr h1), if_pos ((b01z _).mpr h1)]
    exact ⟨_, _, rfl, rfl, rfl, inv_t h⟩
end
section
/-! The reference's counters: source and amount in one number, as the class has them. -/
def sf (C : Nat → Nat) (f : Nat → Int32) : Nat → Int32 := fun x => if x < 6 then nI (C x / 1000) - 1 else f x
def af (C : Nat → Nat) (f : Nat → Int32) : Nat → Int32 := fun x => if x < 6 then nI (C x % 1000) else f x
def mc (U : Mem) (C : Nat → Nat) : Mem := ms (ms U 9 (sf C (U 9))) 10 (af C (U 10))
theorem mc_id {U : Mem} {C : Nat → Nat} {a : Nat} (h1 : a ≠ 9) (h2 : a ≠ 10) : mc U C a = U a := by
  unfold mc
  rw [ms_id h2, ms_id h1]
theorem mc_9 {U : Mem} {C : Nat → Nat} : mc U C 9 = sf C (U 9) := by
  unfold mc
  rw [ms_id (by decide), ms_eq]
theorem mc_10 {U : Mem} {C : Nat → Nat} : mc U C 10 = af C (U 10) := by
  unfold mc
  rw [ms_eq]
theorem mem_ext {V W : Mem} (h : ∀ a b, V a b = W a b) : V = W := funext fun a => funext fun b => h a b
theorem mc_ext {U V : Mem} {C : Nat → Nat} (h0 : ∀ a, a ≠ 9 → a ≠ 10 → V a = U a) (h9 : ∀ x, V 9 x = sf C (U 9) x) (h10 : ∀ x, V 10 x = af C (U 10) x) : V = mc U C := by
  funext a
  by_cases e9 : a = 9
  · subst e9; rw [mc_9]; funext x; exact h9 x
  · by_cases e10 : a = 10
    · subst e10; rw [mc_10]; funext x; exact h10 x
    · rw [mc_id e9 e10]; exact h0 a e9 e10
def uC (C : Nat → Nat) (k v : Nat) : Nat → Nat := fun x => if x = k then v else C x
theorem become_mc {U : Mem} {C : Nat → Nat} {x s a : Nat} (hx : x < 6) (ha : a < 1000) : f_X7_become (nI x) (nI s - 1) (nI a) (mc U C) = some (mc U (uC C x (1000 * s + a))) := by
  unfold f_X7_become
  rw [if_pos (ibt hx (by omega)), if_pos (ibt hx (by omega)), ncl (by omega)]
  congr 1
  refine mc_ext (fun b h9 h10 => ?_) (fun y => ?_) (fun y => ?_)
  · rw [st_id h10, st_id h9, mc_id h9 h10]
  · rw [st_id (by decide), st_at, mc_9]
    unfold sf uC
    by_cases e : y = x
    · subst e
      rw [if_pos ⟨rfl, rfl⟩, if_pos hx, if_pos rfl]
      congr 2
      omega
    · rw [if_neg (fun q => e q.2), if_neg e]
  · rw [st_at, st_id (by decide), mc_10]
    unfold af uC
    by_cases e : y = x
    · subst e
      rw [if_pos ⟨rfl, rfl⟩, if_pos hx, if_pos rfl]
      congr 1
      omega
    · rw [if_neg (fun q => e q.2), if_neg e]
theorem become_z {U : Mem} {C : Nat → Nat} {x a : Nat} (hx : x < 6) (ha : a < 1000) : f_X7_become (nI x) (-1) (nI a) (mc U C) = some (mc U (uC C x a)) := by
  have h := become_mc (U := U) (C := C) (x := x) (s := 0) (a := a) hx ha
  rw [show nI 0 - 1 = (-1 : Int32) from by decide] at h
  rw [h]
  congr 3
  omega
theorem p152 {U : Mem} : ∀ (d n k : Nat) (C : Nat → Nat), k + d = 3 → d < n → f_X7_passes_152 n (nI k) (mc U C) = some (mc U (fun x => if k ≤ x ∧ x < 3 then 0 else C x)) := by
  intro d
  induction d with
  | zero =>
    intro n k C hk hn
    obtain ⟨n, rfl⟩ : ∃ n', n = n' + 1 := ⟨n - 1, by omega⟩
    have e : k = 3 := by omega
    subst e
    unfold f_X7_passes_152
    rw [if_pos (by rw [li, nle (by omega) (by omega)]; omega)]
    congr 2
    funext x
    rw [if_neg (by omega)]
  | succ d ih =>
    intro n k C hk hn
    obtain ⟨n, rfl⟩ : ∃ n', n = n' + 1 := ⟨n - 1, by omega⟩
    unfold f_X7_passes_152
    have e1 : nI k + 1 = nI (k + 1) := nI_1 k
    have e2 := become_z (U := U) (C := C) (x := k) (a := 0) (by omega) (by omega)
    rw [if_neg (by rw [li, nle (by omega) (by omega)]; omega), show (0 : Int32) = nI 0 from rfl, e2, Option.bind_some, e1, ih n (k + 1) _ (by omega) (by omega)]
    congr 2
    funext x
    unfold uC
    by_cases hx : x = k
    · subst hx
      rw [if_neg (by omega), if_pos rfl, if_pos (by omega)]
    · by_cases h1 : k ≤ x ∧ x < 3
      · rw [if_pos h1, if_pos (by omega)]
      · rw [if_neg h1, if_neg (by omega), if_neg hx]
theorem p146 {U : Mem} {C : Nat → Nat} {l : Nat} (hl : l < 3) : f_X7_passes_146 (nI l) (mc U C) = some (mc U (fun x => if l < x ∧ x < 3 then 0 else C x)) := by
  unfold f_X7_passes_146
  have e1 : nI l + 1 = nI (l + 1) := nI_1 l
  rw [e1, p152 (2 - l) 4096 (l + 1) C (by omega) (by omega)]
  rfl
theorem inc_mc {U : Mem} {C : Nat → Nat} {l : Nat} (hl : l < 6) (hC : C l % 1000 < 999) : st (mc U C) 10 l (mc U C 10 l + 1) = mc U (uC C l (C l + 1)) := by
  refine mc_ext (fun b h9 h10 => ?_) (fun y => ?_) (fun y => ?_)
  · rw [st_id h10, mc_id h9 h10]
  · rw [st_id (by decide), mc_9]
    unfold sf uC
    by_cases e : y = l
    · subst e
      rw [if_pos hl, if_pos hl, if_pos rfl]
      congr 2
      omega
    · rw [if_neg e]
  · rw [st_at, mc_10]
    unfold af uC
    by_cases e : y = l
    · subst e
      rw [if_pos ⟨rfl, rfl⟩, if_pos hl, if_pos rfl, if_pos hl]
      have : nI (C y % 1000) + 1 = nI (C y % 1000 + 1) := nI_1 _
      rw [this]
      congr 1
      omega
    · rw [if_neg (fun q => e q.2), if_neg e]
theorem of_eq {U : Mem} {r k w : Nat} {S : Sh} (hS : ShM (U r) S) (hk : k < S.2.length) (h24 : S.2.length ≤ 24) (hw : w < 3) : f_X7_of r (nI k) (nI w) U = some (U r (4 + 3 * k + w), U) := by
  unfold f_X7_of
  have e : (4 : Int32) + (3 : Int32) * nI k + nI w = nI (4 + 3 * k + w) := by rw [li, li, pk_mul, nad, nad]
  rw [e, if_pos (ibt (by omega) (by omega)), ncl (by omega)]
theorem p109 {U : Mem} {r k : Nat} {S : Sh} {C : Nat → Nat} (hr : r ≠ 9 ∧ r ≠ 10) (hS : ShM (U r) S) (hok : okS S) (hk : k < S.2.length) (hC : ∀ x, x < 6 → C x % 1000 < 999) {kd : Nat} (h1 : 1 ≤ kd) (h5 : kd ≤ 5) (hs : kd = 2 → (pg S.2 k).1 = 2) :
    f_X7_passes_109 r (nI k) (nI kd) (nI (pg S.2 k).2.1) (mc U C) = some (mc U (if kd = 2 then sA C (pg S.2 k).2.1 (pg S.2 k).2.2 else if 4 ≤ kd then C else sA C (pg S.2 k).2.1 (C (pg S.2 k).2.1 + 1))) := by
  have hp := pg_ok hok.2.2.2 hk
  unfold f_X7_passes_109
  have hl : (pg S.2 k).2.1 < 3 := by have := hp.2.2.1; omega
  have hst : (pg S.2 k).2.2 ≤ 20 := hp.2.2.2
  generalize hL : (pg S.2 k).2.1 = L at hl
  by_cases h4 : 4 ≤ kd
  · rw [if_pos (by rw [li, nle (by omega) (by omega)]; omega), if_neg (by omega), if_pos h4]
  · rw [if_neg (by rw [li, nle (by omega) (by omega)]; omega)]
    by_cases h2 : kd = 2
    · have hS2 : ShM (mc U C r) S := by rw [mc_id hr.1 hr.2]; exact hS
      have e := of_eq (w := 2) hS2 hk hok.2.2.1 (by omega)
      have e' : f_X7_of r (nI k) 2 (mc U C) = _ := e
      rw [if_pos (by rw [li, neq (by omega) (by omega)]; exact h2), e', Option.bind_some]
      dsimp only
      rw [(hS2.2.2 k hk).2.2, become_z (by omega) (by omega), Option.bind_some, p146 hl, if_pos h2]
      congr 2
      funext x
      unfold uC sA
      by_cases hx : x = L
      · rw [if_neg (by omega), if_pos hx, if_pos hx]
      · rw [if_neg hx, if_neg hx]
    · have e6 : ib (nI L) 6 = true := ibt (by omega) (by omega)
      rw [if_neg (by rw [li, neq (by omega) (by omega)]; exact h2), if_pos e6, if_pos e6, ncl (by omega), inc_mc (by omega) (hC L (by omega)), p146 hl, if_neg h2, if_neg h4]
      congr 2
      funext x
      unfold uC sA
      by_cases hx : x = L
      · rw [if_neg (by omega), if_pos hx, if_pos hx]
      · rw [if_neg hx, if_neg hx]
end
section
/-! One paragraph goes over the reference's counters; all of them. -/
def rsl (C : Nat → Nat) (l : Nat) : Nat → Nat := fun x => if x < l then C (x + 3) else C x
def hdl (C : Nat → Nat) (l : Nat) : Nat → Nat := fun x => if x < l then 0 else if 3 ≤ x ∧ x < 3 + l then C (x - 3) else C x
theorem p73 {U : Mem} {r : Nat} {C : Nat → Nat} {xk x3 xl : Int32} : ∀ (d n l : Nat), l + d = 3 → d < n → f_X7_passes_73 n r xk x3 xl (nI l) (mc U (rsl C l)) = f_X7_passes_109 r xk x3 xl (mc U (rsl C 3)) := by
  intro d
  induction d with
  | zero =>
    intro n l hl hn
    obtain ⟨n, rfl⟩ : ∃ n', n = n' + 1 := ⟨n - 1, by omega⟩
    have e : l = 3 := by omega
    subst e
    unfold f_X7_passes_73
    rw [if_pos (by rw [li, nle (by omega) (by omega)]; omega)]
  | succ d ih =>
    intro n l hl hn
    obtain ⟨n, rfl⟩ : ∃ n', n = n' + 1 := ⟨n - 1, by omega⟩
    unfold f_X7_passes_73
    have e1 : nI l + 1 = nI (l + 1) := nI_1 l
    have e2 : (3 : Int32) + nI l = nI (3 + l) := by rw [li, nad]
    have e6 : ib (nI (3 + l)) 6 = true := ibt (by omega) (by omega)
    have e9 : mc U (rsl C l) 9 (3 + l) = nI (C (3 + l + 3 - 3) / 1000) - 1 := by
      rw [mc_9]
      unfold sf rsl
      rw [if_pos (by omega), if_neg (by omega)]
      rfl
    have e10 : mc U (rsl C l) 10 (3 + l) = nI (C (3 + l + 3 - 3) % 1000) := by
      rw [mc_10]
      unfold af rsl
      rw [if_pos (by omega), if_neg (by omega)]
      rfl
    rw [if_neg (by rw [li, nle (by omega) (by omega)]; omega), e2, if_pos e6, if_pos e6, ncl (by omega), e9, e10, become_mc (by omega) (by omega), Option.bind_some, e1]
    rw [show uC (rsl C l) l (1000 * (C (3 + l + 3 - 3) / 1000) + C (3 + l + 3 - 3) % 1000) = rsl C (l + 1) from ?_]
    · exact ih n (l + 1) (by omega) (by omega)
    · funext x
      unfold uC rsl
      by_cases hx : x = l
      · subst hx
        rw [if_pos rfl, if_pos (by omega), Nat.div_add_mod]
        congr 1
        omega
      · rw [if_neg hx]
        by_cases h1 : x < l
        · rw [if_pos h1, if_pos (by omega)]
        · rw [if_neg h1, if_neg (by omega)]
theorem p23 {U : Mem} {r : Nat} {C : Nat → Nat} {xk x3 xl : Int32} : ∀ (d n l : Nat), l + d = 3 → d < n → f_X7_passes_23 n r xk x3 xl (nI l) (mc U (hdl C l)) = f_X7_passes_65 r xk x3 xl (mc U (hdl C 3)) := by
  intro d
  induction d with
  | zero =>
    intro n l hl hn
    obtain ⟨n, rfl⟩ : ∃ n', n = n' + 1 := ⟨n - 1, by omega⟩
    have e : l = 3 := by omega
    subst e
    unfold f_X7_passes_23
    rw [if_pos (by rw [li, nle (by omega) (by omega)]; omega)]
  | succ d ih =>
    intro n l hl hn
    obtain ⟨n, rfl⟩ : ∃ n', n = n' + 1 := ⟨n - 1, by omega⟩
    unfold f_X7_passes_23
    have e1 : nI l + 1 = nI (l + 1) := nI_1 l
    have e2 : (3 : Int32) + nI l = nI (3 + l) := by rw [li, nad]
    have e6 : ib (nI l) 6 = true := ibt (by omega) (by omega)
    have e9 : mc U (hdl C l) 9 l = nI (C l / 1000) - 1 := by
      rw [mc_9]
      unfold sf hdl
      rw [if_pos (by omega), if_neg (by omega), if_neg (by omega)]
    have e10 : mc U (hdl C l) 10 l = nI (C l % 1000) := by
      rw [mc_10]
      unfold af hdl
      rw [if_pos (by omega), if_neg (by omega), if_neg (by omega)]
    rw [if_neg (by rw [li, nle (by omega) (by omega)]; omega), e2, if_pos e6, if_pos e6, ncl (by omega), e9, e10, become_mc (by omega) (by omega), Option.bind_some, show (0 : Int32) = nI 0 from rfl, become_z (by omega) (by omega), Option.bind_some, e1]
    rw [show uC (uC (hdl C l) (3 + l) (1000 * (C l / 1000) + C l % 1000)) l 0 = hdl C (l + 1) from ?_]
    · exact ih n (l + 1) (by omega) (by omega)
    · funext x
      unfold uC hdl
      by_cases hx : x = l
      · subst hx
        rw [if_pos rfl, if_pos (by omega)]
      · rw [if_neg hx]
        by_cases h3 : x = 3 + l
        · subst h3
          rw [if_pos rfl, if_neg (by omega), if_pos (by omega), Nat.div_add_mod]
          congr 1
          omega
        · rw [if_neg h3]
          by_cases h1 : x < l
          · rw [if_pos h1, if_pos (by omega)]
          · rw [if_neg h1, if_neg (show ¬ x < l + 1 by omega)]
            by_cases h4 : 3 ≤ x ∧ x < 3 + l
            · rw [if_pos h4, if_pos (by omega)]
            · rw [if_neg h4, if_neg (by omega)]
theorem passes_eq {U : Mem} {r k : Nat} {S : Sh} {C : Nat → Nat} (hr : r ≠ 9 ∧ r ≠ 10) (hS : ShM (U r) S) (hok : okS S) (hk : k < S.2.length) (hC : ∀ x, C x % 1000 < 999) : f_X7_passes r (nI k) (mc U C) = some (mc U (ov C (pg S.2 k))) := by
  have hp := pg_ok hok.2.2.2 hk
  have hS2 : ShM (mc U C r) S := by rw [mc_id hr.1 hr.2]; exact hS
  have e0 : f_X7_of r (nI k) 0 (mc U C) = _ := of_eq (w := 0) hS2 hk hok.2.2.1 (by omega)
  have e1 : f_X7_of r (nI k) 1 (mc U C) = _ := of_eq (w := 1) hS2 hk hok.2.2.1 (by omega)
  unfold f_X7_passes
  rw [e0, Option.bind_some]
  dsimp only
  rw [e1, Option.bind_some]
  dsimp only
  have k1 : mc U C r (4 + 3 * k + 0) = nI (pg S.2 k).1 := (hS2.2.2 k hk).1
  have k2 : mc U C r (4 + 3 * k + 1) = nI (pg S.2 k).2.1 := (hS2.2.2 k hk).2.1
  simp only [k1, k2]
  have hrs : rsl C 3 = rsm C := rfl
  have hhd : hdl C 3 = hdc C := by
    funext x
    unfold hdl hdc
    by_cases h3 : x < 3
    · rw [if_pos h3, if_pos h3]
    · rw [if_neg h3, if_neg h3]
      by_cases h6 : x < 6
      · rw [if_pos h6, if_pos (by omega)]
      · rw [if_neg h6, if_neg (by omega)]
  by_cases h5 : (pg S.2 k).1 = 5
  · have c5 : nI (pg S.2 k).1 = 5 := by rw [h5]; rfl
    rw [if_pos c5]
    have hz : mc U C = mc U (hdl C 0) := by
      congr 1
      funext x
      unfold hdl
      rw [if_neg (by omega), if_neg (by omega)]
    rw [hz]
    have e := p23 (U := U) (r := r) (C := C) (xk := nI k) (x3 := nI (pg S.2 k).1) (xl := nI (pg S.2 k).2.1) 3 4096 0 (by omega) (by omega)
    have e' : f_X7_passes_23 4096 r (nI k) (nI (pg S.2 k).1) (nI (pg S.2 k).2.1) 0 (mc U (hdl C 0)) = _ := e
    rw [e']
    unfold f_X7_passes_65
    rw [h5, if_neg (by decide)]
    have hb : ∀ x, x < 6 → hdl C 3 x % 1000 < 999 := by
      intro x _
      unfold hdl
      by_cases a : x < 3
      · rw [if_pos a]; decide
      · rw [if_neg a]
        split <;> exact hC _
    have e2 := p109 (U := U) (C := hdl C 3) hr hS hok hk hb (kd := 5) (by omega) (by omega) (by omega)
    rw [e2]
    congr 2
    rw [if_neg (by omega), if_pos (by omega), hhd]
    unfold ov
    rw [if_neg (by omega), if_neg (by omega), if_neg (by omega), if_pos h5]
  · have c5 : ¬ nI (pg S.2 k).1 = 5 := by rw [li, neq (by have := hp.2.1; omega) (by omega)]; exact h5
    rw [if_neg c5]
    unfold f_X7_passes_65
    by_cases h3 : (pg S.2 k).1 = 3
    · have c3 : nI (pg S.2 k).1 = 3 := by rw [h3]; rfl
      rw [if_pos c3]
      have hz : mc U C = mc U (rsl C 0) := by
        congr 1
      rw [hz]
      have e := p73 (U := U) (r := r) (C := C) (xk := nI k) (x3 := nI (pg S.2 k).1) (xl := nI (pg S.2 k).2.1) 3 4096 0 (by omega) (by omega)
      have e' : f_X7_passes_73 4096 r (nI k) (nI (pg S.2 k).1) (nI (pg S.2 k).2.1) 0 (mc U (rsl C 0)) = _ := e
      rw [e', h3]
      have e2 := p109 (U := U) (C := rsl C 3) hr hS hok hk (fun x hx => by unfold rsl; split <;> exact hC _) (kd := 3) (by omega) (by omega) (by omega)
      rw [e2]
      congr 2
      rw [if_neg (by omega), if_neg (by omega), hrs]
      unfold ov
      rw [if_neg (by omega), if_neg (by omega), if_pos h3]
    · have c3 : ¬ nI (pg S.2 k).1 = 3 := by rw [li, neq (by have := hp.2.1; omega) (by omega)]; exact h3
      rw [if_neg c3, p109 hr hS hok hk (fun x _ => hC x) hp.1 hp.2.1 (fun h => h)]
      congr 2
      unfold ov
      by_cases h2 : (pg S.2 k).1 = 2
      · rw [if_pos h2, if_neg (by omega), if_pos h2]
      · rw [if_neg h2]
        by_cases h4 : 4 ≤ (pg S.2 k).1
        · rw [if_pos h4, if_neg (by omega), if_neg h2, if_neg h3, if_neg h5]
        · have h1 : (pg S.2 k).1 = 1 := by have := hp.1; omega
          rw [if_neg h4, if_pos h1]
theorem cnt_le {P : List Pg} (hP : ∀ p, p ∈ P → okP p) : ∀ (k : Nat), k ≤ P.length → ∀ x, cnt P k x ≤ 20 + k := by
  intro k
  induction k with
  | zero => intro _ x; exact Nat.zero_le _
  | succ k ih =>
    intro hk x
    have hp := pg_ok hP (k := k) (by omega)
    have h := ih (by omega)
    have hs := hp.2.2.2
    rw [cnt_succ (by omega)]
    generalize hC : cnt P k = C at h
    generalize pg P k = p at hp hs
    unfold ov
    have hA : ∀ (D : Nat → Nat) (l v : Nat), (∀ y, D y ≤ 20 + k) → v ≤ 20 + (k + 1) → sA D l v x ≤ 20 + (k + 1) := by
      intro D l v hD hv
      unfold sA
      have := hD x
      split
      · exact hv
      · split <;> omega
    have hR : ∀ y, rsm C y ≤ 20 + k := by
      intro y
      unfold rsm
      split <;> exact h _
    split
    · have := h p.2.1
      exact hA C _ _ h (by omega)
    · split
      · exact hA C _ _ h (by omega)
      · split
        · have := hR p.2.1
          exact hA _ _ _ hR (by omega)
        · split
          · unfold hdc
            split
            · omega
            · have h7 := h (x - 3)
              have h8 := h x
              split <;> omega
          · have := h x
            omega
end
section
/-! All counted on the reference's side. -/
def ctf (P : List Pg) (f : Nat → Int32) (k : Nat) : Nat → Int32 := fun y => if y < 3 * k then nI (cnt P (y / 3 + 1) (y % 3)) else f y
theorem ca2 {r : Nat} : ∀ (d n k : Nat) (U : Mem), k + d = 6 → d < n → f_X7_countAll_2 n r (nI k) U = f_X7_countAll_23 4096 r 0 (ms (ms U 9 (fun y => if k ≤ y ∧ y < 6 then -1 else U 9 y)) 10 (fun y => if k ≤ y ∧ y < 6 then 0 else U 10 y)) := by
  intro d
  induction d with
  | zero =>
    intro n k U hk hn
    obtain ⟨n, rfl⟩ : ∃ n', n = n' + 1 := ⟨n - 1, by omega⟩
    have e : k = 6 := by omega
    subst e
    unfold f_X7_countAll_2
    rw [if_pos (by rw [li, nle (by omega) (by omega)]; omega)]
    congr 1
    apply mem_ext
    intro a b
    rw [ms_at]
    by_cases h1 : a = 10
    · rw [if_pos h1, if_neg (by omega), h1]
    · rw [if_neg h1, ms_at]
      by_cases h2 : a = 9
      · rw [if_pos h2, if_neg (by omega), h2]
      · rw [if_neg h2]
  | succ d ih =>
    intro n k U hk hn
    obtain ⟨n, rfl⟩ : ∃ n', n = n' + 1 := ⟨n - 1, by omega⟩
    unfold f_X7_countAll_2 f_X7_become
    have e1 : nI k + 1 = nI (k + 1) := nI_1 k
    have e6 : ib (nI k) 6 = true := ibt (by omega) (by omega)
    rw [if_neg (by rw [li, nle (by omega) (by omega)]; omega), if_pos e6, if_pos e6, Option.bind_some, ncl (by omega), e1, ih n (k + 1) _ (by omega) (by omega)]
    congr 1
    apply mem_ext
    intro a b
    rw [ms_at, ms_at, ms_at, ms_at]
    by_cases h1 : a = 10
    · rw [if_pos h1, if_pos h1, st_at, st_ne1 (by omega)]
      by_cases hb : b = k
      · rw [if_neg (by omega), if_pos ⟨rfl, hb⟩, if_pos (by omega)]
      · rw [if_neg (show ¬ (10 = 10 ∧ b = k) by omega)]
        by_cases h2 : k ≤ b ∧ b < 6
        · rw [if_pos h2, if_pos (by omega)]
        · rw [if_neg h2, if_neg (by omega)]
    · rw [if_neg h1, if_neg h1]
      by_cases h2 : a = 9
      · rw [if_pos h2, if_pos h2, st_ne1 (by omega), st_at]
        by_cases hb : b = k
        · rw [if_neg (by omega), if_pos ⟨rfl, hb⟩, if_pos (by omega)]
        · rw [if_neg (show ¬ (9 = 9 ∧ b = k) by omega)]
          by_cases h3 : k ≤ b ∧ b < 6
          · rw [if_pos h3, if_pos (by omega)]
          · rw [if_neg h3, if_neg (by omega)]
      · rw [if_neg h2, if_neg h2, st_ne1 h1, st_ne1 h2]
theorem ca38 {r k : Nat} {K : Nat → Int32 → Mem → Option Mem} {P : List Pg} {W : Mem} (hk : k < 24) (hc : ∀ l, l < 3 → W 10 l = nI (cnt P (k + 1) l)) : ∀ (d n l : Nat), l + d = 3 → d < n →
    f_X7_countAll_38 K n r (nI k) (nI l) (ms W 11 (fun y => if 3 * k ≤ y ∧ y < 3 * k + l then nI (cnt P (y / 3 + 1) (y % 3)) else W 11 y)) = K r (nI (k + 1)) (ms W 11 (fun y => if 3 * k ≤ y ∧ y < 3 * k + 3 then nI (cnt P (y / 3 + 1) (y % 3)) else W 11 y)) := by
  intro d
  induction d with
  | zero =>
    intro n l hl hn
    obtain ⟨n, rfl⟩ : ∃ n', n = n' + 1 := ⟨n - 1, by omega⟩
    have e : l = 3 := by omega
    subst e
    unfold f_X7_countAll_38
    have e1 : nI k + 1 = nI (k + 1) := nI_1 k
    rw [if_pos (by rw [li, nle (by omega) (by omega)]; omega), e1]
  | succ d ih =>
    intro n l hl hn
    obtain ⟨n, rfl⟩ : ∃ n', n = n' + 1 := ⟨n - 1, by omega⟩
    unfold f_X7_countAll_38
    have e1 : nI l + 1 = nI (l + 1) := nI_1 l
    have e2 : (3 : Int32) * nI k + nI l = nI (3 * k + l) := by rw [li, pk_mul, nad]
    have e6 : ib (nI l) 6 = true := ibt (by omega) (by omega)
    have e7 : ib (nI (3 * k + l)) 72 = true := ibt (by omega) (by omega)
    rw [if_neg (by rw [li, nle (by omega) (by omega)]; omega), e2, if_pos e6, if_pos e7, ncl (by omega), ncl (by omega), e1, ← ih n (l + 1) (by omega) (by omega)]
    congr 1
    apply mem_ext
    intro a b
    by_cases h1 : a = 11
    · subst h1
      rw [st_at, ms_same, ms_same, ms_ne (show (10 : Nat) ≠ 11 by omega)]
      by_cases hb : b = 3 * k + l
      · rw [if_pos ⟨rfl, hb⟩, if_pos (by omega), hc l (by omega), hb]
        rw [show (3 * k + l) / 3 = k by omega, show (3 * k + l) % 3 = l by omega]
      · rw [if_neg (fun q => hb q.2)]
        by_cases h2 : 3 * k ≤ b ∧ b < 3 * k + l
        · rw [if_pos h2, if_pos (by omega)]
        · rw [if_neg h2, if_neg (by omega)]
    · rw [st_ne1 h1, ms_ne h1, ms_ne h1]
/-- the reference behind k paragraphs -/
def mk (U : Mem) (P : List Pg) (k : Nat) : Mem := ms (mc U (cnt P k)) 11 (ctf P (U 11) k)
theorem ca23 {U : Mem} {r : Nat} {S : Sh} (hr : r ≠ 9 ∧ r ≠ 10 ∧ r ≠ 11) (hS : ShM (U r) S) (hok : okS S) : ∀ (d n k : Nat), k + d = S.2.length → d < n → f_X7_countAll_23 n r (nI k) (mk U S.2 k) = some (mk U S.2 S.2.length) := by
  have h24 := hok.2.2.1
  intro d
  induction d with
  | zero =>
    intro n k hk hn
    obtain ⟨n, rfl⟩ : ∃ n', n = n' + 1 := ⟨n - 1, by omega⟩
    have e : k = S.2.length := by omega
    subst e
    unfold f_X7_countAll_23
    have e0 : mk U S.2 S.2.length r ((0 : Int32)).toNatClampNeg = nI S.2.length := by
      show mk U S.2 S.2.length r 0 = _
      unfold mk
      rw [ms_ne hr.2.2, mc_id hr.1 hr.2.1]
      exact hS.1
    rw [if_pos (by decide), e0, if_pos (by rw [nle (by omega) (by omega)]; omega)]
  | succ d ih =>
    intro n k hk hn
    obtain ⟨n, rfl⟩ : ∃ n', n = n' + 1 := ⟨n - 1, by omega⟩
    unfold f_X7_countAll_23
    have e0 : mk U S.2 k r ((0 : Int32)).toNatClampNeg = nI S.2.length := by
      show mk U S.2 k r 0 = _
      unfold mk
      rw [ms_ne hr.2.2, mc_id hr.1 hr.2.1]
      exact hS.1
    have hcl := cnt_le hok.2.2.2
    have em : ∀ j, mk U S.2 j = mc (ms U 11 (ctf S.2 (U 11) j)) (cnt S.2 j) := by
      intro j
      unfold mk mc
      apply mem_ext
      intro a b
      by_cases h1 : a = 11
      · subst h1
        rw [ms_same, ms_ne (by omega), ms_ne (by omega), ms_same]
      · rw [ms_ne h1, ms_id (show (10 : Nat) ≠ 11 by omega), ms_id (show (9 : Nat) ≠ 11 by omega)]
        by_cases h2 : a = 10
        · subst h2
          rw [ms_same, ms_same]
        · rw [ms_ne h2, ms_ne h2]
          by_cases h3 : a = 9
          · subst h3
            rw [ms_same, ms_same]
          · rw [ms_ne h3, ms_ne h3, ms_ne h1]
    have hS3 : ShM (ms U 11 (ctf S.2 (U 11) k) r) S := by rw [ms_id hr.2.2]; exact hS
    have ep := passes_eq (U := ms U 11 (ctf S.2 (U 11) k)) (C := cnt S.2 k) ⟨hr.1, hr.2.1⟩ hS3 hok (show k < S.2.length by omega) (fun x => by have := hcl k (by omega) x; omega)
    rw [if_pos (by decide), e0, if_neg (by rw [nle (by omega) (by omega)]; omega), em k, ep, Option.bind_some, ← cnt_succ (by omega)]
    generalize hW : mc (ms U 11 (ctf S.2 (U 11) k)) (cnt S.2 (k + 1)) = W
    have hw10 : ∀ l, l < 3 → W 10 l = nI (cnt S.2 (k + 1) l) := by
      intro l hl
      rw [← hW, mc_10]
      unfold af
      rw [if_pos (by omega)]
      have := hcl (k + 1) (by omega) l
      congr 1
      omega
    have e3 := ca38 (r := r) (K := f_X7_countAll_23 n) (P := S.2) (W := W) (show k < 24 by omega) hw10 3 4096 0 (by omega) (by omega)
    have ez : (ms W 11 (fun y => if 3 * k ≤ y ∧ y < 3 * k + 0 then nI (cnt S.2 (y / 3 + 1) (y % 3)) else W 11 y)) = W := by
      apply mem_ext
      intro a b
      rw [ms_at]
      by_cases h1 : a = 11
      · rw [if_pos h1, if_neg (by omega), h1]
      · rw [if_neg h1]
    rw [ez] at e3
    have e3' : f_X7_countAll_38 (f_X7_countAll_23 n) 4096 r (nI k) 0 W = _ := e3
    rw [e3', ← ih n (k + 1) (by omega) (by omega)]
    congr 1
    rw [em (k + 1)]
    apply mem_ext
    intro a b
    rw [ms_at]
    by_cases h1 : a = 11
    · rw [if_pos h1, h1, mc_id (by decide) (by decide), ms_same, ← hW, mc_id (by decide) (by decide), ms_same]
      unfold ctf
      by_cases h2 : 3 * k ≤ b ∧ b < 3 * k + 3
      · rw [if_pos h2, if_pos (by omega)]
      · rw [if_neg h2]
        by_cases h3 : b < 3 * k
        · rw [if_pos h3, if_pos (by omega)]
        · rw [if_neg h3, if_neg (by omega)]
    · rw [if_neg h1, ← hW]
      unfold mc
      rw [ms_id (show (10 : Nat) ≠ 11 by omega), ms_id (show (9 : Nat) ≠ 11 by omega), ms_id (show (10 : Nat) ≠ 11 by omega), ms_id (show (9 : Nat) ≠ 11 by omega)]
      by_cases h2 : a = 10
      · subst h2
        rw [ms_same, ms_same]
      · rw [ms_ne h2, ms_ne h2]
        by_cases h3 : a = 9
        · subst h3
          rw [ms_same, ms_same]
        · rw [ms_ne h3, ms_ne h3, ms_ne h1, ms_ne h1]
theorem countAll_eq {U : Mem} {r : Nat} {S : Sh} (hr : r ≠ 9 ∧ r ≠ 10 ∧ r ≠ 11) (hS : ShM (U r) S) (hok : okS S) : f_X7_countAll r U = some (mk U S.2 S.2.length) := by
  have h24 := hok.2.2.1
  unfold f_X7_countAll
  have e := ca2 (r := r) 6 4096 0 U (by omega) (by omega)
  have e' : f_X7_countAll_2 4096 r 0 U = _ := e
  rw [e']
  have e2 := ca23 hr hS hok S.2.length 4096 0 (by omega) (by omega)
  have e2' : f_X7_countAll_23 4096 r 0 (mk U S.2 0) = _ := e2
  rw [← e2']
  congr 1
  apply mem_ext
  intro a b
  unfold mk mc
  by_cases h1 : a = 10
  · subst h1
    rw [ms_same, ms_ne (show (10 : Nat) ≠ 11 by omega), ms_same]
    unfold af
    by_cases hb : b < 6
    · rw [if_pos ⟨by omega, hb⟩, if_pos hb]; rfl
    · rw [if_neg (by omega), if_neg hb]
  · by_cases h2 : a = 9
    · subst h2
      rw [ms_ne (show (9 : Nat) ≠ 10 by omega), ms_same, ms_ne (show (9 : Nat) ≠ 11 by omega), ms_ne (show (9 : Nat) ≠ 10 by omega), ms_same]
      unfold sf
      by_cases hb : b < 6
      · rw [if_pos ⟨by omega, hb⟩, if_pos hb, cnt_zero]
        show (-1 : Int32) = nI (0 / 1000) - 1
        decide
      · rw [if_neg (by omega), if_neg hb]
    · by_cases h3 : a = 11
      · subst h3
        rw [ms_ne h1, ms_ne h2, ms_same]
        unfold ctf
        rw [if_neg (by omega)]
      · rw [ms_ne h1, ms_ne h2, ms_ne h3, ms_ne h1, ms_ne h2]
end
section
/-! Calls that only ask: what of the memories stays. -/
def QX (V V' : Mem) : Prop := (∀ a, (1 ≤ a ∧ a < 10 ∧ a ≠ 4) ∨ (66 ≤ a ∧ a ≤ 93) ∨ (98 ≤ a ∧ a < 177) → V' a = V a) ∧ (∀ k, k ≠ 6 → V' 4 k = V 4 k)
def QM (U U' : Mem) : Prop := (∀ a, a ≠ 0 → a ≠ 5 → a ≠ 6 → (a < 9 ∨ 13 < a) → U' a = U a) ∧ U' 0 9 = U 0 9 ∧ U' 0 11 = U 0 11 ∧ U' 0 29 = U 0 29
theorem QX.rf {V : Mem} : QX V V := ⟨fun _ _ => rfl, fun _ _ => rfl⟩
theorem QX.tr {V V' V'' : Mem} (h : QX V V') (h2 : QX V' V'') : QX V V'' := ⟨fun a q => (h2.1 a q).trans (h.1 a q), fun k q => (h2.2 k q).trans (h.2 k q)⟩
theorem QM.rf {U : Mem} : QM U U := ⟨fun _ _ _ _ _ => rfl, rfl, rfl, rfl⟩
theorem QM.tr {U U' U'' : Mem} (h : QM U U') (h2 : QM U' U'') : QM U U'' := ⟨fun a q1 q2 q3 q4 => (h2.1 a q1 q2 q3 q4).trans (h.1 a q1 q2 q3 q4), h2.2.1.trans h.2.1, h2.2.2.1.trans h.2.2.1, h2.2.2.2.trans h.2.2.2⟩
theorem FS.qx {V V' : Mem} (h : FS 4 V V') : QX V V' := ⟨fun a q => h.1 a (by omega) (by omega), h.2⟩
theorem FS.z0 {V V' : Mem} (h : FS 4 V V') (hz : Z0 V) : Z0 V' := fun x hx => by rw [h.1 41 (by omega) (by omega)]; exact hz x hx
theorem FS.o {V V' : Mem} (h : FS 4 V V') : V' 0 = V 0 := h.1 0 (by omega) (by omega)
theorem inv_q {V U V' U' : Mem} {S : Sh} {A : List Act} (h : Inv V U) (hSS : SS V U S A) (hq : QX V V') (h11 : V' 0 11 = V 0 11) (hs : SN V' U') (hc : CI V' 4 S.2) (hz : Z0 V') (hm : QM U U') : Inv V' U' := by
  obtain ⟨g1, g2, g3, g4, -, g6, g7⟩ := h
  obtain ⟨s1, s2, s3, s4, s5, s6, s7⟩ := hSS
  refine ⟨g1.cg (fun a q1 q2 => hq.1 a (by omega)) (hm.1 1 (by omega) (by omega) (by omega) (by omega)) (hm.1 2 (by omega) (by omega) (by omega) (by omega)) (hm.1 3 (by omega) (by omega) (by omega) (by omega)), hs, g3.cg (by rw [hq.1 2 (by omega)]) (hq.1 3 (by omega)) hm.2.2.1 (hm.1 8 (by omega) (by omega) (by omega) (by omega)), g4.cg h11 (hq.1 98 (by omega)) hm.2.2.2 (hm.1 16 (by omega) (by omega) (by omega) (by omega)), ⟨S, A, s1, s2.cg (hq.2 4 (by omega)) (fun k q1 q2 => hq.1 (4 + k) (by omega)), hc, by rw [hm.1 4 (by omega) (by omega) (by omega) (by omega)]; exact s4, s5.cg (hq.1 67 (by omega)) (fun i hi => hq.1 (69 + i) (by omega)), by rw [hm.2.1]; exact s6, s7.cg (hm.1 7 (by omega) (by omega) (by omega) (by omega))⟩, g6.cg (fun i q1 q2 => hq.1 i (by omega)) (hm.1 14 (by omega) (by omega) (by omega) (by omega)) (hm.1 15 (by omega) (by omega) (by omega) (by omega)), hz⟩
/-- nothing but kept counters and the reference's scratch has changed -/
theorem inv_fs {V U V' U' : Mem} {S : Sh} {A : List Act} (h : Inv V U) (hSS : SS V U S A) (hf : FS 4 V V') (hc : CI V' 4 S.2) (hm : QM U U') (u1 : U' 0 1 = U 0 1) (u18 : U' 0 18 = U 0 18) : Inv V' U' := by
  refine inv_q h hSS hf.qx (by rw [hf.o]) (h.2.1.cg (by rw [hf.o]) (by rw [hf.o]) u1 u18) hc (hf.z0 h.2.2.2.2.2.2) hm
theorem qm_t {U : Mem} {x : Int32} : QM U (st U 0 0 x) := ⟨fun a q1 _ _ _ => st_id q1, st_ne2 (by omega), st_ne2 (by omega), st_ne2 (by omega)⟩
theorem mk_id {U : Mem} {P : List Pg} {k a : Nat} (h : a < 9 ∨ 11 < a) : mk U P k a = U a := by
  unfold mk
  rw [ms_id (by omega), mc_id (by omega) (by omega)]
theorem qm_mk {U : Mem} {P : List Pg} {k : Nat} : QM U (mk U P k) := ⟨fun a q1 q2 q3 q4 => mk_id (by omega), by rw [mk_id (by omega)], by rw [mk_id (by omega)], by rw [mk_id (by omega)]⟩
theorem mk_11 {U : Mem} {P : List Pg} {n k l : Nat} (hk : k < n) (hl : l < 3) : mk U P n 11 (3 * k + l) = nI (cnt P (k + 1) l) := by
  unfold mk
  rw [ms_same]
  unfold ctf
  rw [if_pos (by omega), show (3 * k + l) / 3 = k by omega, show (3 * k + l) % 3 = l by omega]
/-! which paragraph -/
theorem dich (x : Int32) (n : Nat) : (∃ k, k < n ∧ x = nI k) ∨ ∀ k, k < n → x ≠ nI k := by
  by_cases h : ∃ k, k < n ∧ x = nI k
  · exact Or.inl h
  · exact Or.inr (fun k hk e => h ⟨k, hk, e⟩)
theorem has_yes {V : Mem} {z n k : Nat} (hV : V z 4 = nI n) (hn : n < 2147483648) (hk : k < n) : f_X3_has z (nI k) V = some (1, V) := by
  unfold f_X3_has
  rw [if_neg (nI_pos (by omega)), hV, if_neg (by rw [nle (by omega) (by omega)]; omega)]
theorem has_no {V : Mem} {z n : Nat} {x : Int32} (hV : V z 4 = nI n) (hn : n < 2147483648) (hk : ∀ k, k < n → x ≠ nI k) : f_X3_has z x V = some (0, V) := by
  unfold f_X3_has
  rcases rng x n hn with ⟨j, j1, j2⟩ | q | q
  · exact absurd j2 (hk j j1)
  · rw [if_pos q]
  · by_cases h : x < 0
    · rw [if_pos h]
    · rw [if_neg h, hV, if_pos q]
theorem par_yes {U : Mem} {n k : Nat} (hU : U 4 0 = nI n) (hn : n < 2147483648) (hk : k < n) : f_X7_isParagraph (nI k) U = some (1, U) := by
  unfold f_X7_isParagraph
  have e : U 4 ((0 : Int32)).toNatClampNeg = nI n := hU
  have e1 : nI n - 1 = nI (n - 1) := nsb (b := 1) (by omega)
  rw [if_pos (by decide), e, e1, show (0 : Int64) = (0 : Int32).toInt64 from rfl, inw, Option.bind_some, if_pos (b01 _), if_pos ⟨nI_pos' (by omega), by rw [nle (by omega) (by omega)]; omega⟩]
theorem par_no {U : Mem} {n : Nat} {x : Int32} (hU : U 4 0 = nI n) (hn : n < 2147483648) (hk : ∀ k, k < n → x ≠ nI k) : f_X7_isParagraph x U = some (0, U) := by
  unfold f_X7_isParagraph
  have e : U 4 ((0 : Int32)).toNatClampNeg = nI n := hU
  rw [if_pos (by decide), e, show (0 : Int64) = (0 : Int32).toInt64 from rfl, inw, Option.bind_some, if_pos (b01 _), if_neg ?_]
  rintro ⟨q1, q2⟩
  rcases Nat.eq_zero_or_pos n with h0 | h0
  · subst h0
    exact absurd (Int32.le_trans q1 q2) (by decide)
  · have e1 : nI n - 1 = nI (n - 1) := nsb (b := 1) (by omega)
    rw [e1] at q2
    obtain ⟨j, j1, j2⟩ := btw (by omega) ⟨q1, q2⟩
    exact hk j (by omega) j2
theorem i10 {W : Mem} : ¬ (((1 : Int32), W) : Int32 × Mem).1 = 0 := fun q => absurd q (show ¬ (1 : Int32) = 0 by decide)
theorem s_kind : S_kind Inv := by
  intro a V U h
  obtain ⟨S, A, hSS⟩ := h.2.2.2.2.1
  obtain ⟨hok, hX, hC, hM, -⟩ := id hSS
  have h24 := hok.2.2.1
  have hM' : ShM (st U 0 0 0 4) S := by rw [st_id (by omega)]; exact hM
  unfold f_X6_kind f_X7_kind
  rcases dich a S.2.length with ⟨k, hk, rfl⟩ | hk
  · rw [has_yes hX.1 (by omega) hk, par_yes hM'.1 (by omega) hk, Option.bind_some, Option.bind_some, if_neg i10, if_neg i10, if_pos (ibt (by omega) (by omega)), ncl (by omega)]
    have e0 : f_X7_of 4 (nI k) 0 (st U 0 0 0) = _ := of_eq (w := 0) hM' hk h24 (by omega)
    dsimp only
    rw [e0]
    refine ⟨_, _, rfl, rfl, ?_, inv_t h⟩
    dsimp only
    exact (hX.2.2 k hk).1.trans (hM'.2.2 k hk).1.symm
  · rw [has_no hX.1 (by omega) hk, par_no hM'.1 (by omega) hk, Option.bind_some, Option.bind_some, if_pos rfl, if_pos rfl]
    exact ⟨_, _, rfl, rfl, rfl, inv_t h⟩
/-! own counts -/
def own (S : Sh) (k : Nat) : Nat := cnt S.2 (k + 1) (pg S.2 k).2.1
def lbl (S : Sh) (k : Nat) : Prop := (pg S.2 k).1 ≤ 3
theorem kb4 {t : Nat} (h : t ≤ 24) : kb LX (4 + 5 + 1 + t) 22 = true := List.all_eq_true.mp (show (List.range 25).all (fun t => kb LX (4 + 5 + 1 + t) 22) = true by decide) t (List.mem_range.mpr (by omega))
theorem kb35 {t : Nat} (h : t ≤ 24) : kb LX (35 + 5 + 1 + t) 22 = true := List.all_eq_true.mp (show (List.range 25).all (fun t => kb LX (35 + 5 + 1 + t) 22) = true by decide) t (List.mem_range.mpr (by omega))
def shid (z : Nat) : Prop := z = 4 ∨ z = 35
theorem kbz {z t : Nat} (hz : shid z) (h : t ≤ 24) : kb LX (z + 5 + 1 + t) 22 = true := by
  rcases hz with rfl | rfl
  · exact kb4 h
  · exact kb35 h
theorem own_x {z : Nat} {S : Sh} {V : Mem} (hz : shid z) (hok : okS S) (hS : ShX V z S) (hC : CI V z S.2) {k : Nat} (hk : k < S.2.length) : ∃ V', f_X3_ownCount z (nI k) V = some (nI (own S k), V') ∧ FS z V V' ∧ CI V' z S.2 := by
  have h24 := hok.2.2.1
  obtain ⟨V', e1, e2, e3, e4⟩ := ahead_eq hok hS hC (t := k + 1) (by omega)
  have hp := pg_ok hok.2.2.2 hk
  have hl := hp.2.2.1
  refine ⟨V', ?_, e2, e3⟩
  unfold f_X3_ownCount
  have e0 : nI k + 1 = nI (k + 1) := nI_1 k
  have k2 := ((hS.fs e2).2.2 k hk).2.1
  rw [e0, e1, Option.bind_some]
  dsimp only
  have c1 : (nI k).toNatClampNeg = k := ncl (by omega)
  have c2 : (nI (pg S.2 k).2.1).toNatClampNeg = (pg S.2 k).2.1 := ncl (by omega)
  have i1 : ib (nI k) 24 = true := ibt (by omega) (by omega)
  have i2 : ib (nI (pg S.2 k).2.1) 6 = true := ibt (by omega) (by omega)
  have i3 := kbz hz (show k + 1 ≤ 24 by omega)
  simp only [if_pos i3, if_pos i1, c1, k2, if_pos i2, c2]
  rw [e4 _ (by omega)]
  rfl
theorem lbl_x {z : Nat} {S : Sh} {V : Mem} (hok : okS S) (hS : ShX V z S) {k : Nat} (hk : k < S.2.length) : f_X3_isLabelled z (nI k) V = some (if (pg S.2 k).1 ≤ 3 then 1 else 0, V) := by
  have h24 := hok.2.2.1
  have hp := pg_ok hok.2.2.2 hk
  have h5 := hp.2.1
  have e24 : ib (nI k) 24 = true := ibt (by omega) (by omega)
  unfold f_X3_isLabelled
  rw [if_pos e24, if_pos e24, ncl (by omega), (hS.2.2 k hk).1]
  by_cases h4 : (pg S.2 k).1 = 4
  · rw [if_pos (by rw [h4]; rfl), if_neg (by omega)]
  · rw [if_neg (by rw [li, neq (by omega) (by omega)]; exact h4)]
    by_cases h6 : (pg S.2 k).1 = 5
    · rw [if_pos (by rw [h6]; rfl), if_neg (by omega)]
    · rw [if_neg (by rw [li, neq (by omega) (by omega)]; exact h6), if_pos (by omega)]
theorem lbl_m {r : Nat} {S : Sh} {U : Mem} (hok : okS S) (hS : ShM (U r) S) {k : Nat} (hk : k < S.2.length) : f_X7_isLabelled r (nI k) U = some (if (pg S.2 k).1 ≤ 3 then 1 else 0, U) := by
  have h24 := hok.2.2.1
  have hp := pg_ok hok.2.2.2 hk
  have h5 := hp.2.1
  have e0 : f_X7_of r (nI k) 0 U = _ := of_eq (w := 0) hS hk h24 (by omega)
  have e1 : U r (4 + 3 * k + 0) = nI (pg S.2 k).1 := (hS.2.2 k hk).1
  unfold f_X7_isLabelled
  rw [e0, Option.bind_some, e1]
  by_cases h4 : (pg S.2 k).1 ≤ 3
  · rw [if_neg (by rw [li, nle (by omega) (by omega)]; omega), if_pos h4]
  · rw [if_pos (by rw [li, nle (by omega) (by omega)]; omega), if_neg h4]
theorem own_m {r : Nat} {S : Sh} {U : Mem} (hr : r < 9) (hok : okS S) (hS : ShM (U r) S) {k : Nat} (hk : k < S.2.length) : f_X7_ownOf r (nI k) (mk U S.2 S.2.length) = some (nI (own S k), mk U S.2 S.2.length) := by
  have h24 := hok.2.2.1
  have hp := pg_ok hok.2.2.2 hk
  have hl := hp.2.2.1
  have hS' : ShM (mk U S.2 S.2.length r) S := by rw [mk_id (by omega)]; exact hS
  have e0 : f_X7_of r (nI k) 1 (mk U S.2 S.2.length) = _ := of_eq (w := 1) hS' hk h24 (by omega)
  have e1 : mk U S.2 S.2.length r (4 + 3 * k + 1) = nI (pg S.2 k).2.1 := (hS'.2.2 k hk).2.1
  unfold f_X7_ownOf
  rw [e0, Option.bind_some, e1]
  have e2 : (3 : Int32) * nI k + nI (pg S.2 k).2.1 = nI (3 * k + (pg S.2 k).2.1) := by rw [li, pk_mul, nad]
  dsimp only
  rw [e2, if_pos (ibt (by omega) (by omega)), ncl (by omega), mk_11 hk (by omega)]
  rfl
end
section
/-! sets, as, span. -/
theorem none_x {V : Mem} {z n : Nat} (hV : V z 4 = nI n) (hn : n < 2147483648) : f_X3_isNone z V = some (if n = 0 then 1 else 0, V) := by
  unfold f_X3_isNone
  rw [hV]
  by_cases h : n = 0
  · rw [if_pos (by rw [h]; rfl), if_pos h]
  · rw [if_neg (by rw [li, neq (by omega) (by omega)]; exact h), if_neg h]
theorem there_m {U : Mem} {n : Nat} (hU : U 4 0 = nI n) (hn : n < 2147483648) : f_X7_isThere U = some (if 0 < n then 1 else 0, U) := by
  unfold f_X7_isThere
  have e : U 4 ((0 : Int32)).toNatClampNeg = nI n := hU
  rw [if_pos (by decide), e]
  by_cases h : 0 < n
  · rw [if_neg (by rw [li, nle (by omega) (by omega)]; omega), if_pos h]
  · rw [if_pos (by rw [li, nle (by omega) (by omega)]; omega), if_neg h]
theorem or0 (x : Int32) : x ||| 0 = x := by
  have h : (x ||| 0).toBitVec = x.toBitVec := by simp
  exact Int32.toBitVec_inj.mp h
def stF (S : Sh) (v : Int32) : Nat → Nat → Int32 → Int32
  | 0, _, acc => acc
  | d + 1, k, acc => stF S v d (k + 1) (if (pg S.2 k).1 ≤ 3 ∧ nI (own S k) = v then acc ||| ((1 : Int32) <<< (nI k &&& 31)) else acc)
theorem sets_x {S : Sh} (hok : okS S) (v : Int32) : ∀ (d n k : Nat) (acc : Int32) (V : Mem), k + d = S.2.length → d < n → ShX V 4 S → CI V 4 S.2 → ∃ V', f_X6_sets_30 n v acc (nI k) V = some (stF S v d k acc, V') ∧ FS 4 V V' ∧ CI V' 4 S.2 := by
  have h24 := hok.2.2.1
  intro d
  induction d with
  | zero =>
    intro n k acc V hk hn hS hC
    obtain ⟨n, rfl⟩ : ∃ n', n = n' + 1 := ⟨n - 1, by omega⟩
    refine ⟨V, ?_, FS.rf, hC⟩
    unfold f_X6_sets_30
    rw [hS.1, if_pos (by rw [nle (by omega) (by omega)]; omega)]
    rfl
  | succ d ih =>
    intro n k acc V hk hn hS hC
    obtain ⟨n, rfl⟩ : ∃ n', n = n' + 1 := ⟨n - 1, by omega⟩
    have e1 : nI k + 1 = nI (k + 1) := nI_1 k
    unfold f_X6_sets_30 f_X6_sets_70
    rw [hS.1, if_neg (by rw [nle (by omega) (by omega)]; omega), lbl_x hok hS (show k < _ by omega), Option.bind_some, e1]
    by_cases hl : (pg S.2 k).1 ≤ 3
    · rw [if_neg (fun q => ((b01z _).mp q) hl)]
      obtain ⟨V1, o1, o2, o3⟩ := own_x (Or.inl rfl) hok hS hC (show k < _ by omega)
      dsimp only
      rw [o1, Option.bind_some]
      by_cases hv : nI (own S k) = v
      · rw [if_pos hv]
        obtain ⟨V', i1, i2, i3⟩ := ih n (k + 1) (acc ||| ((1 : Int32) <<< (nI k &&& 31))) V1 (by omega) (by omega) (hS.fs o2) o3
        refine ⟨V', ?_, o2.tr i2, i3⟩
        dsimp only
        rw [i1]
        rw [stF, if_pos ⟨hl, hv⟩]
      · rw [if_neg hv]
        obtain ⟨V', i1, i2, i3⟩ := ih n (k + 1) acc V1 (by omega) (by omega) (hS.fs o2) o3
        refine ⟨V', ?_, o2.tr i2, i3⟩
        dsimp only
        rw [i1]
        rw [stF, if_neg (fun q => hv q.2)]
    · rw [if_pos ((b01z _).mpr hl)]
      obtain ⟨V', i1, i2, i3⟩ := ih n (k + 1) acc V (by omega) (by omega) hS hC
      refine ⟨V', ?_, i2, i3⟩
      dsimp only
      rw [i1]
      rw [stF, if_neg (fun q => hl q.1)]
theorem sets_m {U : Mem} {S : Sh} (hok : okS S) (hS : ShM (U 4) S) (v : Int32) : ∀ (d n k : Nat) (acc : Int32), k + d = S.2.length → d < n → f_X7_sets_42 n v acc (nI k) (mk U S.2 S.2.length) = some (stF S v d k acc, mk U S.2 S.2.length) := by
  have h24 := hok.2.2.1
  have hS' : ShM (mk U S.2 S.2.length 4) S := by rw [mk_id (by omega)]; exact hS
  have e0 : mk U S.2 S.2.length 4 ((0 : Int32)).toNatClampNeg = nI S.2.length := hS'.1
  intro d
  induction d with
  | zero =>
    intro n k acc hk hn
    obtain ⟨n, rfl⟩ : ∃ n', n = n' + 1 := ⟨n - 1, by omega⟩
    unfold f_X7_sets_42
    rw [if_pos (by decide), e0, if_pos (by rw [nle (by omega) (by omega)]; omega)]
    rfl
  | succ d ih =>
    intro n k acc hk hn
    obtain ⟨n, rfl⟩ : ∃ n', n = n' + 1 := ⟨n - 1, by omega⟩
    have e1 : nI k + 1 = nI (k + 1) := nI_1 k
    unfold f_X7_sets_42 f_X7_sets_84
    rw [if_pos (by decide), e0, if_neg (by rw [nle (by omega) (by omega)]; omega), lbl_m hok hS' (show k < _ by omega), Option.bind_some, e1, or0]
    by_cases hl : (pg S.2 k).1 ≤ 3
    · rw [if_neg (fun q => ((b01z _).mp q) hl)]
      dsimp only
      rw [own_m (by omega) hok hS (show k < _ by omega), Option.bind_some]
      by_cases hv : nI (own S k) = v
      · rw [if_pos hv]
        dsimp only
        rw [ih n (k + 1) _ (by omega) (by omega)]
        rw [stF, if_pos ⟨hl, hv⟩]
      · rw [if_neg hv]
        dsimp only
        rw [ih n (k + 1) _ (by omega) (by omega)]
        rw [stF, if_neg (fun q => hv q.2)]
    · rw [if_pos ((b01z _).mpr hl)]
      dsimp only
      rw [ih n (k + 1) _ (by omega) (by omega)]
      rw [stF, if_neg (fun q => hl q.1)]
theorem s_sets : S_sets Inv := by
  intro a V U h
  obtain ⟨S, A, hSS⟩ := h.2.2.2.2.1
  obtain ⟨hok, hX, hC, hM, -⟩ := id hSS
  have h24 := hok.2.2.1
  have hM' : ShM (st U 0 0 0 4) S := by rw [st_id (by omega)]; exact hM
  unfold f_X6_sets f_X7_sets
  rw [none_x hX.1 (by omega), there_m hM'.1 (by omega), Option.bind_some, Option.bind_some]
  by_cases hn : S.2.length = 0
  · rw [if_neg (fun q => ((b01z _).mp q) hn), if_pos ((b01z _).mpr (by omega))]
    exact ⟨_, _, rfl, rfl, rfl, inv_t h⟩
  · rw [if_pos ((b01z _).mpr hn), if_neg (fun q => ((b01z _).mp q) (by omega))]
    dsimp only
    rw [isBetween_eq, show (0 : Int64) = (0 : Int32).toInt64 from rfl, show (99 : Int64) = (99 : Int32).toInt64 from rfl, inw, Option.bind_some, Option.bind_some]
    by_cases h1 : 0 ≤ a ∧ a ≤ 99
    · rw [if_neg (fun q => ((b01z _).mp q) h1), if_neg (fun q => ((b01z _).mp q) h1)]
      dsimp only
      obtain ⟨V', i1, i2, i3⟩ := sets_x hok a S.2.length 4096 0 0 V (by omega) (by omega) hX hC
      have i1' : f_X6_sets_30 4096 a 0 0 V = _ := i1
      have j1 := sets_m (U := st U 0 0 0) hok hM' a S.2.length 4096 0 0 (by omega) (by omega)
      have j1' : f_X7_sets_42 4096 a 0 0 (mk (st U 0 0 0) S.2 S.2.length) = _ := j1
      rw [i1', countAll_eq (by omega) hM' hok, Option.bind_some, j1']
      refine ⟨_, _, rfl, rfl, rfl, inv_fs h hSS i2 i3 (qm_t.tr qm_mk) ?_ ?_⟩
      · dsimp only
        rw [mk_id (by omega), st_ne2 (by omega)]
      · dsimp only
        rw [mk_id (by omega), st_ne2 (by omega)]
    · rw [if_pos ((b01z _).mpr h1), if_pos ((b01z _).mpr h1)]
      exact ⟨_, _, rfl, rfl, rfl, inv_t h⟩
/-! as -/
theorem as_st (n : Nat) {x1 x2 : Int32} {k s : Nat} (hk : k ≤ 5) (hs : s < 6) (hne : ¬ nI k = x2) (V : Mem) : f_X6_as_36 (n + 1) x1 x2 (nI k) (nI s) V = f_X6_as_36 n x1 x2 (tba 0 k) (nI (s + 1)) V := by
  rw [f_X6_as_36, if_neg (by rw [li, nle (by omega) (by omega)]; omega), if_neg hne, if_neg (nm1 (by omega)), if_pos (ibt (by omega) (by omega)), ncl (by omega)]
  have e : nI s + 1 = nI (s + 1) := nI_1 s
  rw [e]
theorem as_eq (n : Nat) {x1 : Int32} {k s : Nat} (hs : s < 6) (V : Mem) : f_X6_as_36 (n + 1) x1 (nI k) (nI k) (nI s) V = some (x1, st V 0 12 0) := by
  rw [f_X6_as_36, if_neg (by rw [li, nle (by omega) (by omega)]; omega), if_pos rfl, f_X6_as_65, if_pos rfl]
  rfl
theorem as_no (n : Nat) {x1 : Int32} {c s : Nat} (hs : s < 6) (hc : c ≤ 5) (V : Mem) : f_X6_as_36 (n + 1) x1 (nI c) (-1) (nI s) V = some (-1000010 - 3, st V 0 12 3) := by
  have h : ¬ (-1 : Int32) = nI c := fun q => nm1 (by omega) q.symm
  rw [f_X6_as_36, if_neg (by rw [li, nle (by omega) (by omega)]; omega), if_neg h, if_pos rfl, f_X6_as_65, if_neg h]
  rfl
theorem as_0 (n : Nat) {x1 : Int32} {c s : Nat} (hs : s < 5) (hc : c ≤ 5) (V : Mem) : f_X6_as_36 (n + 2) x1 (nI c) (nI 0) (nI s) V = if c = 0 then some (x1, st V 0 12 0) else some (-1000010 - 3, st V 0 12 3) := by
  by_cases h : c = 0
  · subst h
    rw [if_pos rfl, as_eq (n + 1) (by omega)]
  · rw [if_neg h, as_st (n + 1) (by omega) (by omega) (by rw [neq (by omega) (by omega)]; omega)]
    exact as_no n (by omega) hc V
theorem as_14 (n : Nat) {x1 : Int32} {c k s : Nat} (hk : k = 1 ∨ k = 4) (hs : s < 4) (hc : c ≤ 5) (V : Mem) : f_X6_as_36 (n + 3) x1 (nI c) (nI k) (nI s) V = if c = k ∨ c = 0 then some (x1, st V 0 12 0) else some (-1000010 - 3, st V 0 12 3) := by
  by_cases h : k = c
  · subst h
    rw [if_pos (Or.inl rfl), as_eq (n + 2) (by omega)]
  · rw [as_st (n + 2) (by omega) (by omega) (by rw [neq (by omega) (by omega)]; exact h)]
    have e : tba 0 k = nI 0 := by rcases hk with rfl | rfl <;> rfl
    rw [e, as_0 n (by omega) hc]
    by_cases h0 : c = 0
    · rw [if_pos h0, if_pos (Or.inr h0)]
    · rw [if_neg h0, if_neg (by omega)]
theorem as_n (n : Nat) {x1 : Int32} {c k : Nat} (hc : c ≤ 5) (hk : 1 ≤ k ∧ k ≤ 5) (V : Mem) : f_X6_as_36 (n + 4) x1 (nI c) (nI k) (nI 0) V = if c = 0 ∨ k = c ∨ (c = 1 ∧ k < 4) ∨ (c = 4 ∧ k = 5) then some (x1, st V 0 12 0) else some (-1000010 - 3, st V 0 12 3) := by
  by_cases h : k = c
  · subst h
    rw [as_eq (n + 3) (by omega), if_pos (Or.inr (Or.inl rfl))]
  · have key : ∀ j, (j = 1 ∨ j = 4) → tba 0 k = nI j → (∀ q : Prop, True) → ((c = j ∨ c = 0) ↔ (c = 0 ∨ k = c ∨ (c = 1 ∧ k < 4) ∨ (c = 4 ∧ k = 5))) → f_X6_as_36 (n + 4) x1 (nI c) (nI k) (nI 0) V = if c = 0 ∨ k = c ∨ (c = 1 ∧ k < 4) ∨ (c = 4 ∧ k = 5) then some (x1, st V 0 12 0) else some (-1000010 - 3, st V 0 12 3) := by
      intro j hj ht _ hiff
      rw [as_st (n + 3) (by omega) (by omega) (by rw [neq (by omega) (by omega)]; exact h), ht, as_14 n hj (by omega) hc]
      by_cases hq : c = j ∨ c = 0
      · rw [if_pos hq, if_pos (hiff.mp hq)]
      · rw [if_neg hq, if_neg (fun q => hq (hiff.mpr q))]
    rcases (show (k = 1 ∨ k = 4) ∨ k = 2 ∨ k = 3 ∨ k = 5 by omega) with h1 | rfl | rfl | rfl
    · rw [as_14 (n + 1) h1 (by omega) hc]
      by_cases hq : c = k ∨ c = 0
      · rw [if_pos hq, if_pos (by omega)]
      · rw [if_neg hq, if_neg (by omega)]
    · exact key 1 (Or.inl rfl) rfl (fun _ => trivial) (by omega)
    · exact key 1 (Or.inl rfl) rfl (fun _ => trivial) (by omega)
    · exact key 4 (Or.inr rfl) rfl (fun _ => trivial) (by omega)
theorem as_x {x1 : Int32} {c k : Nat} (hc : c ≤ 5) (hk : 1 ≤ k ∧ k ≤ 5) (V : Mem) : f_X6_as_36 4096 x1 (nI c) (nI k) 0 V = if c = 0 ∨ k = c ∨ (c = 1 ∧ k < 4) ∨ (c = 4 ∧ k = 5) then some (x1, st V 0 12 0) else some (-1000010 - 3, st V 0 12 3) := as_n 4092 hc hk V
theorem isOf_m {c k : Nat} (hc : c ≤ 5) (hk : 1 ≤ k ∧ k ≤ 5) (V : Mem) : f_X7_isOf (nI k) (nI c) V = some (if c = 0 ∨ k = c ∨ (c = 1 ∧ k < 4) ∨ (c = 4 ∧ k = 5) then 1 else 0, V) := by
  rcases (show k = 1 ∨ k = 2 ∨ k = 3 ∨ k = 4 ∨ k = 5 by omega) with rfl | rfl | rfl | rfl | rfl <;>
  rcases (show c = 0 ∨ c = 1 ∨ c = 2 ∨ c = 3 ∨ c = 4 ∨ c = 5 by omega) with rfl | rfl | rfl | rfl | rfl | rfl <;> rfl
theorem s_as : S_as Inv := by
  intro a b V U h
  obtain ⟨S, A, hSS⟩ := h.2.2.2.2.1
  obtain ⟨hok, hX, hC, hM, -⟩ := id hSS
  have h24 := hok.2.2.1
  have hM' : ShM (st U 0 0 0 4) S := by rw [st_id (by omega)]; exact hM
  unfold f_X6_as f_X7_as
  rcases dich a S.2.length with ⟨k, hk, rfl⟩ | hk
  · rw [has_yes hX.1 (by omega) hk, par_yes hM'.1 (by omega) hk, Option.bind_some, Option.bind_some, if_neg i10, if_neg i10]
    dsimp only
    rw [isBetween_eq, show (0 : Int64) = (0 : Int32).toInt64 from rfl, show (5 : Int64) = (5 : Int32).toInt64 from rfl, inw, Option.bind_some, Option.bind_some]
    by_cases h1 : 0 ≤ b ∧ b ≤ 5
    · rw [if_neg (fun q => ((b01z _).mp q) h1), if_neg (fun q => ((b01z _).mp q) h1)]
      dsimp only
      obtain ⟨c, c1, rfl⟩ := btw (n := 5) (by omega) h1
      have hp := pg_ok hok.2.2.2 hk
      have hM2 : ShM (st (st U 0 0 0) 0 1 0 4) S := by rw [st_id (by omega)]; exact hM'
      have e0 : f_X7_of 4 (nI k) 0 (st (st U 0 0 0) 0 1 0) = _ := of_eq (w := 0) hM2 hk h24 (by omega)
      have e1 : st (st U 0 0 0) 0 1 0 4 (4 + 3 * k + 0) = nI (pg S.2 k).1 := (hM2.2.2 k hk).1
      have e2 : V 6 k = nI (pg S.2 k).1 := (hX.2.2 k hk).1
      rw [if_pos (ibt (by omega) (by omega)), ncl (by omega), e2, as_x c1 ⟨hp.1, hp.2.1⟩, e0, Option.bind_some, e1]
      dsimp only
      rw [isOf_m c1 ⟨hp.1, hp.2.1⟩, Option.bind_some]
      by_cases hc : c = 0 ∨ (pg S.2 k).1 = c ∨ (c = 1 ∧ (pg S.2 k).1 < 4) ∨ (c = 4 ∧ (pg S.2 k).1 = 5)
      · rw [if_pos hc, if_neg (fun q => ((b01z _).mp q) hc)]
        refine ⟨_, _, rfl, rfl, rfl, inv_f h (fun x q => ?_) (fun j q1 q2 => ?_) ?_⟩
        · dsimp only
          rw [st_id q, st_id q]
        · dsimp only
          rw [st_ne2 q2, st_ne2 q1]
        · dsimp only
          rw [st_same]
      · rw [if_neg hc, if_pos ((b01z _).mpr hc)]
        exact ⟨_, _, rfl, rfl, rfl, inv_fnd h⟩
    · rw [if_pos ((b01z _).mpr h1), if_pos ((b01z _).mpr h1)]
      exact ⟨_, _, rfl, rfl, rfl, inv_t h⟩
  · rw [has_no hX.1 (by omega) hk, par_no hM'.1 (by omega) hk, Option.bind_some, Option.bind_some, if_pos rfl, if_pos rfl]
    exact ⟨_, _, rfl, rfl, rfl, inv_t h⟩
end
section
/-! count. -/
theorem add0 (x : Int32) : x + 0 = x := by
  apply Int32.toBitVec_inj.mp
  simp
def nrF (U : Mem) : Nat → Nat → Int32 → Int32
  | 0, _, acc => acc
  | d + 1, k, acc => nrF U d (k + 1) (if U 1 k = -1 then acc else acc + 1)
theorem nr_x {V U : Mem} (h : RR V U) : ∀ (d n k : Nat) (acc : Int32), k + d = 8 → d < n → f_X6_howManyRows_4 n acc (nI k) V = some (nrF U d k acc, V) := by
  intro d
  induction d with
  | zero =>
    intro n k acc hk hn
    obtain ⟨n, rfl⟩ : ∃ n', n = n' + 1 := ⟨n - 1, by omega⟩
    unfold f_X6_howManyRows_4
    rw [if_pos (by rw [li, nle (by omega) (by omega)]; omega)]
    rfl
  | succ d ih =>
    intro n k acc hk hn
    obtain ⟨n, rfl⟩ : ∃ n', n = n' + 1 := ⟨n - 1, by omega⟩
    have e1 : nI k + 1 = nI (k + 1) := nI_1 k
    unfold f_X6_howManyRows_4 f_X6_howManyRows_25
    rw [if_neg (by rw [li, nle (by omega) (by omega)]; omega), if_pos (ibt (by omega) (by omega)), ncl (by omega), isMissing_eq, Option.bind_some, e1, (h k (by omega)).1]
    by_cases hm : U 1 k = -1
    · rw [if_neg (fun q => ((b01z _).mp q) hm)]
      dsimp only
      rw [ih n (k + 1) _ (by omega) (by omega), nrF, if_pos hm]
    · rw [if_pos ((b01z _).mpr hm)]
      dsimp only
      rw [ih n (k + 1) _ (by omega) (by omega), nrF, if_neg hm]
theorem nr_m {V U : Mem} (h : RR V U) : ∀ (d n k : Nat) (acc : Int32), k + d = 8 → d < n → f_X7_count_50 n acc (nI k) (st U 0 0 0) = some (nrF U d k acc, st U 0 0 0) := by
  intro d
  induction d with
  | zero =>
    intro n k acc hk hn
    obtain ⟨n, rfl⟩ : ∃ n', n = n' + 1 := ⟨n - 1, by omega⟩
    unfold f_X7_count_50
    rw [if_pos (by rw [li, nle (by omega) (by omega)]; omega)]
    rfl
  | succ d ih =>
    intro n k acc hk hn
    obtain ⟨n, rfl⟩ : ∃ n', n = n' + 1 := ⟨n - 1, by omega⟩
    have e1 : nI k + 1 = nI (k + 1) := nI_1 k
    unfold f_X7_count_50 f_X7_count_71
    rw [if_neg (by rw [li, nle (by omega) (by omega)]; omega), if_pos (ibt (by omega) (by omega)), ncl (by omega), e1, add0, st_ne1 (by omega)]
    rcases (h k (by omega)).2 with hm | ⟨l, m, p1, p2, p3, -⟩
    · rw [if_pos (by rw [hm]; decide), ih n (k + 1) _ (by omega) (by omega), nrF, if_pos hm]
    · rw [if_neg (by rw [p3]; exact nI_pos (by omega)), ih n (k + 1) _ (by omega) (by omega), nrF, if_neg (by rw [p3]; exact nm1 (by omega))]
def nK (P : List Pg) (c : Nat) : Nat → Nat → Nat
  | 0, _ => 0
  | d + 1, k => (if (pg P k).1 = c then 1 else 0) + nK P c d (k + 1)
def nL (P : List Pg) : Nat → Nat → Nat
  | 0, _ => 0
  | d + 1, k => (if (pg P k).1 ≤ 3 then 1 else 0) + nL P d (k + 1)
theorem nL_sum {P : List Pg} (hP : ∀ p, p ∈ P → okP p) : ∀ (d k : Nat), k + d ≤ P.length → nL P d k = nK P 1 d k + nK P 2 d k + nK P 3 d k := by
  intro d
  induction d with
  | zero => intro k _; rfl
  | succ d ih =>
    intro k hk
    have hp := pg_ok hP (k := k) (by omega)
    have h1 := hp.1
    rw [nL, nK, nK, nK, ih (k + 1) (by omega)]
    by_cases a : (pg P k).1 ≤ 3
    · rcases (show (pg P k).1 = 1 ∨ (pg P k).1 = 2 ∨ (pg P k).1 = 3 by omega) with e | e | e <;> simp [e] <;> omega
    · rw [if_neg a, if_neg (by omega), if_neg (by omega), if_neg (by omega)]
      omega
theorem hm_x {S : Sh} {V : Mem} (hok : okS S) (hS : ShX V 4 S) {c : Nat} (hc : c ≤ 5) : ∀ (d n k acc : Nat), k + d = S.2.length → d < n → f_X3_howManyOf_4 4 n (nI c) (nI acc) (nI k) V = some (nI (acc + nK S.2 c d k), V) := by
  have h24 := hok.2.2.1
  intro d
  induction d with
  | zero =>
    intro n k acc hk hn
    obtain ⟨n, rfl⟩ : ∃ n', n = n' + 1 := ⟨n - 1, by omega⟩
    unfold f_X3_howManyOf_4
    rw [hS.1, if_pos (by rw [nle (by omega) (by omega)]; omega)]
    rfl
  | succ d ih =>
    intro n k acc hk hn
    obtain ⟨n, rfl⟩ : ∃ n', n = n' + 1 := ⟨n - 1, by omega⟩
    have e1 : nI k + 1 = nI (k + 1) := nI_1 k
    have e2 : nI acc + 1 = nI (acc + 1) := nI_1 acc
    have hp := pg_ok hok.2.2.2 (k := k) (by omega)
    have h5 := hp.2.1
    unfold f_X3_howManyOf_4 f_X3_howManyOf_25
    rw [hS.1, if_neg (by rw [nle (by omega) (by omega)]; omega), if_pos (ibt (by omega) (by omega)), ncl (by omega), (hS.2.2 k (by omega)).1, e1, e2]
    by_cases hm : (pg S.2 k).1 = c
    · rw [if_pos (by rw [hm]), ih n (k + 1) _ (by omega) (by omega), nK, if_pos hm]
      congr 3
      omega
    · rw [if_neg (by rw [neq (by omega) (by omega)]; exact hm), ih n (k + 1) _ (by omega) (by omega), nK, if_neg hm]
      congr 3
      omega
theorem hm_m {S : Sh} {U : Mem} (hok : okS S) (hS : ShM (U 4) S) : ∀ (d n k acc : Nat), k + d = S.2.length → d < n → f_X7_count_90 n (nI acc) (nI k) U = some (nI (acc + nL S.2 d k), U) := by
  have h24 := hok.2.2.1
  have e0 : U 4 ((0 : Int32)).toNatClampNeg = nI S.2.length := hS.1
  intro d
  induction d with
  | zero =>
    intro n k acc hk hn
    obtain ⟨n, rfl⟩ : ∃ n', n = n' + 1 := ⟨n - 1, by omega⟩
    unfold f_X7_count_90
    rw [if_pos (by decide), e0, if_pos (by rw [nle (by omega) (by omega)]; omega)]
    rfl
  | succ d ih =>
    intro n k acc hk hn
    obtain ⟨n, rfl⟩ : ∃ n', n = n' + 1 := ⟨n - 1, by omega⟩
    have e1 : nI k + 1 = nI (k + 1) := nI_1 k
    have e2 : nI acc + 1 = nI (acc + 1) := nI_1 acc
    unfold f_X7_count_90 f_X7_count_117
    rw [if_pos (by decide), e0, if_neg (by rw [nle (by omega) (by omega)]; omega), lbl_m hok hS (show k < _ by omega), Option.bind_some, e1, e2, add0]
    by_cases hm : (pg S.2 k).1 ≤ 3
    · rw [if_neg (fun q => ((b01z _).mp q) hm)]
      dsimp only
      rw [ih n (k + 1) _ (by omega) (by omega), nL, if_pos hm]
      congr 3
      omega
    · rw [if_pos ((b01z _).mpr hm)]
      dsimp only
      rw [ih n (k + 1) _ (by omega) (by omega), nL, if_neg hm]
      congr 3
      omega
theorem last_x {z : Nat} {S : Sh} {V : Mem} (hz : shid z) (hok : okS S) (hS : ShX V z S) (hC : CI V z S.2) : ∃ V', f_X3_lastCounts z V = some (nI (cnt S.2 S.2.length 0 + cnt S.2 S.2.length 1 + cnt S.2 S.2.length 2), V') ∧ FS z V V' ∧ CI V' z S.2 := by
  have h24 := hok.2.2.1
  obtain ⟨V', e1, e2, e3, e4⟩ := ahead_eq hok hS hC (t := S.2.length) (Nat.le_refl _)
  refine ⟨V', ?_, e2, e3⟩
  unfold f_X3_lastCounts
  rw [hS.1, e1, Option.bind_some]
  dsimp only
  rw [if_pos (kbz hz (by omega))]
  have st1 : ∀ (n x : Nat) (a : Nat), x < 3 → f_X3_lastCounts_13 z (n + 1) (z + 5 + 1 + S.2.length) (nI a) (nI x) V' = f_X3_lastCounts_13 z n (z + 5 + 1 + S.2.length) (nI (a + cnt S.2 S.2.length x)) (nI (x + 1)) V' := by
    intro n x a hx
    have e5 : nI x + 1 = nI (x + 1) := nI_1 x
    rw [f_X3_lastCounts_13, if_neg (by rw [li, nle (by omega) (by omega)]; omega), if_pos (ibt (by omega) (by omega)), ncl (by omega), e4 x (by omega), nad, e5]
  have g : f_X3_lastCounts_13 z (4092 + 1 + 1 + 1 + 1) (z + 5 + 1 + S.2.length) (nI 0) (nI 0) V' = some (nI (cnt S.2 S.2.length 0 + cnt S.2 S.2.length 1 + cnt S.2 S.2.length 2), V') := by
    rw [st1 _ 0 0 (by omega), st1 _ 1 _ (by omega), st1 _ 2 _ (by omega), f_X3_lastCounts_13, if_pos (by rw [li, nle (by omega) (by omega)]; omega), Nat.zero_add]
  exact g
theorem last_m {S : Sh} {U : Mem} {r : Nat} (hr : r < 9) (hok : okS S) (hS : ShM (U r) S) : f_X7_lastTogether r (mk U S.2 S.2.length) = some (nI (cnt S.2 S.2.length 0 + cnt S.2 S.2.length 1 + cnt S.2 S.2.length 2), mk U S.2 S.2.length) := by
  have h24 := hok.2.2.1
  have hS' : ShM (mk U S.2 S.2.length r) S := by rw [mk_id (by omega)]; exact hS
  have e0 : mk U S.2 S.2.length r ((0 : Int32)).toNatClampNeg = nI S.2.length := hS'.1
  unfold f_X7_lastTogether
  rw [if_pos (by decide), e0]
  rcases Nat.eq_zero_or_pos S.2.length with h0 | h0
  · rw [if_neg (by rw [h0]; decide)]
    have c0 : cnt S.2 S.2.length = fun _ => 0 := by rw [h0]; rfl
    rw [c0]
    rfl
  · have e1 : nI S.2.length - 1 = nI (S.2.length - 1) := nsb (b := 1) (by omega)
    have m0 : (3 : Int32) * nI (S.2.length - 1) = nI (3 * (S.2.length - 1)) := by rw [li, pk_mul]
    have m1 : nI (3 * (S.2.length - 1)) + 1 = nI (3 * (S.2.length - 1) + 1) := nI_1 _
    have m2 : nI (3 * (S.2.length - 1)) + 2 = nI (3 * (S.2.length - 1) + 2) := nI_add _ 2
    have g0 := mk_11 (U := U) (P := S.2) (n := S.2.length) (k := S.2.length - 1) (l := 0) (by omega) (by omega)
    have g1 := mk_11 (U := U) (P := S.2) (n := S.2.length) (k := S.2.length - 1) (l := 1) (by omega) (by omega)
    have g2 := mk_11 (U := U) (P := S.2) (n := S.2.length) (k := S.2.length - 1) (l := 2) (by omega) (by omega)
    rw [show S.2.length - 1 + 1 = S.2.length by omega] at g0 g1 g2
    rw [Nat.add_zero] at g0
    rw [e1, if_pos (nI_pos' (by omega)), m0, m1, m2, if_pos (ibt (by omega) (by omega)), if_pos (ibt (by omega) (by omega)), if_pos (ibt (by omega) (by omega)), ncl (by omega), ncl (by omega), ncl (by omega), g0, g1, g2, nad, nad]
theorem s_count : S_count Inv := by
  intro a V U h
  obtain ⟨S, A, hSS⟩ := h.2.2.2.2.1
  obtain ⟨hok, hX, hC, hM, hAV, hA9, hAW⟩ := id hSS
  have h24 := hok.2.2.1
  have hM' : ShM (st U 0 0 0 4) S := by rw [st_id (by omega)]; exact hM
  unfold f_X6_count f_X7_count
  by_cases c0 : a = 0
  · rw [if_pos c0, if_pos c0]
    unfold f_X6_howManyRows
    have e1 : f_X6_howManyRows_4 4096 0 0 V = _ := nr_x h.1 8 4096 0 0 (by omega) (by omega)
    have e2 : f_X7_count_50 4096 0 0 (st U 0 0 0) = _ := nr_m h.1 8 4096 0 0 (by omega) (by omega)
    rw [e1, e2]
    exact ⟨_, _, rfl, rfl, rfl, inv_t h⟩
  rw [if_neg c0, if_neg c0]
  by_cases c1 : a = 1
  · rw [if_pos c1, if_pos c1, if_pos (by decide)]
    refine ⟨_, _, rfl, rfl, ?_, inv_t h⟩
    exact hX.1.trans hM'.1.symm
  rw [if_neg c1, if_neg c1]
  by_cases c2 : a = 2
  · rw [if_pos c2, if_pos c2]
    unfold f_X3_howManyOf
    have x1 : f_X3_howManyOf_4 4 4096 1 0 0 V = _ := hm_x hok hX (c := 1) (by omega) S.2.length 4096 0 0 (by omega) (by omega)
    have x2 : f_X3_howManyOf_4 4 4096 2 0 0 V = _ := hm_x hok hX (c := 2) (by omega) S.2.length 4096 0 0 (by omega) (by omega)
    have x3 : f_X3_howManyOf_4 4 4096 3 0 0 V = _ := hm_x hok hX (c := 3) (by omega) S.2.length 4096 0 0 (by omega) (by omega)
    have m1 : f_X7_count_90 4096 0 0 (st U 0 0 0) = _ := hm_m hok hM' S.2.length 4096 0 0 (by omega) (by omega)
    rw [x1, Option.bind_some]
    dsimp only
    rw [x2, Option.bind_some]
    dsimp only
    rw [x3, Option.bind_some, m1]
    refine ⟨_, _, rfl, rfl, ?_, inv_t h⟩
    dsimp only
    rw [nad, nad, nL_sum hok.2.2.2 S.2.length 0 (by omega)]
    congr 1
    omega
  rw [if_neg c2, if_neg c2]
  by_cases c3 : a = 3
  · rw [if_pos c3, if_pos c3]
    obtain ⟨V', i1, i2, i3⟩ := last_x (Or.inl rfl) hok hX hC
    rw [i1, countAll_eq (by omega) hM' hok, Option.bind_some, Option.bind_some, last_m (by omega) hok hM', Option.bind_some]
    refine ⟨_, _, rfl, rfl, rfl, inv_fs h hSS i2 i3 (qm_t.tr qm_mk) ?_ ?_⟩
    · dsimp only
      rw [mk_id (by omega), st_ne2 (by omega)]
    · dsimp only
      rw [mk_id (by omega), st_ne2 (by omega)]
  rw [if_neg c3, if_neg c3]
  by_cases c4 : a = 4
  · rw [if_pos c4, if_pos c4]
    refine ⟨_, _, rfl, rfl, ?_, inv_t h⟩
    dsimp only
    rw [hAV.2.1, st_ne2 (by omega), hA9]
  rw [if_neg c4, if_neg c4]
  by_cases c5 : a = 5
  · rw [if_pos c5, if_pos c5]
    refine ⟨_, _, rfl, rfl, ?_, inv_t h⟩
    obtain ⟨n, n1, n2, n3, n4⟩ := h.2.2.1
    dsimp only
    rw [n2, st_ne2 (by omega), n3]
  rw [if_neg c5, if_neg c5]
  exact ⟨_, _, rfl, rfl, rfl, inv_t h⟩
end
section
/-! span. -/
def spC (P : List Pg) : Nat → Nat → (Nat → Nat) → (Nat → Nat)
  | 0, _, C => C
  | d + 1, k, C => spC P d (k + 1) (ov C (pg P k))
def C0 : Nat → Nat := fun x => if x < 6 then 1000 * (x + 1) else 0
def bd (C : Nat → Nat) (m : Nat) : Prop := ∀ x, C x % 1000 ≤ m ∧ C x ≤ 6000 + m
theorem bd0 : bd C0 20 := by
  intro x
  unfold C0
  by_cases h : x < 6
  · rw [if_pos h]; omega
  · rw [if_neg h]; omega
theorem bd_ov {C : Nat → Nat} {m : Nat} {p : Pg} (h : bd C m) (hm : 20 ≤ m) (hm2 : m < 900) (hp : okP p) : bd (ov C p) (m + 1) := by
  intro x
  have hs := hp.2.2.2
  have hA : ∀ (D : Nat → Nat) (l v : Nat), bd D m → (v % 1000 ≤ m + 1 ∧ v ≤ 6000 + (m + 1)) → (sA D l v x % 1000 ≤ m + 1 ∧ sA D l v x ≤ 6000 + (m + 1)) := by
    intro D l v hD hv
    unfold sA
    have := hD x
    split
    · exact hv
    · split <;> omega
  have hR : bd (rsm C) m := by
    intro y
    unfold rsm
    split <;> exact h _
  unfold ov
  split
  · have := h p.2.1
    exact hA C _ _ h (by omega)
  · split
    · exact hA C _ _ h (by omega)
    · split
      · have := hR p.2.1
        exact hA _ _ _ hR (by omega)
      · split
        · unfold hdc
          have h7 := h (x - 3)
          have h8 := h x
          split
          · omega
          · split <;> omega
        · have := h x
          omega
theorem toT_x {V : Mem} : ∀ (d n k : Nat) (W : Mem), k + d = 6 → d < n → f_X1_toThemselves_2 n 96 (nI k) W = some (ms W 96 (fun x => if k ≤ x ∧ x < 6 then nI (1000 * (x + 1)) else W 96 x)) := by
  intro d
  induction d with
  | zero =>
    intro n k W hk hn
    obtain ⟨n, rfl⟩ : ∃ n', n = n' + 1 := ⟨n - 1, by omega⟩
    unfold f_X1_toThemselves_2
    rw [if_pos (by rw [li, nle (by omega) (by omega)]; omega)]
    congr 1
    apply mem_ext
    intro a b
    rw [ms_at]
    by_cases h : a = 96
    · rw [if_pos h, if_neg (by omega), h]
    · rw [if_neg h]
  | succ d ih =>
    intro n k W hk hn
    obtain ⟨n, rfl⟩ : ∃ n', n = n' + 1 := ⟨n - 1, by omega⟩
    have e1 : nI k + 1 = nI (k + 1) := nI_1 k
    have e2 : nI (k + 1) * 1000 = nI (1000 * (k + 1)) := by rw [li, pk_mul, Nat.mul_comm]
    unfold f_X1_toThemselves_2
    rw [if_neg (by rw [li, nle (by omega) (by omega)]; omega), if_pos (ibt (by omega) (by omega)), e1, e2, ncl (by omega), ih n (k + 1) _ (by omega) (by omega)]
    congr 1
    apply mem_ext
    intro a b
    by_cases h : a = 96
    · subst h
      rw [ms_same, ms_same, st_at]
      by_cases hb : b = k
      · rw [if_neg (by omega), if_pos ⟨rfl, hb⟩, if_pos (by omega), hb]
      · rw [if_neg (show ¬ (96 = 96 ∧ b = k) by omega)]
        by_cases h2 : k ≤ b ∧ b < 6
        · rw [if_pos h2, if_pos (by omega)]
        · rw [if_neg h2, if_neg (by omega)]
    · rw [ms_ne h, ms_ne h, st_ne1 h]
theorem span_x {S : Sh} {V : Mem} (hok : okS S) (hS : ShX V 4 S) {b x : Nat} {w : Int32} (hb : b < S.2.length) (hx : x < 6) : ∀ (d n k m : Nat) (C : Nat → Nat) (f : Nat → Int32), k + d = b + 1 → d < n → bd C m → 20 ≤ m → m + d < 100 →
    f_X6_span_59 n (nI b) (nI x) w (nI k) (ms V 96 (cf C f)) = some (if w = 0 then nI (spC S.2 d k C x / 1000) - 1 else nI (spC S.2 d k C x % 1000), ms V 96 (cf (spC S.2 d k C) f)) := by
  have h24 := hok.2.2.1
  intro d
  induction d with
  | zero =>
    intro n k m C f hk hn hC hm hm2
    obtain ⟨n, rfl⟩ : ∃ n', n = n' + 1 := ⟨n - 1, by omega⟩
    have e6 : ib (nI x) 6 = true := ibt (by omega) (by omega)
    have ec : cf C f x = nI (C x) := if_pos hx
    have hc2 := hC x
    unfold f_X6_span_59 f_X1_sourceOf f_X1_amountOf
    rw [if_pos (by rw [nlt (by omega) (by omega)]; omega), if_pos e6, if_pos e6, ncl (by omega), ms_same, ec, show (1000 : Int32) = nI 1000 from rfl, pk_div (by omega) (by omega) (by omega), Option.bind_some, Option.bind_some]
    rw [show spC S.2 0 k C = C from rfl]
    by_cases hw : w = 0
    · rw [if_pos hw, if_pos hw]
    · have er : nI (C x) - nI (C x / 1000) * nI 1000 = nI (C x % 1000) := by
        rw [pk_mul, nsb (by omega)]
        congr 1
        omega
      rw [if_neg hw, if_neg hw, er]
  | succ d ih =>
    intro n k m C f hk hn hC hm hm2
    obtain ⟨n, rfl⟩ : ∃ n', n = n' + 1 := ⟨n - 1, by omega⟩
    have e1 : nI k + 1 = nI (k + 1) := nI_1 k
    have e24 : ib (nI k) 24 = true := ibt (by omega) (by omega)
    have hp := pg_ok hok.2.2.2 (k := k) (by omega)
    have h22 := hp.2.2.2
    have h21 := hp.2.2.1
    obtain ⟨k1, k2, k3⟩ := hS.2.2 k (by omega)
    unfold f_X6_span_59 f_X3_countOver
    have i6 : ms V 96 (cf C f) (4 + 2) k = nI (pg S.2 k).1 := by rw [ms_ne (by omega)]; exact k1
    have i7 : ms V 96 (cf C f) (4 + 3) k = nI (pg S.2 k).2.1 := by rw [ms_ne (by omega)]; exact k2
    have i8 : ms V 96 (cf C f) (4 + 4) k = nI (pg S.2 k).2.2 := by rw [ms_ne (by omega)]; exact k3
    rw [if_neg (by rw [nlt (by omega) (by omega)]; omega), if_pos e24, if_pos e24, if_pos e24, ncl (by omega), i6, i7, i8, over_eq (C := C) (f := f) ⟨hp.1, hp.2.1⟩ (by omega) (by omega) ms_eq, Option.bind_some, Option.bind_some, e1, ms_ms]
    exact ih n (k + 1) (m + 1) _ f (by omega) (by omega) (bd_ov hC hm (by omega) hp) (by omega) (by omega)
theorem sp55 {U : Mem} {x1 x2 x3 x4 : Int32} : ∀ (d n k : Nat) (W : Mem), k + d = 6 → d < n → f_X7_span_55 n x1 x2 x3 x4 (nI k) W = f_X7_span_80 4096 x2 x3 x4 x1 (ms (ms W 9 (fun y => if k ≤ y ∧ y < 6 then nI y else W 9 y)) 10 (fun y => if k ≤ y ∧ y < 6 then 0 else W 10 y)) := by
  intro d
  induction d with
  | zero =>
    intro n k W hk hn
    obtain ⟨n, rfl⟩ : ∃ n', n = n' + 1 := ⟨n - 1, by omega⟩
    unfold f_X7_span_55
    rw [if_pos (by rw [li, nle (by omega) (by omega)]; omega)]
    congr 1
    apply mem_ext
    intro a b
    rw [ms_at]
    by_cases h1 : a = 10
    · rw [if_pos h1, if_neg (by omega), h1]
    · rw [if_neg h1, ms_at]
      by_cases h2 : a = 9
      · rw [if_pos h2, if_neg (by omega), h2]
      · rw [if_neg h2]
  | succ d ih =>
    intro n k W hk hn
    obtain ⟨n, rfl⟩ : ∃ n', n = n' + 1 := ⟨n - 1, by omega⟩
    unfold f_X7_span_55 f_X7_become
    have e1 : nI k + 1 = nI (k + 1) := nI_1 k
    have e6 : ib (nI k) 6 = true := ibt (by omega) (by omega)
    rw [if_neg (by rw [li, nle (by omega) (by omega)]; omega), if_pos e6, if_pos e6, Option.bind_some, ncl (by omega), e1, ih n (k + 1) _ (by omega) (by omega)]
    congr 1
    apply mem_ext
    intro a b
    by_cases h1 : a = 10
    · subst h1
      rw [ms_same, ms_same, st_at, st_ne1 (by omega)]
      by_cases hb : b = k
      · rw [if_neg (by omega), if_pos ⟨rfl, hb⟩, if_pos (by omega)]
      · rw [if_neg (show ¬ (10 = 10 ∧ b = k) by omega)]
        by_cases h2 : k ≤ b ∧ b < 6
        · rw [if_pos h2, if_pos (by omega)]
        · rw [if_neg h2, if_neg (by omega)]
    · rw [ms_ne h1, ms_ne h1]
      by_cases h2 : a = 9
      · subst h2
        rw [ms_same, ms_same, st_ne1 (by omega), st_at]
        by_cases hb : b = k
        · rw [if_neg (by omega), if_pos ⟨rfl, hb⟩, if_pos (by omega), hb]
        · rw [if_neg (show ¬ (9 = 9 ∧ b = k) by omega)]
          by_cases h3 : k ≤ b ∧ b < 6
          · rw [if_pos h3, if_pos (by omega)]
          · rw [if_neg h3, if_neg (by omega)]
      · rw [ms_ne h2, ms_ne h2, st_ne1 h1, st_ne1 h2]
theorem span_m {S : Sh} {U : Mem} (hok : okS S) (hS : ShM (U 4) S) {b x : Nat} {w : Int32} (hb : b < S.2.length) (hx : x < 6) : ∀ (d n k m : Nat) (C : Nat → Nat), k + d = b + 1 → d < n → bd C m → 20 ≤ m → m + d < 100 →
    f_X7_span_80 n (nI b) (nI x) w (nI k) (mc U C) = some (if w = 0 then nI (spC S.2 d k C x / 1000) - 1 else nI (spC S.2 d k C x % 1000), mc U (spC S.2 d k C)) := by
  have h24 := hok.2.2.1
  intro d
  induction d with
  | zero =>
    intro n k m C hk hn hC hm hm2
    obtain ⟨n, rfl⟩ : ∃ n', n = n' + 1 := ⟨n - 1, by omega⟩
    have e6 : ib (nI x) 6 = true := ibt (by omega) (by omega)
    unfold f_X7_span_80
    rw [if_pos (by rw [nlt (by omega) (by omega)]; omega), if_pos e6, if_pos e6, ncl (by omega), mc_9, mc_10]
    unfold sf af
    rw [if_pos hx, if_pos hx]
    rw [show spC S.2 0 k C = C from rfl]
    by_cases hw : w = 0
    · rw [if_pos hw, if_pos hw]
    · rw [if_neg hw, if_neg hw]
  | succ d ih =>
    intro n k m C hk hn hC hm hm2
    obtain ⟨n, rfl⟩ : ∃ n', n = n' + 1 := ⟨n - 1, by omega⟩
    have e1 : nI k + 1 = nI (k + 1) := nI_1 k
    have hp := pg_ok hok.2.2.2 (k := k) (by omega)
    unfold f_X7_span_80
    rw [if_neg (by rw [nlt (by omega) (by omega)]; omega), passes_eq (by omega) hS hok (by omega) (fun y => by have := hC y; omega), Option.bind_some, e1]
    exact ih n (k + 1) (m + 1) _ (by omega) (by omega) (bd_ov hC hm (by omega) hp) (by omega) (by omega)
theorem s_span : S_span Inv := by
  intro a b x w V U h
  obtain ⟨S, A, hSS⟩ := h.2.2.2.2.1
  obtain ⟨hok, hX, hC, hM, -⟩ := id hSS
  have h24 := hok.2.2.1
  have hM' : ShM (st U 0 0 0 4) S := by rw [st_id (by omega)]; exact hM
  unfold f_X6_span f_X7_span
  rcases dich a S.2.length with ⟨p, hp, rfl⟩ | hk
  · rw [has_yes hX.1 (by omega) hp, par_yes hM'.1 (by omega) hp, Option.bind_some, Option.bind_some, if_neg i10, if_neg i10]
    dsimp only
    rcases dich b S.2.length with ⟨q, hq, rfl⟩ | hk
    · rw [has_yes hX.1 (by omega) hq, par_yes hM'.1 (by omega) hq, Option.bind_some, Option.bind_some, if_neg i10, if_neg i10]
      dsimp only
      by_cases hpq : q < p
      · have c : nI q < nI p := (nlt (by omega) (by omega)).mpr hpq
        rw [if_pos c, if_pos c]
        exact ⟨_, _, rfl, rfl, rfl, inv_t h⟩
      · have c : ¬ nI q < nI p := fun z => hpq ((nlt (by omega) (by omega)).mp z)
        rw [if_neg c, if_neg c, isBetween_eq, show (0 : Int64) = (0 : Int32).toInt64 from rfl, show (5 : Int64) = (5 : Int32).toInt64 from rfl, inw, Option.bind_some, Option.bind_some]
        by_cases h1 : 0 ≤ x ∧ x ≤ 5
        · rw [if_neg (fun q => ((b01z _).mp q) h1), if_neg (fun q => ((b01z _).mp q) h1)]
          dsimp only
          rw [isBetween_eq, show (1 : Int64) = (1 : Int32).toInt64 from rfl, inw, Option.bind_some, Option.bind_some]
          by_cases h2 : 0 ≤ w ∧ w ≤ 1
          · rw [if_neg (fun q => ((b01z _).mp q) h2), if_neg (fun q => ((b01z _).mp q) h2)]
            dsimp only
            obtain ⟨y, y1, rfl⟩ := btw (n := 5) (by omega) h1
            unfold f_X1_toThemselves
            have t1 : f_X1_toThemselves_2 4096 96 0 V = _ := toT_x (V := V) 6 4096 0 V (by omega) (by omega)
            have t2 : ms V 96 (fun x => if 0 ≤ x ∧ x < 6 then nI (1000 * (x + 1)) else V 96 x) = ms V 96 (cf C0 (V 96)) := by
              congr 1
              funext x
              unfold cf C0
              by_cases hx : x < 6
              · rw [if_pos (by omega), if_pos hx, if_pos hx]
              · rw [if_neg (by omega), if_neg hx]
            have t3 := span_x (w := w) hok hX hq (show y < 6 by omega) (q + 1 - p) 4096 p 20 C0 (V 96) (by omega) (by omega) bd0 (by omega) (by omega)
            have m1 : f_X7_span_55 4096 (nI p) (nI q) (nI y) w 0 (st U 0 0 0) = _ := sp55 (U := U) 6 4096 0 (st U 0 0 0) (by omega) (by omega)
            have m2 : ms (ms (st U 0 0 0) 9 (fun y => if 0 ≤ y ∧ y < 6 then nI y else st U 0 0 0 9 y)) 10 (fun y => if 0 ≤ y ∧ y < 6 then 0 else st U 0 0 0 10 y) = mc (st U 0 0 0) C0 := by
              refine mc_ext (fun a q1 q2 => by rw [ms_id q2, ms_id q1]) (fun x => ?_) (fun x => ?_)
              · rw [ms_ne (by omega), ms_same]
                unfold sf C0
                by_cases hx : x < 6
                · rw [if_pos (by omega), if_pos hx, if_pos hx]
                  have e : nI (1000 * (x + 1) / 1000) - 1 = nI (1000 * (x + 1) / 1000 - 1) := nsb (b := 1) (by omega)
                  rw [e]
                  congr 1
                  omega
                · rw [if_neg (by omega), if_neg hx]
              · rw [ms_same]
                unfold af C0
                by_cases hx : x < 6
                · rw [if_pos (by omega), if_pos hx, if_pos hx, Nat.mul_mod_right]; rfl
                · rw [if_neg (by omega), if_neg hx]
            have m3 := span_m (U := st U 0 0 0) (w := w) hok hM' hq (show y < 6 by omega) (q + 1 - p) 4096 p 20 C0 (by omega) (by omega) bd0 (by omega) (by omega)
            rw [t1, t2, Option.bind_some, t3, m1, m2, m3]
            refine ⟨_, _, rfl, rfl, rfl, ?_⟩
            dsimp only
            have hV : ∀ y, y ≠ 96 → ms V 96 (cf (spC S.2 (q + 1 - p) p C0) (V 96)) y = V y := fun y hy => ms_id hy
            refine inv_q h hSS ⟨fun a q => hV a (by omega), fun k _ => by rw [hV 4 (by omega)]⟩ (by rw [hV 0 (by omega)]) (h.2.1.cg (by rw [hV 0 (by omega)]) (by rw [hV 0 (by omega)]) ?_ ?_) (hC.cg h24 (by rw [hV 4 (by omega)]) (fun k hk => hV _ (by omega))) (fun y hy => by rw [hV 41 (by omega)]; exact h.2.2.2.2.2.2 y hy) ?_
            · rw [mc_id (by omega) (by omega), st_ne2 (by omega)]
            · rw [mc_id (by omega) (by omega), st_ne2 (by omega)]
            · exact qm_t.tr ⟨fun a q1 q2 q3 q4 => mc_id (by omega) (by omega), by rw [mc_id (by omega) (by omega)], by rw [mc_id (by omega) (by omega)], by rw [mc_id (by omega) (by omega)]⟩
          · rw [if_pos ((b01z _).mpr h2), if_pos ((b01z _).mpr h2)]
            exact ⟨_, _, rfl, rfl, rfl, inv_t h⟩
        · rw [if_pos ((b01z _).mpr h1), if_pos ((b01z _).mpr h1)]
          exact ⟨_, _, rfl, rfl, rfl, inv_t h⟩
    · rw [has_no hX.1 (by omega) hk, par_no hM'.1 (by omega) hk, Option.bind_some, Option.bind_some, if_pos rfl, if_pos rfl]
      exact ⟨_, _, rfl, rfl, rfl, inv_t h⟩
  · rw [has_no hX.1 (by omega) hk, par_no hM'.1 (by omega) hk, Option.bind_some, Option.bind_some, if_pos rfl, if_pos rfl]
    exact ⟨_, _, rfl, rfl, rfl, inv_t h⟩
end
section
/-! Labels: signs one behind the other, numerals. -/
def lay (L : List Nat) (f : Nat → Int32) : Nat → Int32 := fun j => if j < L.length then nI (L.getD j 0) else f j
def wx (V : Mem) (z : Nat) (L : List Nat) : Mem := st (ms V (z + 1) (lay L (V (z + 1)))) z 1 (nI L.length)
def wm (U : Mem) (L : List Nat) : Mem := st (ms U 12 (lay L (U 12))) 0 23 (nI L.length)
theorem lay_snoc {L : List Nat} {c : Nat} {f : Nat → Int32} (j : Nat) : lay (L ++ [c]) f j = if j = L.length then nI c else lay L f j := by
  unfold lay
  rw [List.length_append, List.length_singleton]
  by_cases h : j = L.length
  · rw [if_pos h, if_pos (by omega), h, List.getD_eq_getElem?_getD, List.getElem?_append_right (Nat.le_refl _), Nat.sub_self]
    rfl
  · rw [if_neg h]
    by_cases h2 : j < L.length
    · rw [if_pos (by omega), if_pos h2, List.getD_eq_getElem?_getD, List.getD_eq_getElem?_getD, List.getElem?_append_left h2]
    · rw [if_neg (by omega), if_neg h2]
theorem lay_nil {f : Nat → Int32} : lay [] f = f := by
  funext j
  unfold lay
  rw [if_neg (by simp)]
theorem wx_nil {V : Mem} {z : Nat} : wx V z [] = st V z 1 0 := by
  unfold wx
  rw [lay_nil]
  congr 1
  funext a
  by_cases h : a = z + 1
  · rw [h, ms_eq]
  · rw [ms_id h]
theorem wm_nil {U : Mem} : wm U [] = st U 0 23 0 := by
  unfold wm
  rw [lay_nil]
  congr 1
  funext a
  by_cases h : a = 12
  · rw [h, ms_eq]
  · rw [ms_id h]
theorem chr {c : Nat} (hc : c < 65536) : vp_nar .char ((nI c).toUInt32 % 65536).toInt32 = nI c := by
  rw [pk_vc, pk_char, pk_tn (by omega)]
  congr 1
  omega
theorem add_x {V : Mem} {z c : Nat} {L : List Nat} (hL : L.length < 23) (hc : c < 65536) : f_X4_add z (nI c) (wx V z L) = some (wx V z (L ++ [c])) := by
  unfold f_X4_add
  have e1 : wx V z L z 1 = nI L.length := by unfold wx; rw [st_same]
  have e2 : ∀ x, st (wx V z L) (z + 1) L.length x z 1 = nI L.length := by intro x; rw [st_ne1 (by omega)]; exact e1
  have e3 : nI L.length + 1 = nI (L.length + 1) := nI_1 _
  rw [e1, if_neg (by rw [li, nle (by omega) (by omega)]; omega), if_pos (ibt hL (by omega)), ncl (by omega), chr hc, e2, e3]
  congr 1
  unfold wx
  apply mem_ext
  intro a b
  rw [List.length_append, List.length_singleton]
  by_cases h1 : a = z
  · subst h1
    by_cases h2 : b = 1
    · subst h2
      rw [st_same, st_same]
    · rw [st_ne2 h2, st_ne2 h2, st_ne1 (by omega), st_ne2 h2, ms_ne (by omega), ms_ne (by omega)]
  · rw [st_ne1 h1, st_ne1 h1]
    by_cases h3 : a = z + 1
    · subst h3
      rw [st_at, st_ne1 h1, ms_same, ms_same, lay_snoc]
      by_cases h4 : b = L.length
      · rw [if_pos ⟨rfl, h4⟩, if_pos h4]
      · rw [if_neg (fun q => h4 q.2), if_neg h4]
    · rw [st_ne1 h3, st_ne1 h1, ms_ne h3, ms_ne h3]
theorem add_m {U : Mem} {c : Nat} {L : List Nat} (hL : L.length < 40) : f_X7_writes (nI c) (wm U L) = some (wm U (L ++ [c])) := by
  unfold f_X7_writes
  have e1 : wm U L 0 23 = nI L.length := by unfold wm; rw [st_same]
  have e2 : ∀ x, st (wm U L) 12 L.length x 0 23 = nI L.length := by intro x; rw [st_ne1 (by omega)]; exact e1
  have e3 : nI L.length + 1 = nI (L.length + 1) := nI_1 _
  rw [e1, if_pos (ibt hL (by omega)), ncl (by omega), e2, e3]
  congr 1
  unfold wm
  apply mem_ext
  intro a b
  rw [List.length_append, List.length_singleton]
  by_cases h1 : a = 0
  · subst h1
    by_cases h2 : b = 23
    · subst h2
      rw [st_same, st_same]
    · rw [st_ne2 h2, st_ne2 h2, st_ne1 (by omega), st_ne2 h2, ms_ne (by omega), ms_ne (by omega)]
  · rw [st_ne1 h1, st_ne1 h1]
    by_cases h3 : a = 12
    · subst h3
      rw [st_at, st_ne1 h1, ms_same, ms_same, lay_snoc]
      by_cases h4 : b = L.length
      · rw [if_pos ⟨rfl, h4⟩, if_pos h4]
      · rw [if_neg (fun q => h4 q.2), if_neg h4]
    · rw [st_ne1 h3, st_ne1 h1, ms_ne h3, ms_ne h3]
def figs (v : Nat) : List Nat := if v ≤ 9 then [48 + v] else [48 + v / 10, 48 + v % 10]
def lets (v f : Nat) : List Nat := if v ≤ 26 then [f + (v - 1) % 26] else [f + (v - 1) / 26 - 1, f + (v - 1) % 26]
def rp : Nat → List Nat → List Nat
  | 0, _ => []
  | q + 1, l => l ++ rp q l
def romF (d a b c : Nat) : List Nat := if d = 9 then [a, c] else if d = 4 then [a, b] else (if d ≤ 4 then [] else [b]) ++ rp (d % 5) [a]
def rom (v : Nat) : List Nat := romF (v / 10) 120 108 99 ++ romF (v % 10) 105 118 120
def num (v s : Nat) : List Nat := if v = 0 ∨ s = 0 then figs v else if s = 2 then rom v else lets v (if s = 1 then 97 else 65)
theorem num_len : ∀ v, v ≤ 44 → ∀ s, s ≤ 3 → 1 ≤ (num v s).length ∧ (num v s).length ≤ 7 := by
  intro v hv s hs
  have h := List.all_eq_true.mp (show (List.range 45).all (fun v => (List.range 4).all (fun s => decide (1 ≤ (num v s).length ∧ (num v s).length ≤ 7))) = true by decide) v (List.mem_range.mpr (by omega))
  have h2 := List.all_eq_true.mp h s (List.mem_range.mpr (by omega))
  exact of_decide_eq_true h2
theorem remI {a d : Nat} (ha : a < 2147483648) (h0 : 0 < d) (hd : d < 2147483648) : nI a - nI a / nI d * nI d = nI (a % d) := pk_rem ha h0 hd
theorem divI {a d : Nat} (ha : a < 2147483648) (h0 : 0 < d) (hd : d < 2147483648) : nI a / nI d = nI (a / d) := pk_div ha h0 hd
theorem figs_x {V : Mem} {z v : Nat} {L : List Nat} (hv : v ≤ 44) (hL : L.length + (figs v).length ≤ 23) : f_X4_addFigures z (nI v) (wx V z L) = some (wx V z (L ++ figs v)) := by
  unfold f_X4_addFigures
  have s31 : ∀ (n u : Nat), 1 < u → v < u → u ≤ 1000 → f_X4_addFigures_4 z (n + 1) (nI v) (nI u) (wx V z L) = f_X4_addFigures_4 z n (nI v) (nI (u / 10)) (wx V z L) := by
    intro n u h1 h2 h3
    rw [f_X4_addFigures_4, if_neg (by rw [li, nle (by omega) (by omega)]; omega), if_neg (by rw [nle (by omega) (by omega)]; omega), if_neg (by rw [li, neq (by omega) (by omega)]; omega), f_X4_addFigures_31, show (10 : Int32) = nI 10 from rfl, divI (by omega) (by omega) (by omega)]
  have s18 : ∀ (n u : Nat) (M : List Nat), 1 ≤ u → u ≤ 10 → (u ≤ v ∨ u = 1) → M.length < 23 → f_X4_addFigures_4 z (n + 1) (nI v) (nI u) (wx V z M) = f_X4_addFigures_4 z n (nI v) (nI (u / 10)) (wx V z (M ++ [48 + v / u % 10])) := by
    intro n u M h1 h2 h3 h4
    have body : f_X4_addFigures_18 z (f_X4_addFigures_4 z n) (nI v) (nI u) (wx V z M) = f_X4_addFigures_4 z n (nI v) (nI (u / 10)) (wx V z (M ++ [48 + v / u % 10])) := by
      have hq : v / u ≤ v := Nat.div_le_self v u
      rw [f_X4_addFigures_18, if_neg (by rw [li, neq (by omega) (by omega)]; omega), show (10 : Int32) = nI 10 from rfl, divI (by omega) (by omega) (by omega), remI (by omega) (by omega) (by omega), show (48 : Int32) = nI 48 from rfl, nad, add_x h4 (by omega), Option.bind_some, f_X4_addFigures_31, show (10 : Int32) = nI 10 from rfl, divI (by omega) (by omega) (by omega)]
    rw [f_X4_addFigures_4, if_neg (by rw [li, nle (by omega) (by omega)]; omega)]
    by_cases h5 : u ≤ v
    · rw [if_pos (by rw [nle (by omega) (by omega)]; exact h5), body]
    · rw [if_neg (by rw [nle (by omega) (by omega)]; exact h5), if_pos (by rw [li, neq (by omega) (by omega)]; omega), body]
  have s0 : ∀ (n : Nat) (M : List Nat), f_X4_addFigures_4 z (n + 1) (nI v) (nI 0) (wx V z M) = some (wx V z M) := by
    intro n M
    rw [f_X4_addFigures_4, if_pos (by rw [li, nle (by omega) (by omega)]; omega)]
  have g : f_X4_addFigures_4 z (4091 + 1 + 1 + 1 + 1 + 1) (nI v) (nI 1000) (wx V z L) = some (wx V z (L ++ figs v)) := by
    rw [s31 _ 1000 (by omega) (by omega) (by omega), show 1000 / 10 = 100 from rfl, s31 _ 100 (by omega) (by omega) (by omega), show 100 / 10 = 10 from rfl]
    unfold figs at hL ⊢
    by_cases h9 : v ≤ 9
    · rw [if_pos h9] at hL ⊢
      rw [List.length_singleton] at hL
      rw [s31 _ 10 (by omega) (by omega) (by omega), show 10 / 10 = 1 from rfl, s18 _ 1 L (by omega) (by omega) (Or.inr rfl) (by omega), show 1 / 10 = 0 from rfl, s0]
      congr 5
      omega
    · rw [if_neg h9] at hL ⊢
      simp only [List.length_cons, List.length_nil] at hL
      rw [s18 _ 10 L (by omega) (by omega) (Or.inl (by omega)) (by omega), show 10 / 10 = 1 from rfl, s18 _ 1 _ (by omega) (by omega) (Or.inr rfl) (by rw [List.length_append, List.length_singleton]; omega), show 1 / 10 = 0 from rfl, s0, List.append_assoc]
      have e1 : v / 10 % 10 = v / 10 := by omega
      have e2 : v / 1 % 10 = v % 10 := by omega
      rw [e1, e2]
      rfl
  exact g
theorem figs_m {U : Mem} {v : Nat} {L : List Nat} (hv : v ≤ 44) (hL : L.length + (figs v).length ≤ 40) : f_X7_figures (nI v) (wm U L) = some (wm U (L ++ figs v)) := by
  unfold f_X7_figures f_X7_figures_17
  unfold figs at hL ⊢
  rw [show (10 : Int32) = nI 10 from rfl, divI (by omega) (by omega) (by omega), show nI v - nI (v / 10) * nI 10 = nI (v % 10) from by rw [← divI (by omega) (by omega) (by omega)]; exact remI (by omega) (by omega) (by omega), show (48 : Int32) = nI 48 from rfl, nad, nad]
  by_cases h9 : v ≤ 9
  · rw [if_pos h9] at hL ⊢
    rw [List.length_singleton] at hL
    rw [if_pos (by rw [li, nle (by omega) (by omega)]; exact h9), add_m (by omega), Option.bind_some]
    congr 5
    omega
  · rw [if_neg h9] at hL ⊢
    simp only [List.length_cons, List.length_nil] at hL
    rw [if_neg (by rw [li, nle (by omega) (by omega)]; exact h9), add_m (by omega), Option.bind_some, add_m (by rw [List.length_append, List.length_singleton]; omega), Option.bind_some, List.append_assoc]
    rfl
theorem lets_x {V : Mem} {z v f : Nat} {L : List Nat} (h1 : 1 ≤ v) (hv : v ≤ 44) (hf : 1 ≤ f ∧ f < 200) (hL : L.length + (lets v f).length ≤ 23) : f_X4_addLetters z (nI v) (nI f) (wx V z L) = some (wx V z (L ++ lets v f)) := by
  unfold f_X4_addLetters f_X4_addLetters_20
  unfold lets at hL ⊢
  have e0 : nI v - 1 = nI (v - 1) := nsb (b := 1) h1
  rw [e0, show (26 : Int32) = nI 26 from rfl, remI (by omega) (by omega) (by omega), divI (by omega) (by omega) (by omega), nad, nad]
  by_cases h9 : v ≤ 26
  · rw [if_pos h9] at hL ⊢
    rw [List.length_singleton] at hL
    rw [if_pos (by rw [nle (by omega) (by omega)]; exact h9), add_x (by omega) (by omega), Option.bind_some]
  · rw [if_neg h9] at hL ⊢
    simp only [List.length_cons, List.length_nil] at hL
    have e1 : nI (f + (v - 1) / 26) - 1 = nI (f + (v - 1) / 26 - 1) := nsb (b := 1) (by omega)
    rw [if_neg (by rw [nle (by omega) (by omega)]; exact h9), e1, add_x (by omega) (by omega), Option.bind_some, add_x (by rw [List.length_append, List.length_singleton]; omega) (by omega), Option.bind_some, List.append_assoc]
    rfl
theorem lets_m {U : Mem} {v f : Nat} {L : List Nat} (h1 : 1 ≤ v) (hv : v ≤ 44) (hf : 1 ≤ f ∧ f < 200) (hL : L.length + (lets v f).length ≤ 40) : f_X7_letters (nI v) (nI f) (wm U L) = some (wm U (L ++ lets v f)) := by
  unfold f_X7_letters f_X7_letters_20
  unfold lets at hL ⊢
  have e0 : nI v - 1 = nI (v - 1) := nsb (b := 1) h1
  rw [e0, show (26 : Int32) = nI 26 from rfl, remI (by omega) (by omega) (by omega), divI (by omega) (by omega) (by omega), nad, nad]
  by_cases h9 : v ≤ 26
  · rw [if_pos h9] at hL ⊢
    rw [List.length_singleton] at hL
    rw [if_pos (by rw [nle (by omega) (by omega)]; exact h9), add_m (by omega), Option.bind_some]
  · rw [if_neg h9] at hL ⊢
    simp only [List.length_cons, List.length_nil] at hL
    have e1 : nI (f + (v - 1) / 26) - 1 = nI (f + (v - 1) / 26 - 1) := nsb (b := 1) (by omega)
    rw [if_neg (by rw [nle (by omega) (by omega)]; exact h9), e1, add_m (by omega), Option.bind_some, add_m (by rw [List.length_append, List.length_singleton]; omega), Option.bind_some, List.append_assoc]
    rfl
end
section
/-! Roman numerals, numerals, labels. -/
def vl (k : Nat) : Nat := [50, 40, 10, 9, 5, 4, 1].getD k 1
def sg (k : Nat) : List Nat := [[108], [120, 108], [120], [105, 120], [118], [105, 118], [105]].getD k []
def romX : Nat → Nat → Nat → List Nat
  | 0, _, _ => []
  | d + 1, k, r => rp (r / vl k) (sg k) ++ romX d (k + 1) (r % vl k)
theorem romX_eq : ∀ v, v ≤ 44 → romX 7 0 v = rom v := by
  intro v hv
  have h := List.all_eq_true.mp (show (List.range 45).all (fun v => decide (romX 7 0 v = rom v)) = true by decide) v (List.mem_range.mpr (by omega))
  exact of_decide_eq_true h
theorem rom_st {V : Mem} {z n k rest : Nat} {K : Int32 → Int32 → Mem → Option Mem} {L : List Nat} (hk : k < 7) (hr : vl k ≤ rest) (hr2 : rest < 1000) (hL : L.length + (sg k).length ≤ 23) : f_X4_addRoman_12 z K (n + 1) (nI rest) (nI k) (wx V z L) = f_X4_addRoman_12 z K n (nI (rest - vl k)) (nI k) (wx V z (L ++ sg k)) := by
  have i7 : ib (nI k) 7 = true := ibt (by omega) (by omega)
  have ev : tba 4 k = nI (vl k) := by rcases (show k = 0 ∨ k = 1 ∨ k = 2 ∨ k = 3 ∨ k = 4 ∨ k = 5 ∨ k = 6 by omega) with rfl | rfl | rfl | rfl | rfl | rfl | rfl <;> rfl
  have hv : vl k < 1000 := by omega
  rw [f_X4_addRoman_12, if_pos i7, ncl (by omega), ev, if_neg (by rw [nlt (by omega) (by omega)]; omega)]
  simp only [if_pos i7]
  have one : ∀ c, c < 65536 → tba 5 k = nI c → tba 6 k = 0 → sg k = [c] → ((f_X4_add z (tba 5 k) (wx V z L)).bind fun q27 => if tba 6 k = 0 then f_X4_addRoman_47 z (f_X4_addRoman_12 z K n) (nI rest) (nI k) q27 else (f_X4_add z (tba 6 k) q27).bind fun q44 => f_X4_addRoman_47 z (f_X4_addRoman_12 z K n) (nI rest) (nI k) q44) = f_X4_addRoman_12 z K n (nI (rest - vl k)) (nI k) (wx V z (L ++ sg k)) := by
    intro c hc h5 h6 hs
    rw [hs, List.length_singleton] at hL
    rw [h5, add_x (by omega) hc, Option.bind_some, if_pos h6, f_X4_addRoman_47, if_pos i7, ncl (by omega), ev, nsb hr, hs]
  have two : ∀ c d, c < 65536 → d < 65536 → 0 < d → tba 5 k = nI c → tba 6 k = nI d → sg k = [c, d] → ((f_X4_add z (tba 5 k) (wx V z L)).bind fun q27 => if tba 6 k = 0 then f_X4_addRoman_47 z (f_X4_addRoman_12 z K n) (nI rest) (nI k) q27 else (f_X4_add z (tba 6 k) q27).bind fun q44 => f_X4_addRoman_47 z (f_X4_addRoman_12 z K n) (nI rest) (nI k) q44) = f_X4_addRoman_12 z K n (nI (rest - vl k)) (nI k) (wx V z (L ++ sg k)) := by
    intro c d hc hd h0 h5 h6 hs
    rw [hs] at hL
    simp only [List.length_cons, List.length_nil] at hL
    rw [h5, add_x (by omega) hc, Option.bind_some, h6, if_neg (by rw [li, neq (by omega) (by omega)]; omega), add_x (by rw [List.length_append, List.length_singleton]; omega) hd, Option.bind_some, f_X4_addRoman_47, if_pos i7, ncl (by omega), ev, nsb hr, hs, List.append_assoc]
    rfl
  rcases (show k = 0 ∨ k = 1 ∨ k = 2 ∨ k = 3 ∨ k = 4 ∨ k = 5 ∨ k = 6 by omega) with rfl | rfl | rfl | rfl | rfl | rfl | rfl
  · exact one 108 (by omega) rfl rfl rfl
  · exact two 120 108 (by omega) (by omega) (by omega) rfl rfl rfl
  · exact one 120 (by omega) rfl rfl rfl
  · exact two 105 120 (by omega) (by omega) (by omega) rfl rfl rfl
  · exact one 118 (by omega) rfl rfl rfl
  · exact two 105 118 (by omega) (by omega) (by omega) rfl rfl rfl
  · exact one 105 (by omega) rfl rfl rfl
theorem vl_pos {k : Nat} (hk : k < 7) : 1 ≤ vl k ∧ vl k ≤ 50 := by
  rcases (show k = 0 ∨ k = 1 ∨ k = 2 ∨ k = 3 ∨ k = 4 ∨ k = 5 ∨ k = 6 by omega) with rfl | rfl | rfl | rfl | rfl | rfl | rfl <;> decide
theorem rom_in {V : Mem} {z k : Nat} {K : Int32 → Int32 → Mem → Option Mem} (hk : k < 7) : ∀ (q n rest : Nat) (L : List Nat), rest / vl k = q → q < n → rest < 1000 → L.length + (rp q (sg k)).length ≤ 23 → f_X4_addRoman_12 z K n (nI rest) (nI k) (wx V z L) = K (nI (rest % vl k)) (nI (k + 1)) (wx V z (L ++ rp q (sg k))) := by
  have hv := vl_pos hk
  have i7 : ib (nI k) 7 = true := ibt (by omega) (by omega)
  have ev : tba 4 k = nI (vl k) := by rcases (show k = 0 ∨ k = 1 ∨ k = 2 ∨ k = 3 ∨ k = 4 ∨ k = 5 ∨ k = 6 by omega) with rfl | rfl | rfl | rfl | rfl | rfl | rfl <;> rfl
  intro q
  induction q with
  | zero =>
    intro n rest L hq hn hr hL
    obtain ⟨n, rfl⟩ : ∃ n', n = n' + 1 := ⟨n - 1, by omega⟩
    have hlt : rest < vl k := by
      rcases Nat.lt_or_ge rest (vl k) with h | h
      · exact h
      · have := Nat.div_pos h (by omega)
        omega
    have e1 : nI k + 1 = nI (k + 1) := nI_1 k
    rw [f_X4_addRoman_12, if_pos i7, ncl (by omega), ev, if_pos (by rw [nlt (by omega) (by omega)]; exact hlt), e1, Nat.mod_eq_of_lt hlt, rp, List.append_nil]
  | succ q ih =>
    intro n rest L hq hn hr hL
    obtain ⟨n, rfl⟩ : ∃ n', n = n' + 1 := ⟨n - 1, by omega⟩
    have hge : vl k ≤ rest := by
      rcases Nat.lt_or_ge rest (vl k) with h | h
      · rw [Nat.div_eq_of_lt h] at hq
        omega
      · exact h
    rw [rp, List.length_append] at hL
    have hd : (rest - vl k) / vl k = q := by
      have := Nat.div_eq_sub_div (show 0 < vl k by omega) hge
      omega
    rw [rom_st hk hge hr (by omega), ih n (rest - vl k) _ hd (by omega) (by omega) (by rw [List.length_append]; omega), rp, List.append_assoc, Nat.mod_eq_sub_mod hge]
theorem rom_out {V : Mem} {z : Nat} : ∀ (d n k rest : Nat) (L : List Nat), k + d = 7 → d < n → rest < 1000 → L.length + (romX d k rest).length ≤ 23 → f_X4_addRoman_4 z n (nI rest) (nI k) (wx V z L) = some (wx V z (L ++ romX d k rest)) := by
  intro d
  induction d with
  | zero =>
    intro n k rest L hk hn hr hL
    obtain ⟨n, rfl⟩ : ∃ n', n = n' + 1 := ⟨n - 1, by omega⟩
    rw [f_X4_addRoman_4, if_pos (by rw [li, nle (by omega) (by omega)]; omega), romX, List.append_nil]
  | succ d ih =>
    intro n k rest L hk hn hr hL
    obtain ⟨n, rfl⟩ : ∃ n', n = n' + 1 := ⟨n - 1, by omega⟩
    have hv := vl_pos (show k < 7 by omega)
    have hq : rest / vl k ≤ rest := Nat.div_le_self _ _
    have hm : rest % vl k < vl k := Nat.mod_lt _ (by omega)
    rw [romX, List.length_append] at hL
    rw [f_X4_addRoman_4, if_neg (by rw [li, nle (by omega) (by omega)]; omega), rom_in (by omega) _ 4096 rest L rfl (by omega) hr (by omega), ih n (k + 1) _ _ (by omega) (by omega) (by omega) (by rw [List.length_append]; omega), romX, List.append_assoc]
theorem roman_x {V : Mem} {z v : Nat} {L : List Nat} (hv : v ≤ 44) (hL : L.length + (rom v).length ≤ 23) : f_X4_addRoman z (nI v) (wx V z L) = some (wx V z (L ++ rom v)) := by
  unfold f_X4_addRoman
  rw [← romX_eq v hv] at hL ⊢
  exact rom_out 7 4096 0 v L (by omega) (by omega) (by omega) hL
theorem rf51 {U : Mem} {d c : Nat} (hd : d < 10) : ∀ (q n j : Nat) (L : List Nat), j + q = d % 5 → q < n → L.length + q ≤ 40 → f_X7_romanFigure_51 n (nI d) (nI c) (nI j) (wm U L) = some (wm U (L ++ rp q [c])) := by
  intro q
  induction q with
  | zero =>
    intro n j L hj hn hL
    obtain ⟨n, rfl⟩ : ∃ n', n = n' + 1 := ⟨n - 1, by omega⟩
    rw [f_X7_romanFigure_51, show (5 : Int32) = nI 5 from rfl, remI (by omega) (by omega) (by omega), if_pos (by rw [nle (by omega) (by omega)]; omega), rp, List.append_nil]
  | succ q ih =>
    intro n j L hj hn hL
    obtain ⟨n, rfl⟩ : ∃ n', n = n' + 1 := ⟨n - 1, by omega⟩
    have e1 : nI j + 1 = nI (j + 1) := nI_1 j
    rw [f_X7_romanFigure_51, show (5 : Int32) = nI 5 from rfl, remI (by omega) (by omega) (by omega), if_neg (by rw [nle (by omega) (by omega)]; omega), add_m (by omega), Option.bind_some, e1, ih n (j + 1) _ (by omega) (by omega) (by rw [List.length_append, List.length_singleton]; omega), rp, List.append_assoc]
theorem rp_len : ∀ (q c : Nat), (rp q [c]).length = q := by
  intro q c
  induction q with
  | zero => rfl
  | succ q ih => rw [rp, List.length_append, ih, List.length_singleton]; omega
theorem romF_m {U : Mem} {d a b c : Nat} {L : List Nat} (hd : d < 10) (hL : L.length + (romF d a b c).length ≤ 40) : f_X7_romanFigure (nI d) (nI a) (nI b) (nI c) (wm U L) = some (wm U (L ++ romF d a b c)) := by
  unfold f_X7_romanFigure f_X7_romanFigure_48
  unfold romF at hL ⊢
  by_cases h9 : d = 9
  · rw [if_pos h9] at hL ⊢
    simp only [List.length_cons, List.length_nil] at hL
    rw [if_pos (by rw [h9]; rfl), add_m (by omega), Option.bind_some, add_m (by rw [List.length_append, List.length_singleton]; omega), Option.bind_some, List.append_assoc]
    rfl
  · rw [if_neg h9] at hL ⊢
    rw [if_neg (by rw [li, neq (by omega) (by omega)]; exact h9)]
    by_cases h4 : d = 4
    · rw [if_pos h4] at hL ⊢
      simp only [List.length_cons, List.length_nil] at hL
      rw [if_pos (by rw [h4]; rfl), add_m (by omega), Option.bind_some, add_m (by rw [List.length_append, List.length_singleton]; omega), Option.bind_some, List.append_assoc]
      rfl
    · rw [if_neg h4] at hL ⊢
      rw [if_neg (by rw [li, neq (by omega) (by omega)]; exact h4)]
      rw [List.length_append, rp_len] at hL
      by_cases h5 : d ≤ 4
      · rw [if_pos h5] at hL ⊢
        rw [if_pos (by rw [li, nle (by omega) (by omega)]; exact h5), List.nil_append]
        exact rf51 hd (d % 5) 4096 0 L (by omega) (by omega) (by omega)
      · rw [if_neg h5] at hL ⊢
        rw [List.length_singleton] at hL
        rw [if_neg (by rw [li, nle (by omega) (by omega)]; exact h5), add_m (by omega), Option.bind_some]
        have e := rf51 (U := U) (c := a) hd (d % 5) 4096 0 (L ++ [b]) (by omega) (by omega) (by rw [List.length_append, List.length_singleton]; omega)
        rw [List.append_assoc] at e
        exact e
theorem num_x {V : Mem} {z v s : Nat} {L : List Nat} (hv : v ≤ 44) (hs : s ≤ 3) (hL : L.length + (num v s).length ≤ 23) : f_X4_addNumerals z (nI v) (nI s) (wx V z L) = some (wx V z (L ++ num v s)) := by
  unfold f_X4_addNumerals f_X4_addNumerals_8 f_X4_addNumerals_43_cz
  unfold num at hL ⊢
  by_cases h0 : v = 0
  · rw [if_pos (Or.inl h0)] at hL ⊢
    rw [if_pos (by rw [h0]; rfl), figs_x hv hL, Option.bind_some]
  · rw [if_neg (by rw [li, neq (by omega) (by omega)]; exact h0)]
    by_cases s0 : s = 0
    · rw [if_pos (Or.inr s0)] at hL ⊢
      rw [if_pos (by rw [s0]; rfl), figs_x hv hL, Option.bind_some]
    · rw [if_neg (show ¬ (v = 0 ∨ s = 0) by omega)] at hL ⊢
      rw [if_neg (show ¬ nI s = (0 : Int32) by rw [li, neq (by omega) (by omega)]; exact s0)]
      by_cases s2 : s = 2
      · rw [if_pos s2] at hL ⊢
        rw [if_pos (by rw [s2]; rfl), roman_x hv hL, Option.bind_some]
      · rw [if_neg s2] at hL ⊢
        rw [if_neg (by rw [li, neq (by omega) (by omega)]; exact s2)]
        by_cases s1 : s = 1
        · rw [if_pos s1] at hL ⊢
          rw [if_pos (by rw [s1]; rfl), show (97 : Int32) = nI 97 from rfl, lets_x (by omega) hv (by omega) hL, Option.bind_some]
        · rw [if_neg s1] at hL ⊢
          rw [if_neg (by rw [li, neq (by omega) (by omega)]; exact s1), show (65 : Int32) = nI 65 from rfl, lets_x (by omega) hv (by omega) hL, Option.bind_some]
theorem num_m {U : Mem} {v s : Nat} {L : List Nat} (hv : v ≤ 44) (hs : s ≤ 3) (hL : L.length + (num v s).length ≤ 40) : f_X7_numerals (nI v) (nI s) (wm U L) = some (wm U (L ++ num v s)) := by
  unfold f_X7_numerals f_X7_numerals_8 f_X7_numerals_66_c0
  unfold num at hL ⊢
  by_cases h0 : v = 0
  · rw [if_pos (Or.inl h0)] at hL ⊢
    rw [if_pos (by rw [h0]; rfl), figs_m hv hL, Option.bind_some]
  · rw [if_neg (by rw [li, neq (by omega) (by omega)]; exact h0)]
    by_cases s0 : s = 0
    · rw [if_pos (Or.inr s0)] at hL ⊢
      rw [if_pos (by rw [s0]; rfl), figs_m hv hL, Option.bind_some]
    · rw [if_neg (show ¬ (v = 0 ∨ s = 0) by omega)] at hL ⊢
      rw [if_neg (show ¬ nI s = (0 : Int32) by rw [li, neq (by omega) (by omega)]; exact s0)]
      by_cases s2 : s = 2
      · rw [if_pos s2] at hL ⊢
        unfold rom at hL ⊢
        rw [List.length_append] at hL
        rw [if_pos (by rw [s2]; rfl), show (10 : Int32) = nI 10 from rfl, remI (by omega) (by omega) (by omega), divI (by omega) (by omega) (by omega)]
        have e1 := romF_m (U := U) (d := v / 10) (a := 120) (b := 108) (c := 99) (L := L) (by omega) (by omega)
        have e1' : f_X7_romanFigure (nI (v / 10)) 120 108 99 (wm U L) = _ := e1
        have e2 := romF_m (U := U) (d := v % 10) (a := 105) (b := 118) (c := 120) (L := L ++ romF (v / 10) 120 108 99) (by omega) (by rw [List.length_append]; omega)
        have e2' : f_X7_romanFigure (nI (v % 10)) 105 118 120 (wm U (L ++ romF (v / 10) 120 108 99)) = _ := e2
        rw [e1', Option.bind_some, e2', Option.bind_some, List.append_assoc]
      · rw [if_neg s2] at hL ⊢
        rw [if_neg (by rw [li, neq (by omega) (by omega)]; exact s2)]
        by_cases s1 : s = 1
        · rw [if_pos s1] at hL ⊢
          rw [if_pos (by rw [s1]; rfl), show (97 : Int32) = nI 97 from rfl, lets_m (by omega) hv (by omega) hL, Option.bind_some]
        · rw [if_neg s1] at hL ⊢
          rw [if_neg (by rw [li, neq (by omega) (by omega)]; exact s1), show (65 : Int32) = nI 65 from rfl, lets_m (by omega) hv (by omega) hL, Option.bind_some]
end
section
/-! Labels of paragraphs. -/
def sty (S : Sh) (l : Nat) : Nat := S.1.getD l 0
def lb (S : Sh) (k : Nat) : Nat → Nat → List Nat → List Nat
  | 0, _, L => L
  | d + 1, l, L => lb S k d (l + 1) ((if L = [] then L else L ++ [46]) ++ num (cnt S.2 (k + 1) l) (sty S l))
def lowL (S : Sh) (k f : Nat) : Nat := if (pg S.2 k).2.1 ≤ f then (pg S.2 k).2.1 else f
def lab (S : Sh) (k f : Nat) : List Nat := if (pg S.2 k).1 ≤ 3 then lb S k ((pg S.2 k).2.1 + 1 - lowL S k f) (lowL S k f) [] else []
theorem sty_le {S : Sh} (hok : okS S) {l : Nat} (hl : l < 3) : sty S l ≤ 3 := by
  unfold sty
  rw [List.getD_eq_getElem?_getD, List.getElem?_eq_getElem (by rw [hok.1]; exact hl)]
  exact hok.2.1 _ (List.getElem_mem _)
theorem cnt44 {S : Sh} (hok : okS S) {k : Nat} (hk : k < S.2.length) (l : Nat) : cnt S.2 (k + 1) l ≤ 44 := by
  have := cnt_le hok.2.2.2 (k + 1) (by omega) l
  have := hok.2.2.1
  omega
/-- length of what is written: at most eight signs a level, the first without a point -/
def okL (L : List Nat) (j : Nat) : Prop := (L = [] ∧ j = 0) ∨ (1 ≤ L.length ∧ L.length + 1 ≤ 8 * j)
theorem okL_step {L : List Nat} {j v s : Nat} (h : okL L j) (hv : v ≤ 44) (hs : s ≤ 3) : okL ((if L = [] then L else L ++ [46]) ++ num v s) (j + 1) := by
  have hn := num_len v hv s hs
  right
  rw [List.length_append]
  rcases h with ⟨h1, h2⟩ | ⟨h1, h2⟩
  · rw [if_pos h1, h1]
    simp only [List.length_nil]
    omega
  · have hne : ¬ L = [] := fun e => by rw [e] at h1; simp at h1
    rw [if_neg hne, List.length_append, List.length_singleton]
    omega
theorem lb_x {z r r5 k own : Nat} {S : Sh} {V : Mem} (hok : okS S) (hk : k < S.2.length) (ho : own ≤ 2) (hr : r5 ≠ r ∧ r5 ≠ r + 1 ∧ z + 1 ≠ r ∧ z + 1 ≠ r + 1) (h5 : ∀ x, x < 6 → V r5 x = nI (cnt S.2 (k + 1) x)) (hs : ∀ l, l < 3 → V (z + 1) l = nI (sty S l)) : ∀ (d n l j : Nat) (L : List Nat), l + d = own + 1 → d < n → okL L j → j ≤ l → f_X3_writeLabel_37 z n r (nI own) r5 (nI l) (wx V r L) = some (wx V r (lb S k d l L)) := by
  intro d
  induction d with
  | zero =>
    intro n l j L hl hn hL hj
    obtain ⟨n, rfl⟩ : ∃ n', n = n' + 1 := ⟨n - 1, by omega⟩
    rw [f_X3_writeLabel_37, if_pos (by rw [nlt (by omega) (by omega)]; omega)]
    rfl
  | succ d ih =>
    intro n l j L hl hn hL hj
    obtain ⟨n, rfl⟩ : ∃ n', n = n' + 1 := ⟨n - 1, by omega⟩
    have hc := cnt44 hok hk l
    have hst := sty_le hok (show l < 3 by omega)
    have hnl := num_len _ hc _ hst
    have e1 : nI l + 1 = nI (l + 1) := nI_1 l
    have el : ∀ M : List Nat, wx V r M r 1 = nI M.length := fun M => by unfold wx; rw [st_same]
    have r1 : ∀ M : List Nat, wx V r M r5 l = nI (cnt S.2 (k + 1) l) := fun M => by unfold wx; rw [st_ne1 hr.1, ms_ne hr.2.1]; exact h5 l (by omega)
    have r2 : ∀ M : List Nat, wx V r M (z + 1) l = nI (sty S l) := fun M => by unfold wx; rw [st_ne1 hr.2.2.1, ms_ne hr.2.2.2]; exact hs l (by omega)
    have hstep := okL_step (v := cnt S.2 (k + 1) l) (s := sty S l) hL hc hst
    have body : ∀ M : List Nat, M.length + (num (cnt S.2 (k + 1) l) (sty S l)).length ≤ 23 → f_X3_writeLabel_57 z (f_X3_writeLabel_37 z n) r (nI own) r5 (nI l) (wx V r M) = f_X3_writeLabel_37 z n r (nI own) r5 (nI (l + 1)) (wx V r (M ++ num (cnt S.2 (k + 1) l) (sty S l))) := by
      intro M hM
      rw [f_X3_writeLabel_57, if_pos (ibt (by omega) (by omega)), if_pos (ibt (by omega) (by omega)), ncl (by omega), r1, r2, num_x hc hst hM, Option.bind_some, e1]
    rw [f_X3_writeLabel_37, if_neg (by rw [nlt (by omega) (by omega)]; omega), el, lb]
    rcases hL with ⟨h1, h2⟩ | ⟨h1, h2⟩
    · subst h1
      rw [if_pos (by decide), body [] (by simp only [List.length_nil]; omega)]
      rw [if_pos rfl] at hstep ⊢
      exact ih n (l + 1) (j + 1) _ (by omega) (by omega) hstep (by omega)
    · have hne : ¬ L = [] := fun e => by rw [e] at h1; simp at h1
      have hlen : L.length < 2147483648 := by omega
      rw [if_neg (by rw [li, nle hlen (by omega)]; omega), show (46 : Int32) = nI 46 from rfl, add_x (by omega) (by omega), Option.bind_some, body _ (by rw [List.length_append, List.length_singleton]; omega)]
      rw [if_neg hne] at hstep ⊢
      exact ih n (l + 1) (j + 1) _ (by omega) (by omega) hstep (by omega)
theorem lb_m {r k own low : Nat} {S : Sh} {U : Mem} (hok : okS S) (hk : k < S.2.length) (ho : own ≤ 2) (hr : r ≠ 0 ∧ r ≠ 12) (h11 : ∀ l, l < 3 → U 11 (3 * k + l) = nI (cnt S.2 (k + 1) l)) (hs : ∀ l, l < 3 → U r (1 + l) = nI (sty S l)) : ∀ (d n l j : Nat) (L : List Nat), l + d = own + 1 → d < n → okL L j → l = low + j → f_X7_writeLabel_39 n r (nI k) (nI own) (nI low) (nI l) (wm U L) = some (wm U (lb S k d l L)) := by
  have h24 := hok.2.2.1
  intro d
  induction d with
  | zero =>
    intro n l j L hl hn hL hj
    obtain ⟨n, rfl⟩ : ∃ n', n = n' + 1 := ⟨n - 1, by omega⟩
    rw [f_X7_writeLabel_39, if_pos (by rw [nlt (by omega) (by omega)]; omega)]
    rfl
  | succ d ih =>
    intro n l j L hl hn hL hj
    obtain ⟨n, rfl⟩ : ∃ n', n = n' + 1 := ⟨n - 1, by omega⟩
    have hc := cnt44 hok hk l
    have hst := sty_le hok (show l < 3 by omega)
    have hnl := num_len _ hc _ hst
    have e1 : nI l + 1 = nI (l + 1) := nI_1 l
    have e2 : (3 : Int32) * nI k + nI l = nI (3 * k + l) := by rw [li, pk_mul, nad]
    have e3 : (1 : Int32) + nI l = nI (1 + l) := by rw [li, nad]
    have r1 : ∀ M : List Nat, wm U M 11 (3 * k + l) = nI (cnt S.2 (k + 1) l) := fun M => by unfold wm; rw [st_ne1 (by omega), ms_ne (by omega)]; exact h11 l (by omega)
    have r2 : ∀ M : List Nat, wm U M r (1 + l) = nI (sty S l) := fun M => by unfold wm; rw [st_ne1 hr.1, ms_ne hr.2]; exact hs l (by omega)
    have hstep := okL_step (v := cnt S.2 (k + 1) l) (s := sty S l) hL hc hst
    have body : ∀ M : List Nat, M.length + (num (cnt S.2 (k + 1) l) (sty S l)).length ≤ 40 → f_X7_writeLabel_59 (f_X7_writeLabel_39 n) r (nI k) (nI own) (nI low) (nI l) (wm U M) = f_X7_writeLabel_39 n r (nI k) (nI own) (nI low) (nI (l + 1)) (wm U (M ++ num (cnt S.2 (k + 1) l) (sty S l))) := by
      intro M hM
      rw [f_X7_writeLabel_59, e2, e3, if_pos (ibt (by omega) (by omega)), if_pos (ibt (by omega) (by omega)), ncl (by omega), ncl (by omega), r1, r2, num_m hc hst hM, Option.bind_some, e1]
    rw [f_X7_writeLabel_39, if_neg (by rw [nlt (by omega) (by omega)]; omega), lb]
    rcases hL with ⟨h1, h2⟩ | ⟨h1, h2⟩
    · subst h1
      rw [if_pos (by rw [nle (by omega) (by omega)]; omega), body [] (by simp only [List.length_nil]; omega)]
      rw [if_pos rfl] at hstep ⊢
      exact ih n (l + 1) (j + 1) _ (by omega) (by omega) hstep (by omega)
    · have hne : ¬ L = [] := fun e => by rw [e] at h1; simp at h1
      rw [if_neg (by rw [nle (by omega) (by omega)]; omega), show (46 : Int32) = nI 46 from rfl, add_m (by omega), Option.bind_some, body _ (by rw [List.length_append, List.length_singleton]; omega)]
      rw [if_neg hne] at hstep ⊢
      exact ih n (l + 1) (j + 1) _ (by omega) (by omega) hstep (by omega)
theorem lb_len {S : Sh} (hok : okS S) {k : Nat} (hk : k < S.2.length) : ∀ (d l j : Nat) (L : List Nat), l + d ≤ 3 → okL L j → okL (lb S k d l L) (j + d) := by
  intro d
  induction d with
  | zero => intro l j L _ h; exact h
  | succ d ih =>
    intro l j L hl h
    rw [lb]
    have := ih (l + 1) (j + 1) _ (by omega) (okL_step (v := cnt S.2 (k + 1) l) (s := sty S l) h (cnt44 hok hk l) (sty_le hok (by omega)))
    rw [show j + (d + 1) = j + 1 + d by omega]
    exact this
theorem lab_len {S : Sh} (hok : okS S) {k f : Nat} (hk : k < S.2.length) : (lab S k f).length ≤ 23 ∧ ((pg S.2 k).1 ≤ 3 → 1 ≤ (lab S k f).length) := by
  have hp := pg_ok hok.2.2.2 hk
  have hl := hp.2.2.1
  unfold lab
  by_cases h : (pg S.2 k).1 ≤ 3
  · rw [if_pos h]
    have hlow : lowL S k f ≤ (pg S.2 k).2.1 := by
      unfold lowL
      split <;> omega
    have := lb_len hok hk ((pg S.2 k).2.1 + 1 - lowL S k f) (lowL S k f) 0 [] (by omega) (Or.inl ⟨rfl, rfl⟩)
    rcases this with ⟨h1, h2⟩ | ⟨h1, h2⟩
    · omega
    · exact ⟨by omega, fun _ => h1⟩
  · rw [if_neg h]
    exact ⟨by simp, fun q => absurd q h⟩
/-- behind a label's writing on sheet z into signs r -/
def FL (z r : Nat) (V F : Mem) : Prop := (∀ a, a ≠ z → (a < z + 6 ∨ z + 30 < a) → a ≠ r → a ≠ r + 1 → F a = V a) ∧ (∀ k, k ≠ 6 → F z k = V z k)
def WL (r : Nat) (F : Mem) (L : List Nat) : Prop := F r 1 = nI L.length ∧ ∀ j, j < L.length → F (r + 1) j = nI (L.getD j 0)
theorem wx_WL {V : Mem} {r : Nat} {L : List Nat} : WL r (wx V r L) L := by
  refine ⟨by unfold wx; rw [st_same], fun j hj => ?_⟩
  unfold wx
  rw [st_ne1 (by omega), ms_same]
  unfold lay
  rw [if_pos hj]
theorem lab_x {z r k f : Nat} {S : Sh} {V : Mem} (hz : shid z) (hr : 94 ≤ r) (hok : okS S) (hS : ShX V z S) (hC : CI V z S.2) (hk : k < S.2.length) (hf : f < 2147483648) : ∃ F, f_X3_writeLabel z (nI k) (nI f) r V = some F ∧ FL z r V F ∧ CI F z S.2 ∧ WL r F (lab S k f) := by
  have h24 := hok.2.2.1
  have hz2 : z ≤ 35 := by rcases hz with rfl | rfl <;> omega
  have hp := pg_ok hok.2.2.2 hk
  have hl2 := hp.2.2.1
  have hS0 : ShX (st V r 1 0) z S := hS.cg (by rw [st_ne1 (by omega)]) (fun j q1 q2 => st_id (by omega))
  have hC0 : CI (st V r 1 0) z S.2 := hC.cg h24 (by rw [st_ne1 (by omega)]) (fun j q => st_id (by omega))
  unfold f_X3_writeLabel f_X3_behind
  rw [lbl_x hok hS0 hk, Option.bind_some]
  by_cases hlb : (pg S.2 k).1 ≤ 3
  · rw [if_neg (fun q => ((b01z _).mp q) hlb)]
    obtain ⟨W, a1, a2, a3, a4⟩ := ahead_eq hok hS0 hC0 (t := k + 1) (by omega)
    have e0 : nI k + 1 = nI (k + 1) := nI_1 k
    have k2 : st V r 1 0 (z + 3) k = nI (pg S.2 k).2.1 := (hS0.2.2 k hk).2.1
    have i24 : ib (nI k) 24 = true := ibt (by omega) (by omega)
    have c1 : (nI k).toNatClampNeg = k := ncl (by omega)
    have ikb := kbz hz (show k + 1 ≤ 24 by omega)
    dsimp only
    rw [if_pos i24, e0, a1, Option.bind_some]
    dsimp only
    rw [if_pos ikb, Option.bind_some]
    dsimp only
    rw [if_pos ikb, c1]
    simp only [k2]
    have hlow : (if nI (pg S.2 k).2.1 < nI f then nI (pg S.2 k).2.1 else nI f) = nI (lowL S k f) := by
      unfold lowL
      by_cases q : (pg S.2 k).2.1 ≤ f
      · rw [if_pos q]
        by_cases q2 : (pg S.2 k).2.1 < f
        · rw [if_pos (by rw [nlt (by omega) (by omega)]; exact q2)]
        · rw [if_neg (by rw [nlt (by omega) (by omega)]; exact q2)]
          congr 1
          omega
      · rw [if_neg q, if_neg (by rw [nlt (by omega) (by omega)]; omega)]
    have hlow2 : lowL S k f ≤ (pg S.2 k).2.1 := by
      unfold lowL
      split <;> omega
    rw [hlow]
    have hW : wx W r [] = W := by
      rw [wx_nil]
      have h0 : W r 1 = 0 := by rw [a2.1 r (by omega) (by omega), st_same]
      apply mem_ext
      intro a b
      rw [st_at]
      by_cases q : a = r ∧ b = 1
      · rw [if_pos q, q.1, q.2, h0]
      · rw [if_neg q]
    have hsW : ∀ l, l < 3 → W (z + 1) l = nI (sty S l) := fun l hl => (hS0.fs a2).2.1 l hl
    have e := lb_x (r := r) (V := W) hok hk hl2 ⟨by omega, by omega, by omega, by omega⟩ a4 hsW ((pg S.2 k).2.1 + 1 - lowL S k f) 4096 (lowL S k f) 0 [] (by omega) (by omega) (Or.inl ⟨rfl, rfl⟩) (by omega)
    rw [hW] at e
    refine ⟨_, e, ?_, ?_, ?_⟩
    · refine ⟨fun a q1 q2 q3 q4 => ?_, fun j hj => ?_⟩
      · unfold wx
        rw [st_id q3, ms_id q4, a2.1 a q1 q2, st_id q3]
      · unfold wx
        rw [st_ne1 (by omega), ms_ne (by omega), a2.2 j hj, st_ne1 (by omega)]
    · refine a3.cg h24 ?_ (fun j q => ?_)
      · unfold wx
        rw [st_ne1 (by omega), ms_ne (by omega)]
      · unfold wx
        rw [st_id (by omega), ms_id (by omega)]
    · rw [show lab S k f = lb S k ((pg S.2 k).2.1 + 1 - lowL S k f) (lowL S k f) [] from by unfold lab; exact if_pos hlb]
      exact wx_WL
  · rw [if_pos ((b01z _).mpr hlb)]
    refine ⟨_, rfl, ⟨fun a q1 q2 q3 q4 => ?_, fun j hj => ?_⟩, hC0, ?_⟩
    · dsimp only
      rw [st_id q3]
    · dsimp only
      rw [st_ne1 (by omega)]
    · rw [show lab S k f = [] from by unfold lab; exact if_neg hlb]
      exact ⟨by dsimp only; rw [st_same]; rfl, fun j hj => absurd hj (by simp)⟩
theorem lab_m {r k f : Nat} {S : Sh} {U : Mem} (hr : r ≠ 0 ∧ r < 9) (hok : okS S) (hS : ShM (U r) S) (hk : k < S.2.length) (hf : f < 2147483648) (h11 : ∀ l, l < 3 → U 11 (3 * k + l) = nI (cnt S.2 (k + 1) l)) : f_X7_writeLabel r (nI k) (nI f) U = some (wm U (lab S k f)) := by
  have h24 := hok.2.2.1
  have hp := pg_ok hok.2.2.2 hk
  have hl2 := hp.2.2.1
  have hS0 : ShM (st U 0 23 0 r) S := by rw [st_id hr.1]; exact hS
  have e0 : f_X7_of r (nI k) 1 (st U 0 23 0) = _ := of_eq (w := 1) hS0 hk h24 (by omega)
  have k2 : st U 0 23 0 r (4 + 3 * k + 1) = nI (pg S.2 k).2.1 := (hS0.2.2 k hk).2.1
  unfold f_X7_writeLabel f_X7_writeLabel_33
  rw [lbl_m hok hS0 hk, Option.bind_some]
  by_cases hlb : (pg S.2 k).1 ≤ 3
  · have elb : lab S k f = lb S k ((pg S.2 k).2.1 + 1 - lowL S k f) (lowL S k f) [] := by unfold lab; exact if_pos hlb
    rw [if_neg (fun q => ((b01z _).mp q) hlb), elb]
    dsimp only
    rw [e0, Option.bind_some, k2, ← wm_nil]
    have hlow2 : lowL S k f ≤ (pg S.2 k).2.1 := by
      unfold lowL
      split <;> omega
    have e := lb_m (r := r) (U := U) (low := lowL S k f) hok hk hl2 ⟨hr.1, by omega⟩ h11 hS.2.1 ((pg S.2 k).2.1 + 1 - lowL S k f) 4096 (lowL S k f) 0 [] (by omega) (by omega) (Or.inl ⟨rfl, rfl⟩) (by omega)
    dsimp only
    by_cases q : (pg S.2 k).2.1 ≤ f
    · have el : lowL S k f = (pg S.2 k).2.1 := by unfold lowL; exact if_pos q
      rw [el] at e ⊢
      rw [if_pos (by rw [nle (by omega) (by omega)]; exact q)]
      exact e
    · have el : lowL S k f = f := by unfold lowL; exact if_neg q
      rw [el] at e ⊢
      rw [if_neg (by rw [nle (by omega) (by omega)]; exact q)]
      exact e
  · have elb : lab S k f = [] := by unfold lab; exact if_neg hlb
    rw [if_pos ((b01z _).mpr hlb), elb, wm_nil]
end
section
/-! paragraph, label, called, deepest. -/
def XQ (V0 V : Mem) (S : Sh) : Prop := QX V0 V ∧ V 0 = V0 0 ∧ ShX V 4 S ∧ CI V 4 S.2 ∧ Z0 V
def MW (U0 M : Mem) (S : Sh) : Prop := QM U0 M ∧ M 0 1 = U0 0 1 ∧ M 0 18 = U0 0 18 ∧ ShM (M 4) S ∧ ∀ k l, k < S.2.length → l < 3 → M 11 (3 * k + l) = nI (cnt S.2 (k + 1) l)
theorem xq_rf {V U : Mem} {S : Sh} {A : List Act} (h : Inv V U) (hSS : SS V U S A) : XQ V V S := ⟨QX.rf, rfl, hSS.2.1, hSS.2.2.1, h.2.2.2.2.2.2⟩
theorem xq_lab {V0 V F : Mem} {S : Sh} {r : Nat} (hx : XQ V0 V S) (hr : r = 94 ∨ 177 ≤ r) (hf : FL 4 r V F) (hc : CI F 4 S.2) : XQ V0 F S := by
  obtain ⟨x1, x2, x3, x4, x5⟩ := hx
  refine ⟨⟨fun a q => (hf.1 a (by omega) (by omega) (by omega) (by omega)).trans (x1.1 a q), fun k q => (hf.2 k q).trans (x1.2 k q)⟩, (hf.1 0 (by omega) (by omega) (by omega) (by omega)).trans x2, x3.cg (hf.2 4 (by omega)) (fun k q1 q2 => hf.1 (4 + k) (by omega) (by omega) (by omega) (by omega)), hc, fun x hx => ?_⟩
  rw [hf.1 41 (by omega) (by omega) (by omega) (by omega)]
  exact x5 x hx
theorem xq_fs {V0 V F : Mem} {S : Sh} (hx : XQ V0 V S) (hf : FS 4 V F) (hc : CI F 4 S.2) : XQ V0 F S := by
  obtain ⟨x1, x2, x3, x4, x5⟩ := hx
  exact ⟨x1.tr hf.qx, hf.o.trans x2, x3.fs hf, hc, hf.z0 x5⟩
theorem mw_mk {U : Mem} {S : Sh} (hS : ShM (U 4) S) : MW U (mk (st U 0 0 0) S.2 S.2.length) S := by
  refine ⟨qm_t.tr qm_mk, by rw [mk_id (by omega), st_ne2 (by omega)], by rw [mk_id (by omega), st_ne2 (by omega)], ?_, fun k l hk hl => mk_11 hk hl⟩
  rw [mk_id (by omega), st_id (by omega)]
  exact hS
theorem wm_id {M : Mem} {L : List Nat} {a : Nat} (h0 : a ≠ 0) (h12 : a ≠ 12) : wm M L a = M a := by
  unfold wm
  rw [st_id h0, ms_id h12]
theorem wm_0 {M : Mem} {L : List Nat} {k : Nat} (h : k ≠ 23) : wm M L 0 k = M 0 k := by
  unfold wm
  rw [st_ne2 h, ms_ne (by omega)]
theorem wm_23 {M : Mem} {L : List Nat} : wm M L 0 23 = nI L.length := by
  unfold wm
  rw [st_same]
theorem wm_12 {M : Mem} {L : List Nat} {j : Nat} (hj : j < L.length) : wm M L 12 j = nI (L.getD j 0) := by
  unfold wm
  rw [st_ne1 (by omega), ms_same]
  unfold lay
  rw [if_pos hj]
theorem mw_wm {U M : Mem} {S : Sh} {L : List Nat} (h : MW U M S) : MW U (wm M L) S := by
  obtain ⟨h1, h2, h3, h4, h5⟩ := h
  refine ⟨h1.tr ⟨fun a q1 q2 q3 q4 => wm_id q1 (by omega), wm_0 (by omega), wm_0 (by omega), wm_0 (by omega)⟩, (wm_0 (by omega)).trans h2, (wm_0 (by omega)).trans h3, ?_, fun k l hk hl => ?_⟩
  · rw [wm_id (by omega) (by omega)]; exact h4
  · rw [wm_id (by omega) (by omega)]; exact h5 k l hk hl
theorem inv_xm {V U V' U' : Mem} {S : Sh} {A : List Act} (h : Inv V U) (hSS : SS V U S A) (hx : XQ V V' S) (hm : MW U U' S) : Inv V' U' := by
  obtain ⟨x1, x2, x3, x4, x5⟩ := hx
  exact inv_q h hSS x1 (by rw [x2]) (h.2.1.cg (by rw [x2]) (by rw [x2]) hm.2.1 hm.2.2.1) x4 x5 hm.1
/-- a sign of a label, on both sides -/
theorem sign_both {V0 V U M : Mem} {S : Sh} {k f : Nat} {j : Int32} (hok : okS S) (hx : XQ V0 V S) (hm : MW U M S) (hk : k < S.2.length) (hf : f < 2147483648) (hj : 0 ≤ j) : ∃ v V', f_X6_signOfLabel (nI k) (nI f) j V = some (v, V') ∧ XQ V0 V' S ∧ (f_X7_writeLabel 4 (nI k) (nI f) M).bind (fun q => (f_X7_signAt j q).bind fun q2 => some (q2.1, q2.2)) = some (v, wm M (lab S k f)) := by
  obtain ⟨F, e1, e2, e3, e4⟩ := lab_x (r := 94) (Or.inl rfl) (by omega) hok hx.2.2.1 hx.2.2.2.1 hk hf
  have hm1 := lab_m (r := 4) (by omega) hok hm.2.2.2.1 hk hf (fun l hl => hm.2.2.2.2 k l hk hl)
  have hlen := (lab_len hok (f := f) hk).1
  obtain ⟨i, i1, rfl⟩ := nI_of (Int32.not_lt.mpr hj)
  unfold f_X6_signOfLabel f_X7_signAt
  rw [e1, hm1, Option.bind_some, Option.bind_some, e4.1, wm_23]
  by_cases hi : (lab S k f).length ≤ i
  · have c : nI (lab S k f).length ≤ nI i := (nle (by omega) (by omega)).mpr hi
    rw [if_pos c, if_pos c]
    exact ⟨_, _, rfl, xq_lab hx (Or.inl rfl) e2 e3, rfl⟩
  · have c : ¬ nI (lab S k f).length ≤ nI i := fun q => hi ((nle (by omega) (by omega)).mp q)
    have e95 : F 95 i = nI ((lab S k f).getD i 0) := e4.2 i (by omega)
    rw [if_neg c, if_neg c, if_pos (ibt (by omega) (by omega)), if_pos (ibt (by omega) (by omega)), ncl (by omega), e95, wm_12 (by omega)]
    exact ⟨_, _, rfl, xq_lab hx (Or.inl rfl) e2 e3, rfl⟩
theorem s_label : S_label Inv := by
  intro a b j V U h
  obtain ⟨S, A, hSS⟩ := h.2.2.2.2.1
  obtain ⟨hok, hX, hC, hM, -⟩ := id hSS
  have h24 := hok.2.2.1
  have hM' : ShM (st U 0 0 0 4) S := by rw [st_id (by omega)]; exact hM
  unfold f_X6_label f_X7_label
  rcases dich a S.2.length with ⟨k, hk, rfl⟩ | hk
  · rw [has_yes hX.1 (by omega) hk, par_yes hM'.1 (by omega) hk, Option.bind_some, Option.bind_some, if_neg i10, if_neg i10]
    dsimp only
    rw [isLevel_eq, show (0 : Int64) = (0 : Int32).toInt64 from rfl, show (2 : Int64) = (2 : Int32).toInt64 from rfl, inw, Option.bind_some, Option.bind_some]
    by_cases h1 : 0 ≤ b ∧ b ≤ 2
    · rw [if_neg (fun q => ((b01z _).mp q) h1), if_neg (fun q => ((b01z _).mp q) h1)]
      dsimp only
      obtain ⟨f, f1, rfl⟩ := btw (n := 2) (by omega) h1
      by_cases h2 : 0 ≤ j
      · rw [if_pos h2, if_pos h2, countAll_eq (by omega) hM' hok, Option.bind_some]
        obtain ⟨v, V', s1, s2, s3⟩ := sign_both hok (xq_rf h hSS) (mw_mk hM) hk (show f < 2147483648 by omega) h2
        rw [s1, s3, Option.bind_some]
        exact ⟨_, _, rfl, rfl, rfl, inv_xm h hSS s2 (mw_wm (mw_mk hM))⟩
      · rw [if_neg h2, if_neg h2]
        exact ⟨_, _, rfl, rfl, rfl, inv_t h⟩
    · rw [if_pos ((b01z _).mpr h1), if_pos ((b01z _).mpr h1)]
      exact ⟨_, _, rfl, rfl, rfl, inv_t h⟩
  · rw [has_no hX.1 (by omega) hk, par_no hM'.1 (by omega) hk, Option.bind_some, Option.bind_some, if_pos rfl, if_pos rfl]
    exact ⟨_, _, rfl, rfl, rfl, inv_t h⟩
theorem behind_x {z : Nat} {S : Sh} {V : Mem} (hz : shid z) (hok : okS S) (hS : ShX V z S) (hC : CI V z S.2) {k : Nat} (hk : k < S.2.length) : ∃ V', f_X3_behind z (nI k) V = some (z + 5 + 1 + (k + 1), V') ∧ FS z V V' ∧ CI V' z S.2 ∧ ∀ x, x < 6 → V' (z + 5 + 1 + (k + 1)) x = nI (cnt S.2 (k + 1) x) := by
  have h24 := hok.2.2.1
  obtain ⟨V', e1, e2, e3, e4⟩ := ahead_eq hok hS hC (t := k + 1) (by omega)
  refine ⟨V', ?_, e2, e3, e4⟩
  unfold f_X3_behind
  have e0 : nI k + 1 = nI (k + 1) := nI_1 k
  rw [e0, e1, Option.bind_some]
  dsimp only
  rw [if_pos (kbz hz (by omega))]
theorem s_paragraph : S_paragraph Inv := by
  intro a w V U h
  obtain ⟨S, A, hSS⟩ := h.2.2.2.2.1
  obtain ⟨hok, hX, hC, hM, -⟩ := id hSS
  have h24 := hok.2.2.1
  have hM' : ShM (st U 0 0 0 4) S := by rw [st_id (by omega)]; exact hM
  unfold f_X6_paragraph f_X7_paragraph
  rcases dich a S.2.length with ⟨k, hk, rfl⟩ | hk
  · rw [has_yes hX.1 (by omega) hk, par_yes hM'.1 (by omega) hk, Option.bind_some, Option.bind_some, if_neg i10, if_neg i10]
    dsimp only
    rw [isBetween_eq, show (0 : Int64) = (0 : Int32).toInt64 from rfl, show (5 : Int64) = (5 : Int32).toInt64 from rfl, inw, Option.bind_some, Option.bind_some]
    by_cases h1 : 0 ≤ w ∧ w ≤ 5
    · rw [if_neg (fun q => ((b01z _).mp q) h1), if_neg (fun q => ((b01z _).mp q) h1)]
      dsimp only
      obtain ⟨i, i1, rfl⟩ := btw (n := 5) (by omega) h1
      have hmw := mw_mk hM
      have i24 : ib (nI k) 24 = true := ibt (by omega) (by omega)
      have ck : (nI k).toNatClampNeg = k := ncl (by omega)
      rw [countAll_eq (by omega) hM' hok, Option.bind_some]
      obtain ⟨k1, k2, k3⟩ := hX.2.2 k hk
      have m2 := (hmw.2.2.2.1.2.2 k hk).2.1
      have m3 := (hmw.2.2.2.1.2.2 k hk).2.2
      rcases (show i = 0 ∨ i = 1 ∨ i = 5 ∨ (2 ≤ i ∧ i < 5) by omega) with rfl | rfl | rfl | h25
      · have e0 : f_X7_of 4 (nI k) 1 (mk (st U 0 0 0) S.2 S.2.length) = _ := of_eq (w := 1) hmw.2.2.2.1 hk h24 (by omega)
        have e1 : f_X7_of 4 (nI k) (1 + nI 0) (mk (st U 0 0 0) S.2 S.2.length) = _ := e0
        rw [if_pos (show nI 0 = (0 : Int32) from rfl), if_pos i24, ck, if_neg (by decide), e1, Option.bind_some]
        exact ⟨_, _, rfl, rfl, k2.trans m2.symm, inv_xm h hSS (xq_rf h hSS) hmw⟩
      · have e0 : f_X7_of 4 (nI k) 2 (mk (st U 0 0 0) S.2 S.2.length) = _ := of_eq (w := 2) hmw.2.2.2.1 hk h24 (by omega)
        have e1 : f_X7_of 4 (nI k) (1 + nI 1) (mk (st U 0 0 0) S.2 S.2.length) = _ := e0
        rw [if_neg (by decide), if_pos (show nI 1 = (1 : Int32) from rfl), if_pos i24, ck, if_neg (by decide), e1, Option.bind_some]
        exact ⟨_, _, rfl, rfl, k3.trans m3.symm, inv_xm h hSS (xq_rf h hSS) hmw⟩
      · obtain ⟨F, e1, e2, e3, e4⟩ := lab_x (r := 94) (f := 0) (Or.inl rfl) (by omega) hok hX hC hk (by omega)
        have e1' : f_X3_writeLabel 4 (nI k) 0 94 V = _ := e1
        have m1 := lab_m (r := 4) (f := 0) (by omega) hok hmw.2.2.2.1 hk (by omega) (fun l hl => hmw.2.2.2.2 k l hk hl)
        have m1' : f_X7_writeLabel 4 (nI k) 0 (mk (st U 0 0 0) S.2 S.2.length) = _ := m1
        rw [if_neg (by decide), if_neg (by decide), if_pos (by decide), e1', Option.bind_some, if_pos (by decide), if_pos (by decide), m1', Option.bind_some]
        exact ⟨_, _, rfl, rfl, e4.1.trans (wm_23 (M := mk (st U 0 0 0) S.2 S.2.length) (L := lab S k 0)).symm, inv_xm h hSS (xq_lab (xq_rf h hSS) (Or.inl rfl) e2 e3) (mw_wm hmw)⟩
      · obtain ⟨V', b1, b2, b3, b4⟩ := behind_x (Or.inl rfl) hok hX hC hk
        have e2 : nI i - 2 = nI (i - 2) := nsb (b := 2) (by omega)
        have e3 : (3 : Int32) * nI k + nI i - 2 = nI (3 * k + (i - 2)) := by
          rw [li, pk_mul, nad, li, nsb (by omega)]
          congr 1
          omega
        rw [if_neg (by rw [li, neq (by omega) (by omega)]; omega), if_neg (by rw [li, neq (by omega) (by omega)]; omega), if_neg (by rw [li, nle (by omega) (by omega)]; omega), b1, Option.bind_some]
        dsimp only
        rw [if_pos (kbz (Or.inl rfl) (by omega)), e2, if_pos (ibt (by omega) (by omega)), ncl (by omega), b4 _ (by omega), if_pos (by rw [li, nle (by omega) (by omega)]; omega), if_neg (by rw [li, nle (by omega) (by omega)]; omega), e3, if_pos (ibt (by omega) (by omega)), ncl (by omega), hmw.2.2.2.2 k (i - 2) hk (by omega)]
        exact ⟨_, _, rfl, rfl, rfl, inv_xm h hSS (xq_fs (xq_rf h hSS) b2 b3) hmw⟩
    · rw [if_pos ((b01z _).mpr h1), if_pos ((b01z _).mpr h1)]
      exact ⟨_, _, rfl, rfl, rfl, inv_t h⟩
  · rw [has_no hX.1 (by omega) hk, par_no hM'.1 (by omega) hk, Option.bind_some, Option.bind_some, if_pos rfl, if_pos rfl]
    exact ⟨_, _, rfl, rfl, rfl, inv_t h⟩
end
section
/-! called, deepest. -/
def clv (S : Sh) (p q : Nat) : Nat → Nat → Nat
  | 0, l => l
  | d + 1, l => if cnt S.2 (p + 1) l = cnt S.2 (q + 1) l then clv S p q d (l + 1) else l
theorem clv_le {S : Sh} {p q : Nat} : ∀ (d l : Nat), clv S p q d l ≤ l + d := by
  intro d
  induction d with
  | zero => intro l; exact Nat.le_refl _
  | succ d ih =>
    intro l
    rw [clv]
    have := ih (l + 1)
    split <;> omega
theorem called_x {S : Sh} {V : Mem} {p q own r4 r5 : Nat} {j : Int32} (hok : okS S) (hp : p < S.2.length) (hq : q < S.2.length) (ho : own ≤ 2) (h4 : ∀ x, x < 6 → V r4 x = nI (cnt S.2 (p + 1) x)) (h5 : ∀ x, x < 6 → V r5 x = nI (cnt S.2 (q + 1) x)) : ∀ (d n l : Nat), l + d = own → d < n → f_X6_called_63 n (nI p) j r4 r5 (nI own) (nI l) V = f_X6_called_89 (nI p) j (nI (clv S p q d l)) V := by
  intro d
  induction d with
  | zero =>
    intro n l hl hn
    obtain ⟨n, rfl⟩ : ∃ n', n = n' + 1 := ⟨n - 1, by omega⟩
    rw [f_X6_called_63, if_pos (by rw [nle (by omega) (by omega)]; omega)]
    rfl
  | succ d ih =>
    intro n l hl hn
    obtain ⟨n, rfl⟩ : ∃ n', n = n' + 1 := ⟨n - 1, by omega⟩
    have e1 : nI l + 1 = nI (l + 1) := nI_1 l
    have i6 : ib (nI l) 6 = true := ibt (by omega) (by omega)
    have c1 := cnt44 hok hp l
    have c2 := cnt44 hok hq l
    rw [f_X6_called_63, if_neg (by rw [nle (by omega) (by omega)]; omega), if_pos i6, if_pos i6, ncl (by omega), h4 l (by omega), h5 l (by omega), clv]
    by_cases hc : cnt S.2 (p + 1) l = cnt S.2 (q + 1) l
    · rw [if_pos (by rw [hc]), if_pos hc, e1]
      exact ih n (l + 1) (by omega) (by omega)
    · rw [if_neg (by rw [neq (by omega) (by omega)]; exact hc), if_neg hc]
theorem called_m {S : Sh} {U M : Mem} {p q : Nat} {j : Int32} (hok : okS S) (hm : MW U M S) (hp : p < S.2.length) (hq : q < S.2.length) : ∀ (d n l : Nat), l + d = (pg S.2 p).2.1 → d < n → f_X7_called_39 n (nI p) (nI q) j (nI l) M = f_X7_called_84 (nI p) j (nI (clv S p q d l)) M := by
  have h24 := hok.2.2.1
  have hpp := pg_ok hok.2.2.2 hp
  have ho := hpp.2.2.1
  have e0 : f_X7_of 4 (nI p) 1 M = _ := of_eq (w := 1) hm.2.2.2.1 hp h24 (by omega)
  have k2 := (hm.2.2.2.1.2.2 p hp).2.1
  intro d
  induction d with
  | zero =>
    intro n l hl hn
    obtain ⟨n, rfl⟩ : ∃ n', n = n' + 1 := ⟨n - 1, by omega⟩
    rw [f_X7_called_39, e0, Option.bind_some]
    dsimp only
    rw [k2, if_pos (by rw [nle (by omega) (by omega)]; omega)]
    rfl
  | succ d ih =>
    intro n l hl hn
    obtain ⟨n, rfl⟩ : ∃ n', n = n' + 1 := ⟨n - 1, by omega⟩
    have e1 : nI l + 1 = nI (l + 1) := nI_1 l
    have a1 : (3 : Int32) * nI p + nI l = nI (3 * p + l) := by rw [li, pk_mul, nad]
    have a2 : (3 : Int32) * nI q + nI l = nI (3 * q + l) := by rw [li, pk_mul, nad]
    have b1 : ib (nI (3 * p + l)) 72 = true := ibt (by omega) (by omega)
    have b2 : ib (nI (3 * q + l)) 72 = true := ibt (by omega) (by omega)
    have d1 : (nI (3 * p + l)).toNatClampNeg = 3 * p + l := ncl (by omega)
    have d2 : (nI (3 * q + l)).toNatClampNeg = 3 * q + l := ncl (by omega)
    have c1 := cnt44 hok hp l
    have c2 := cnt44 hok hq l
    have g1 := hm.2.2.2.2 p l hp (by omega)
    have g2 := hm.2.2.2.2 q l hq (by omega)
    have hno : ¬ nI (pg S.2 p).2.1 ≤ nI l := by rw [nle (by omega) (by omega)]; omega
    rw [f_X7_called_39, e0, Option.bind_some, clv]
    simp only [k2, if_neg hno, a1, a2, if_pos b1, if_pos b2, d1, d2, g1, g2]
    by_cases hc : cnt S.2 (p + 1) l = cnt S.2 (q + 1) l
    · rw [if_pos (by rw [hc]), if_pos hc, e1]
      exact ih n (l + 1) (by omega) (by omega)
    · rw [if_neg (by rw [neq (by omega) (by omega)]; exact hc), if_neg hc]
theorem s_called : S_called Inv := by
  intro a b j V U h
  obtain ⟨S, A, hSS⟩ := h.2.2.2.2.1
  obtain ⟨hok, hX, hC, hM, -⟩ := id hSS
  have h24 := hok.2.2.1
  have hM' : ShM (st U 0 0 0 4) S := by rw [st_id (by omega)]; exact hM
  unfold f_X6_called f_X7_called
  rcases dich a S.2.length with ⟨p, hp, rfl⟩ | hk
  · rw [has_yes hX.1 (by omega) hp, par_yes hM'.1 (by omega) hp, Option.bind_some, Option.bind_some, if_neg i10, if_neg i10]
    dsimp only
    rcases dich b S.2.length with ⟨q, hq, rfl⟩ | hk
    · rw [has_yes hX.1 (by omega) hq, par_yes hM'.1 (by omega) hq, Option.bind_some, Option.bind_some, if_neg i10, if_neg i10]
      dsimp only
      by_cases h2 : 0 ≤ j
      · rw [if_pos h2, if_pos h2, countAll_eq (by omega) hM' hok, Option.bind_some]
        have hpp := pg_ok hok.2.2.2 hp
        have ho := hpp.2.2.1
        obtain ⟨m0, hm0⟩ := hC
        obtain ⟨V1, m1, b1, b2, b3, b4, b5⟩ := ahead_m hok hX hm0 (t := p + 1) (by omega)
        obtain ⟨V2, m2, d1, d2, d3, d4, d5⟩ := ahead_m hok (hX.fs b2) b5 (t := q + 1) (by omega)
        have hx2 : XQ V V2 S := xq_fs (xq_fs (xq_rf h hSS) b2 ⟨m1, b5⟩) d2 ⟨m2, d5⟩
        have hmw := mw_mk hM
        have h4 : ∀ x, x < 6 → V2 (4 + 5 + 1 + (p + 1)) x = nI (cnt S.2 (p + 1) x) := d5.2.2 (p + 1) (by omega)
        have h5 : ∀ x, x < 6 → V2 (4 + 5 + 1 + (q + 1)) x = nI (cnt S.2 (q + 1) x) := d5.2.2 (q + 1) (by omega)
        have g1 : f_X3_behind 4 (nI p) V = some (4 + 5 + 1 + (p + 1), V1) := by
          unfold f_X3_behind
          have e0 : nI p + 1 = nI (p + 1) := nI_1 p
          rw [e0, b1, Option.bind_some]
          dsimp only
          rw [if_pos (kb4 (by omega))]
        have g2 : f_X3_behind 4 (nI q) V1 = some (4 + 5 + 1 + (q + 1), V2) := by
          unfold f_X3_behind
          have e0 : nI q + 1 = nI (q + 1) := nI_1 q
          rw [e0, d1, Option.bind_some]
          dsimp only
          rw [if_pos (kb4 (by omega))]
        have i24 : ib (nI p) 24 = true := ibt (by omega) (by omega)
        have cp' : (nI p).toNatClampNeg = p := ncl (by omega)
        have k7 : V2 7 p = nI (pg S.2 p).2.1 := (hx2.2.2.1.2.2 p hp).2.1
        have kb1 := kb4 (show p + 1 ≤ 24 by omega)
        have kb2 := kb4 (show q + 1 ≤ 24 by omega)
        have x1 := called_x (j := j) hok hp hq ho h4 h5 (pg S.2 p).2.1 4096 0 (by omega) (by omega)
        have x1' : f_X6_called_63 4096 (nI p) j (4 + 5 + 1 + (p + 1)) (4 + 5 + 1 + (q + 1)) (nI (pg S.2 p).2.1) 0 V2 = _ := x1
        have y1 := called_m (j := j) hok hmw hp hq (pg S.2 p).2.1 4096 0 (by omega) (by omega)
        have y1' : f_X7_called_39 4096 (nI p) (nI q) j 0 (mk (st U 0 0 0) S.2 S.2.length) = _ := y1
        have hcl := clv_le (S := S) (p := p) (q := q) (pg S.2 p).2.1 0
        obtain ⟨v, V', s1, s2, s3⟩ := sign_both hok hx2 hmw hp (show clv S p q (pg S.2 p).2.1 0 < 2147483648 by omega) h2
        rw [g1, Option.bind_some]
        dsimp only
        rw [if_pos kb1, g2, Option.bind_some]
        dsimp only
        rw [if_pos kb2, if_pos i24, cp', k7, x1', y1']
        unfold f_X6_called_89 f_X7_called_84
        rw [s1, s3, Option.bind_some]
        exact ⟨_, _, rfl, rfl, rfl, inv_xm h hSS s2 (mw_wm hmw)⟩
      · rw [if_neg h2, if_neg h2]
        exact ⟨_, _, rfl, rfl, rfl, inv_t h⟩
    · rw [has_no hX.1 (by omega) hk, par_no hM'.1 (by omega) hk, Option.bind_some, Option.bind_some, if_pos rfl, if_pos rfl]
      exact ⟨_, _, rfl, rfl, rfl, inv_t h⟩
  · rw [has_no hX.1 (by omega) hk, par_no hM'.1 (by omega) hk, Option.bind_some, Option.bind_some, if_pos rfl, if_pos rfl]
    exact ⟨_, _, rfl, rfl, rfl, inv_t h⟩
def dpF (S : Sh) : Nat → Nat → Nat → Int32 → Nat × Int32
  | 0, _, m, w => (m, w)
  | d + 1, k, m, w => if (lab S k 0).length ≤ m then dpF S d (k + 1) m w else dpF S d (k + 1) (lab S k 0).length (nI k)
theorem deep_x {V0 : Mem} {S : Sh} {a : Int32} (hok : okS S) : ∀ (d n k m : Nat) (w : Int32) (V : Mem), k + d = S.2.length → d < n → m ≤ 23 → XQ V0 V S → ∃ V', f_X6_deepest_33 n a (nI m) w (nI k) V = some (if a = 1 then (dpF S d k m w).2 else if (dpF S d k m w).2 = -1000000 then (dpF S d k m w).2 else nI (dpF S d k m w).1, V') ∧ XQ V0 V' S := by
  have h24 := hok.2.2.1
  intro d
  induction d with
  | zero =>
    intro n k m w V hk hn hm hx
    obtain ⟨n, rfl⟩ : ∃ n', n = n' + 1 := ⟨n - 1, by omega⟩
    refine ⟨V, ?_, hx⟩
    rw [f_X6_deepest_33, hx.2.2.1.1, if_pos (by rw [nle (by omega) (by omega)]; omega), dpF]
    dsimp only
    by_cases h1 : a = 1
    · rw [if_pos h1, if_pos h1]
    · rw [if_neg h1, if_neg h1]
      by_cases h2 : w = -1000000
      · rw [if_pos h2, if_pos h2]
      · rw [if_neg h2, if_neg h2]
  | succ d ih =>
    intro n k m w V hk hn hm hx
    obtain ⟨n, rfl⟩ : ∃ n', n = n' + 1 := ⟨n - 1, by omega⟩
    obtain ⟨F, e1, e2, e3, e4⟩ := lab_x (r := 94) (f := 0) (k := k) (Or.inl rfl) (by omega) hok hx.2.2.1 hx.2.2.2.1 (by omega) (by omega)
    have e1' : f_X3_writeLabel 4 (nI k) 0 94 V = _ := e1
    have hx' := xq_lab hx (Or.inl rfl) e2 e3
    have hlen := (lab_len hok (k := k) (f := 0) (by omega)).1
    have e5 : nI k + 1 = nI (k + 1) := nI_1 k
    rw [f_X6_deepest_33, hx.2.2.1.1, if_neg (by rw [nle (by omega) (by omega)]; omega), e1', Option.bind_some, e4.1, dpF]
    unfold f_X6_deepest_81
    rw [e5]
    by_cases hc : (lab S k 0).length ≤ m
    · rw [if_pos (by rw [nle (by omega) (by omega)]; exact hc), if_pos hc]
      exact ih n (k + 1) m w F (by omega) (by omega) hm hx'
    · rw [if_neg (by rw [nle (by omega) (by omega)]; exact hc), if_neg hc]
      exact ih n (k + 1) _ (nI k) F (by omega) (by omega) hlen hx'
theorem deep_m {U : Mem} {S : Sh} {a : Int32} (hok : okS S) : ∀ (d n k m : Nat) (w b : Int32) (M : Mem), k + d = S.2.length → d < n → m ≤ 23 → ((m = 0 ∧ b = -1000000) ∨ (0 < m ∧ b = nI m)) → MW U M S → ∃ M', f_X7_deepest_45 n a b w (nI k) M = some (if a = 0 then (if (dpF S d k m w).1 = 0 then -1000000 else nI (dpF S d k m w).1) else (dpF S d k m w).2, M') ∧ MW U M' S := by
  have h24 := hok.2.2.1
  intro d
  induction d with
  | zero =>
    intro n k m w b M hk hn hm hb hx
    obtain ⟨n, rfl⟩ : ∃ n', n = n' + 1 := ⟨n - 1, by omega⟩
    refine ⟨M, ?_, hx⟩
    have e0 : M 4 ((0 : Int32)).toNatClampNeg = nI S.2.length := hx.2.2.2.1.1
    rw [f_X7_deepest_45, if_pos (by decide), e0, if_pos (by rw [nle (by omega) (by omega)]; omega), dpF]
    dsimp only
    by_cases h1 : a = 0
    · rw [if_pos h1, if_pos h1]
      rcases hb with ⟨q1, q2⟩ | ⟨q1, q2⟩
      · rw [if_pos q1, q2]
      · rw [if_neg (by omega), q2]
    · rw [if_neg h1, if_neg h1]
  | succ d ih =>
    intro n k m w b M hk hn hm hb hx
    obtain ⟨n, rfl⟩ : ∃ n', n = n' + 1 := ⟨n - 1, by omega⟩
    have e0 : M 4 ((0 : Int32)).toNatClampNeg = nI S.2.length := hx.2.2.2.1.1
    have m1 := lab_m (r := 4) (f := 0) (k := k) (by omega) hok hx.2.2.2.1 (by omega) (by omega) (fun l hl => hx.2.2.2.2 k l (by omega) hl)
    have m1' : f_X7_writeLabel 4 (nI k) 0 M = _ := m1
    have hx' := mw_wm (L := lab S k 0) hx
    have hlen := (lab_len hok (k := k) (f := 0) (by omega)).1
    have e5 : nI k + 1 = nI (k + 1) := nI_1 k
    rw [f_X7_deepest_45, if_pos (by decide), e0, if_neg (by rw [nle (by omega) (by omega)]; omega), m1', Option.bind_some, wm_23, dpF]
    unfold f_X7_deepest_90
    rw [e5]
    by_cases h0 : (lab S k 0).length = 0
    · rw [if_pos (by rw [h0]; decide), if_pos (show (lab S k 0).length ≤ m by omega)]
      exact ih n (k + 1) m w b _ (by omega) (by omega) hm hb hx'
    · rw [if_neg (by rw [li, nle (by omega) (by omega)]; omega)]
      by_cases hc : (lab S k 0).length ≤ m
      · have hbm : nI (lab S k 0).length ≤ b := by
          rcases hb with ⟨q1, q2⟩ | ⟨q1, q2⟩
          · omega
          · rw [q2, nle (by omega) (by omega)]; exact hc
        rw [if_pos hbm, if_pos hc]
        exact ih n (k + 1) m w b _ (by omega) (by omega) hm hb hx'
      · have hbm : ¬ nI (lab S k 0).length ≤ b := by
          rcases hb with ⟨q1, q2⟩ | ⟨q1, q2⟩
          · intro q
            rw [q2] at q
            exact absurd (Int32.le_trans (nI_pos' (show (lab S k 0).length < 2147483648 by omega)) q) (by decide)
          · rw [q2, nle (by omega) (by omega)]; exact hc
        rw [if_neg hbm, if_neg hc]
        exact ih n (k + 1) _ (nI k) _ _ (by omega) (by omega) hlen (Or.inr ⟨by omega, rfl⟩) hx'
theorem dpF_in {S : Sh} : ∀ (d k m : Nat) (w : Int32), (m = 0 ↔ w = -1000000) → k + d ≤ 1000 → ((dpF S d k m w).1 = 0 ↔ (dpF S d k m w).2 = -1000000) := by
  intro d
  induction d with
  | zero => intro k m w h _; exact h
  | succ d ih =>
    intro k m w h hk
    rw [dpF]
    by_cases hc : (lab S k 0).length ≤ m
    · rw [if_pos hc]; exact ih (k + 1) m w h (by omega)
    · rw [if_neg hc]
      refine ih (k + 1) _ _ ⟨fun q => by omega, fun q => ?_⟩ (by omega)
      have := nI_pos' (show k < 2147483648 by omega)
      rw [q] at this
      exact absurd this (by decide)
theorem s_deepest : S_deepest Inv := by
  intro a V U h
  obtain ⟨S, A, hSS⟩ := h.2.2.2.2.1
  obtain ⟨hok, hX, hC, hM, -⟩ := id hSS
  have h24 := hok.2.2.1
  have hM' : ShM (st U 0 0 0 4) S := by rw [st_id (by omega)]; exact hM
  unfold f_X6_deepest f_X7_deepest
  rw [none_x hX.1 (by omega), there_m hM'.1 (by omega), Option.bind_some, Option.bind_some]
  by_cases hn : S.2.length = 0
  · rw [if_neg (fun q => ((b01z _).mp q) hn), if_pos ((b01z _).mpr (by omega))]
    exact ⟨_, _, rfl, rfl, rfl, inv_t h⟩
  · rw [if_pos ((b01z _).mpr hn), if_neg (fun q => ((b01z _).mp q) (by omega))]
    dsimp only
    rw [isBetween_eq, show (0 : Int64) = (0 : Int32).toInt64 from rfl, show (1 : Int64) = (1 : Int32).toInt64 from rfl, inw, Option.bind_some, Option.bind_some]
    by_cases h1 : 0 ≤ a ∧ a ≤ 1
    · rw [if_neg (fun q => ((b01z _).mp q) h1), if_neg (fun q => ((b01z _).mp q) h1)]
      dsimp only
      obtain ⟨V', x1, x2⟩ := deep_x (a := a) hok S.2.length 4096 0 0 (-1000000) V (by omega) (by omega) (by omega) (xq_rf h hSS)
      have x1' : f_X6_deepest_33 4096 a 0 (-1000000) 0 V = _ := x1
      obtain ⟨M', y1, y2⟩ := deep_m (a := a) hok S.2.length 4096 0 0 (-1000000) (-1000000) _ (by omega) (by omega) (by omega) (Or.inl ⟨rfl, rfl⟩) (mw_mk hM)
      have y1' : f_X7_deepest_45 4096 a (-1000000) (-1000000) 0 (mk (st U 0 0 0) S.2 S.2.length) = _ := y1
      have hin := dpF_in (S := S) S.2.length 0 0 (-1000000) (by simp) (by omega)
      rw [x1', countAll_eq (by omega) hM' hok, Option.bind_some, y1']
      refine ⟨_, _, rfl, rfl, ?_, inv_xm h hSS x2 y2⟩
      dsimp only
      obtain ⟨i, hi, rfl⟩ := btw (n := 1) (by omega) h1
      rcases (show i = 0 ∨ i = 1 by omega) with rfl | rfl
      · rw [if_neg (by decide), if_pos (show nI 0 = (0 : Int32) from rfl)]
        by_cases hz : (dpF S S.2.length 0 0 (-1000000)).1 = 0
        · rw [if_pos (hin.mp hz), if_pos hz, hin.mp hz]
        · rw [if_neg (fun q => hz (hin.mpr q)), if_neg hz]
      · rw [if_pos (show nI 1 = (1 : Int32) from rfl), if_neg (by decide)]
    · rw [if_pos ((b01z _).mpr h1), if_pos ((b01z _).mpr h1)]
      exact ⟨_, _, rfl, rfl, rfl, inv_t h⟩
end
section
/-! Paragraphs put in, taken out, made others: lists, and the class's sheets. -/
theorem pg_ins {P : List Pg} {k : Nat} {q : Pg} (hk : k ≤ P.length) (j : Nat) : pg (P.take k ++ q :: P.drop k) j = if j < k then pg P j else if j = k then q else pg P (j - 1) := by
  unfold pg
  simp only [List.getD_eq_getElem?_getD]
  by_cases h : j < k
  · rw [if_pos h, List.getElem?_append_left (by rw [List.length_take]; omega), List.getElem?_take_of_lt h]
  · rw [if_neg h, List.getElem?_append_right (by rw [List.length_take]; omega), List.length_take, Nat.min_eq_left hk]
    by_cases h2 : j = k
    · rw [if_pos h2, h2, Nat.sub_self]
      rfl
    · rw [if_neg h2]
      obtain ⟨i, hi⟩ : ∃ i, j - k = i + 1 := ⟨j - k - 1, by omega⟩
      rw [hi, List.getElem?_cons_succ, List.getElem?_drop]
      congr 2
      omega
theorem len_ins {P : List Pg} {k : Nat} {q : Pg} (hk : k ≤ P.length) : (P.take k ++ q :: P.drop k).length = P.length + 1 := by
  rw [List.length_append, List.length_cons, List.length_take, List.length_drop]
  omega
theorem pg_rmv {P : List Pg} {k : Nat} (hk : k < P.length) (j : Nat) : pg (P.take k ++ P.drop (k + 1)) j = if j < k then pg P j else pg P (j + 1) := by
  unfold pg
  simp only [List.getD_eq_getElem?_getD]
  by_cases h : j < k
  · rw [if_pos h, List.getElem?_append_left (by rw [List.length_take]; omega), List.getElem?_take_of_lt h]
  · rw [if_neg h, List.getElem?_append_right (by rw [List.length_take]; omega), List.length_take, Nat.min_eq_left (by omega), List.getElem?_drop]
    congr 2
    omega
theorem len_rmv {P : List Pg} {k : Nat} (hk : k < P.length) : (P.take k ++ P.drop (k + 1)).length = P.length - 1 := by
  rw [List.length_append, List.length_take, List.length_drop]
  omega
theorem pg_set {P : List Pg} {k : Nat} {q : Pg} (hk : k < P.length) (j : Nat) : pg (P.set k q) j = if j = k then q else pg P j := by
  unfold pg
  simp only [List.getD_eq_getElem?_getD]
  rw [List.getElem?_set]
  by_cases h : k = j
  · subst h
    rw [if_pos rfl, if_pos rfl, if_pos hk]
    rfl
  · rw [if_neg h, if_neg (fun e => h e.symm)]
theorem cnt_take {P Q : List Pg} {j : Nat} (h : P.take j = Q.take j) : cnt P j = cnt Q j := by
  unfold cnt
  rw [h]
theorem take_ins {P : List Pg} {k j : Nat} {q : Pg} (hk : k ≤ P.length) (hj : j ≤ k) : (P.take k ++ q :: P.drop k).take j = P.take j := by
  rw [List.take_append_of_le_length (by rw [List.length_take]; omega), List.take_take, Nat.min_eq_left hj]
theorem take_rmv {P : List Pg} {k j : Nat} (hk : k < P.length) (hj : j ≤ k) : (P.take k ++ P.drop (k + 1)).take j = P.take j := by
  rw [List.take_append_of_le_length (by rw [List.length_take]; omega), List.take_take, Nat.min_eq_left hj]
theorem take_set {P : List Pg} {k j : Nat} {q : Pg} (hj : j ≤ k) : (P.set k q).take j = P.take j := by
  apply List.ext_getElem?
  intro i
  by_cases hi : i < j
  · rw [List.getElem?_take_of_lt hi, List.getElem?_take_of_lt hi, List.getElem?_set, if_neg (by omega)]
  · rw [List.getElem?_eq_none (by rw [List.length_take]; omega), List.getElem?_eq_none (by rw [List.length_take]; omega)]
theorem ok_ins {S : Sh} {k : Nat} {q : Pg} (h : okS S) (hl : S.2.length < 24) (hk : k ≤ S.2.length) (hq : okP q) : okS (insS S k q) := by
  refine ⟨h.1, h.2.1, ?_, fun p hp => ?_⟩
  · unfold insS
    rw [len_ins hk]
    omega
  · unfold insS at hp
    rcases List.mem_append.mp hp with a | a
    · exact h.2.2.2 p (List.mem_of_mem_take a)
    · rcases List.mem_cons.mp a with b | b
      · rw [b]; exact hq
      · exact h.2.2.2 p (List.mem_of_mem_drop b)
theorem ok_rmv {S : Sh} {k : Nat} (h : okS S) (hk : k < S.2.length) : okS (rmvS S k) := by
  refine ⟨h.1, h.2.1, ?_, fun p hp => ?_⟩
  · unfold rmvS
    rw [len_rmv hk]
    have := h.2.2.1
    omega
  · unfold rmvS at hp
    rcases List.mem_append.mp hp with a | a
    · exact h.2.2.2 p (List.mem_of_mem_take a)
    · exact h.2.2.2 p (List.mem_of_mem_drop a)
theorem ok_set {S : Sh} {k : Nat} {q : Pg} (h : okS S) (hq : okP q) : okS (setS S k q) := by
  refine ⟨h.1, h.2.1, ?_, fun p hp => ?_⟩
  · unfold setS
    rw [List.length_set]
    exact h.2.2.1
  · unfold setS at hp
    rcases List.mem_or_eq_of_mem_set hp with a | a
    · exact h.2.2.2 p a
    · rw [a]; exact hq
/-- only sheet z has changed, its styles and kept lines not -/
def FX (z : Nat) (V V' : Mem) : Prop := (∀ a, a ≠ z → a ≠ z + 2 → a ≠ z + 3 → a ≠ z + 4 → V' a = V a) ∧ ∀ k, k ≠ 4 → k ≠ 6 → V' z k = V z k
theorem FX.tr {z : Nat} {V V' V'' : Mem} (h : FX z V V') (h2 : FX z V' V'') : FX z V V'' := ⟨fun a q1 q2 q3 q4 => (h2.1 a q1 q2 q3 q4).trans (h.1 a q1 q2 q3 q4), fun k q1 q2 => (h2.2 k q1 q2).trans (h.2 k q1 q2)⟩
/-- kept lines that hold for one list hold for another that begins alike -/
theorem CI_cut {V V' : Mem} {z k m : Nat} {P Q : List Pg} (hC : CM V z P m) (hQ : (if k < m then k else m) ≤ Q.length) (ht : ∀ j, j ≤ k → j ≤ m → P.take j = Q.take j) (h6 : V' z 6 = nI (if k < m then k else m)) (hl : ∀ j, j ≤ m → V' (z + 5 + 1 + j) = V (z + 5 + 1 + j)) : CI V' z Q := by
  refine ⟨if k < m then k else m, hQ, h6, fun p hp x hx => ?_⟩
  have hpm : p ≤ m ∧ p ≤ k := by
    by_cases c : k < m
    · rw [if_pos c] at hp; omega
    · rw [if_neg c] at hp; omega
  rw [hl p hpm.1, hC.2.2 p hpm.1 x hx, cnt_take (ht p hpm.2 hpm.1)]
theorem minI {k m : Nat} (hk : k < 2147483648) (hm : m < 2147483648) : (if nI k < nI m then nI k else nI m) = nI (if k < m then k else m) := by
  by_cases h : k < m
  · rw [if_pos ((nlt hk hm).mpr h), if_pos h]
  · rw [if_neg (fun q => h ((nlt hk hm).mp q)), if_neg h]
theorem alt_x {z p m : Nat} {S : Sh} {V : Mem} {q : Pg} (hok : okS S) (hS : ShX V z S) (hC : CM V z S.2 m) (hp : p < S.2.length) : ∃ V', f_X3_alter z (nI p) (nI q.1) (nI q.2.1) (nI q.2.2) V = some V' ∧ ShX V' z (setS S p q) ∧ CI V' z (setS S p q).2 ∧ FX z V V' := by
  have h24 := hok.2.2.1
  have i24 : ib (nI p) 24 = true := ibt (by omega) (by omega)
  have cpp : (nI p).toNatClampNeg = p := ncl (by omega)
  have hm := hC.1
  unfold f_X3_alter
  rw [has_yes hS.1 (by omega) hp, Option.bind_some, if_neg i10, if_pos i24, if_pos i24, if_pos i24, cpp]
  dsimp only
  have e6 : st (st (st V (z + 2) p (nI q.1)) (z + 3) p (nI q.2.1)) (z + 4) p (nI q.2.2) z 6 = nI m := by
    rw [st_ne1 (by omega), st_ne1 (by omega), st_ne1 (by omega)]; exact hC.2.1
  rw [e6, minI (by omega) (by omega)]
  refine ⟨_, rfl, ⟨?_, ?_, ?_⟩, ?_, ⟨fun a q1 q2 q3 q4 => ?_, fun k q1 q2 => ?_⟩⟩
  · rw [st_ne2 (by omega), st_ne1 (by omega), st_ne1 (by omega), st_ne1 (by omega)]
    unfold setS
    rw [List.length_set]
    exact hS.1
  · intro l hl
    rw [st_ne1 (by omega), st_ne1 (by omega), st_ne1 (by omega), st_ne1 (by omega)]
    exact hS.2.1 l hl
  · intro k hk
    unfold setS at hk ⊢
    rw [List.length_set] at hk
    obtain ⟨k1, k2, k3⟩ := hS.2.2 k hk
    dsimp only
    rw [pg_set hp]
    by_cases e : k = p
    · subst e
      rw [if_pos rfl]
      simp (disch := omega) only [st_same, st_ne1]
      exact ⟨trivial, trivial, trivial⟩
    · rw [if_neg e]
      simp (disch := omega) only [st_ne1, st_ne2]
      exact ⟨k1, k2, k3⟩
  · refine CI_cut hC (k := p) ?_ (fun j q1 q2 => ?_) st_same (fun j hj => ?_)
    · unfold setS
      rw [List.length_set]
      split <;> omega
    · unfold setS
      exact (take_set q1).symm
    · rw [st_id (by omega), st_id (by omega), st_id (by omega), st_id (by omega)]
  · rw [st_id q1, st_id q4, st_id q3, st_id q2]
  · rw [st_ne2 q2, st_ne1 (by omega), st_ne1 (by omega), st_ne1 (by omega)]
theorem ins_x {z p m : Nat} {S : Sh} {V : Mem} {q : Pg} (hok : okS S) (hS : ShX V z S) (hC : CM V z S.2 m) (hp : p ≤ S.2.length) (hl : S.2.length < 24) (hq : okP q) : ∃ V', f_X3_insert z (nI p) (nI q.1) (nI q.2.1) (nI q.2.2) V = some V' ∧ ShX V' z (insS S p q) ∧ CI V' z (insS S p q).2 ∧ FX z V V' := by
  have hm := hC.1
  unfold f_X3_insert f_X3_slide
  have e1 : nI p + 1 = nI (p + 1) := nI_1 p
  have e2 : nI S.2.length - nI p = nI (S.2.length - p) := nsb hp
  have ck : cok (nI p) (nI (p + 1)) (nI (S.2.length - p)) 24 24 = true := cokn (by omega) (by omega) (by omega) (by omega) (by omega)
  rw [hS.1, if_neg (by rw [li, nle (by omega) (by omega)]; omega), if_neg (nI_pos (by omega)), if_pos (by rw [nle (by omega) (by omega)]; exact hp), e1, e2, if_pos ck, if_pos ck, if_pos ck, ncl (by omega), ncl (by omega), ncl (by omega), Option.bind_some]
  generalize hW : cp (cp (cp V (z + 2) (z + 2) p (p + 1) (S.2.length - p)) (z + 3) (z + 3) p (p + 1) (S.2.length - p)) (z + 4) (z + 4) p (p + 1) (S.2.length - p) = W
  have w0 : ∀ a, a ≠ z + 2 → a ≠ z + 3 → a ≠ z + 4 → W a = V a := fun a q2 q3 q4 => by rw [← hW, cp_id q4, cp_id q3, cp_id q2]
  have hcp : ∀ (i : Nat) (j : Nat), cp V i i p (p + 1) (S.2.length - p) i j = if p + 1 ≤ j ∧ j < p + 1 + (S.2.length - p) then V i (j - 1) else V i j := by
    intro i j
    rw [cp_at]
    by_cases c : p + 1 ≤ j ∧ j < p + 1 + (S.2.length - p)
    · rw [if_pos ⟨rfl, c⟩, if_pos c]
      congr 1
      omega
    · rw [if_neg (fun h => c h.2), if_neg c]
  have w2 : ∀ j, W (z + 2) j = if p + 1 ≤ j ∧ j < p + 1 + (S.2.length - p) then V (z + 2) (j - 1) else V (z + 2) j := fun j => by
    rw [← hW, cp_ne (by omega), cp_ne (by omega)]; exact hcp (z + 2) j
  have w3 : ∀ j, W (z + 3) j = if p + 1 ≤ j ∧ j < p + 1 + (S.2.length - p) then V (z + 3) (j - 1) else V (z + 3) j := fun j => by
    rw [← hW, cp_ne (by omega), cp_at]
    by_cases c : p + 1 ≤ j ∧ j < p + 1 + (S.2.length - p)
    · rw [if_pos ⟨rfl, c⟩, if_pos c, cp_ne (by omega)]
      congr 1
      omega
    · rw [if_neg (fun h => c h.2), if_neg c, cp_ne (by omega)]
  have w4 : ∀ j, W (z + 4) j = if p + 1 ≤ j ∧ j < p + 1 + (S.2.length - p) then V (z + 4) (j - 1) else V (z + 4) j := fun j => by
    rw [← hW, cp_at]
    by_cases c : p + 1 ≤ j ∧ j < p + 1 + (S.2.length - p)
    · rw [if_pos ⟨rfl, c⟩, if_pos c, cp_ne (by omega), cp_ne (by omega)]
      congr 1
      omega
    · rw [if_neg (fun h => c h.2), if_neg c, cp_ne (by omega), cp_ne (by omega)]
  have wz4 : W z 4 = nI S.2.length := by rw [w0 z (by omega) (by omega) (by omega)]; exact hS.1
  have e3 : nI S.2.length + 1 = nI (S.2.length + 1) := nI_1 _
  have i24 : ib (nI p) 24 = true := ibt (by omega) (by omega)
  have cpp : (nI p).toNatClampNeg = p := ncl (by omega)
  rw [wz4, e3]
  unfold f_X3_alter
  rw [has_yes (n := S.2.length + 1) st_same (by omega) (by omega), Option.bind_some, if_neg i10, if_pos i24, if_pos i24, if_pos i24, cpp, Option.bind_some]
  dsimp only
  have e6 : st (st (st (st W z 4 (nI (S.2.length + 1))) (z + 2) p (nI q.1)) (z + 3) p (nI q.2.1)) (z + 4) p (nI q.2.2) z 6 = nI m := by
    rw [st_ne1 (by omega), st_ne1 (by omega), st_ne1 (by omega), st_ne2 (by omega), w0 z (by omega) (by omega) (by omega)]; exact hC.2.1
  rw [e6, minI (by omega) (by omega)]
  refine ⟨_, rfl, ⟨?_, ?_, ?_⟩, ?_, ⟨fun a q1 q2 q3 q4 => ?_, fun k q1 q2 => ?_⟩⟩
  · rw [st_ne2 (by omega), st_ne1 (by omega), st_ne1 (by omega), st_ne1 (by omega), st_same]
    unfold insS
    rw [len_ins hp]
  · intro l hl
    rw [st_ne1 (by omega), st_ne1 (by omega), st_ne1 (by omega), st_ne1 (by omega), st_ne1 (by omega), w0 (z + 1) (by omega) (by omega) (by omega)]
    exact hS.2.1 l hl
  · intro k hk
    unfold insS at hk ⊢
    rw [len_ins hp] at hk
    dsimp only
    rw [pg_ins hp]
    by_cases e : k < p
    · obtain ⟨k1, k2, k3⟩ := hS.2.2 k (by omega)
      rw [if_pos e]
      simp (disch := omega) only [st_ne1, st_ne2]
      rw [w2, w3, w4, if_neg (by omega), if_neg (by omega), if_neg (by omega)]
      exact ⟨k1, k2, k3⟩
    · rw [if_neg e]
      by_cases e2 : k = p
      · subst e2
        rw [if_pos rfl]
        simp (disch := omega) only [st_same, st_ne1]
        exact ⟨trivial, trivial, trivial⟩
      · obtain ⟨k1, k2, k3⟩ := hS.2.2 (k - 1) (by omega)
        rw [if_neg e2]
        simp (disch := omega) only [st_ne1, st_ne2]
        rw [w2, w3, w4, if_pos (by omega), if_pos (by omega), if_pos (by omega)]
        exact ⟨k1, k2, k3⟩
  · refine CI_cut hC (k := p) ?_ (fun j q1 q2 => ?_) st_same (fun j hj => ?_)
    · unfold insS
      rw [len_ins hp]
      split <;> omega
    · unfold insS
      exact (take_ins hp q1).symm
    · rw [st_id (by omega), st_id (by omega), st_id (by omega), st_id (by omega), st_id (by omega), w0 _ (by omega) (by omega) (by omega)]
  · rw [st_id q1, st_id q4, st_id q3, st_id q2, st_id q1, w0 a q2 q3 q4]
  · rw [st_ne2 q2, st_ne1 (by omega), st_ne1 (by omega), st_ne1 (by omega), st_ne2 q1, w0 z (by omega) (by omega) (by omega)]
theorem rmv_x {z p m : Nat} {S : Sh} {V : Mem} (hok : okS S) (hS : ShX V z S) (hC : CM V z S.2 m) (hp : p < S.2.length) : ∃ V', f_X3_remove z (nI p) V = some V' ∧ ShX V' z (rmvS S p) ∧ CI V' z (rmvS S p).2 ∧ FX z V V' := by
  have h24 := hok.2.2.1
  have hm := hC.1
  unfold f_X3_remove f_X3_slide
  have e1 : nI p + 1 = nI (p + 1) := nI_1 p
  have e2 : nI S.2.length - nI p - 1 = nI (S.2.length - p - 1) := by rw [nsb (by omega), li, nsb (by omega)]
  have ck : cok (nI (p + 1)) (nI p) (nI (S.2.length - p - 1)) 24 24 = true := cokn (by omega) (by omega) (by omega) (by omega) (by omega)
  rw [has_yes hS.1 (by omega) hp, Option.bind_some, if_neg i10]
  dsimp only
  have n1 : (nI (p + 1)).toNatClampNeg = p + 1 := ncl (by omega)
  have n2 : (nI p).toNatClampNeg = p := ncl (by omega)
  have n3 : (nI (S.2.length - p - 1)).toNatClampNeg = S.2.length - p - 1 := ncl (by omega)
  simp only [hS.1, e1, e2, if_pos ck, n1, n2, n3, Option.bind_some]
  generalize hW : cp (cp (cp V (z + 2) (z + 2) (p + 1) p (S.2.length - p - 1)) (z + 3) (z + 3) (p + 1) p (S.2.length - p - 1)) (z + 4) (z + 4) (p + 1) p (S.2.length - p - 1) = W
  have w0 : ∀ a, a ≠ z + 2 → a ≠ z + 3 → a ≠ z + 4 → W a = V a := fun a q2 q3 q4 => by rw [← hW, cp_id q4, cp_id q3, cp_id q2]
  have w2 : ∀ j, W (z + 2) j = if p ≤ j ∧ j < p + (S.2.length - p - 1) then V (z + 2) (j + 1) else V (z + 2) j := fun j => by
    rw [← hW, cp_ne (by omega), cp_ne (by omega), cp_at]
    by_cases c : p ≤ j ∧ j < p + (S.2.length - p - 1)
    · rw [if_pos ⟨rfl, c⟩, if_pos c]
      congr 1
      omega
    · rw [if_neg (fun h => c h.2), if_neg c]
  have w3 : ∀ j, W (z + 3) j = if p ≤ j ∧ j < p + (S.2.length - p - 1) then V (z + 3) (j + 1) else V (z + 3) j := fun j => by
    rw [← hW, cp_ne (by omega), cp_at]
    by_cases c : p ≤ j ∧ j < p + (S.2.length - p - 1)
    · rw [if_pos ⟨rfl, c⟩, if_pos c, cp_ne (by omega)]
      congr 1
      omega
    · rw [if_neg (fun h => c h.2), if_neg c, cp_ne (by omega)]
  have w4 : ∀ j, W (z + 4) j = if p ≤ j ∧ j < p + (S.2.length - p - 1) then V (z + 4) (j + 1) else V (z + 4) j := fun j => by
    rw [← hW, cp_at]
    by_cases c : p ≤ j ∧ j < p + (S.2.length - p - 1)
    · rw [if_pos ⟨rfl, c⟩, if_pos c, cp_ne (by omega), cp_ne (by omega)]
      congr 1
      omega
    · rw [if_neg (fun h => c h.2), if_neg c, cp_ne (by omega), cp_ne (by omega)]
  have wz4 : W z 4 = nI S.2.length := by rw [w0 z (by omega) (by omega) (by omega)]; exact hS.1
  have e3 : nI S.2.length - 1 = nI (S.2.length - 1) := nsb (b := 1) (by omega)
  have e6 : st W z 4 (nI (S.2.length - 1)) z 6 = nI m := by
    rw [st_ne2 (by omega), w0 z (by omega) (by omega) (by omega)]; exact hC.2.1
  rw [wz4, e3, e6, minI (by omega) (by omega)]
  refine ⟨_, rfl, ⟨?_, ?_, ?_⟩, ?_, ⟨fun a q1 q2 q3 q4 => ?_, fun k q1 q2 => ?_⟩⟩
  · rw [st_ne2 (by omega), st_same]
    unfold rmvS
    rw [len_rmv hp]
  · intro l hl
    rw [st_ne1 (by omega), st_ne1 (by omega), w0 (z + 1) (by omega) (by omega) (by omega)]
    exact hS.2.1 l hl
  · intro k hk
    unfold rmvS at hk ⊢
    rw [len_rmv hp] at hk
    dsimp only
    rw [pg_rmv hp]
    simp (disch := omega) only [st_ne1]
    rw [w2, w3, w4]
    by_cases e : k < p
    · have cA : ¬ (p ≤ k ∧ k < p + (S.2.length - p - 1)) := by omega
      rw [if_neg cA, if_neg cA, if_neg cA, if_pos e]
      exact hS.2.2 k (by omega)
    · have cA : p ≤ k ∧ k < p + (S.2.length - p - 1) := by omega
      rw [if_pos cA, if_pos cA, if_pos cA, if_neg e]
      exact hS.2.2 (k + 1) (by omega)
  · refine CI_cut hC (k := p) ?_ (fun j q1 q2 => ?_) st_same (fun j hj => ?_)
    · unfold rmvS
      rw [len_rmv hp]
      split <;> omega
    · unfold rmvS
      exact (take_rmv hp q1).symm
    · rw [st_id (by omega), st_id (by omega), w0 _ (by omega) (by omega) (by omega)]
  · rw [st_id q1, st_id q1, w0 a q2 q3 q4]
  · rw [st_ne2 q2, st_ne2 q1, w0 z (by omega) (by omega) (by omega)]
end
section
/-! The reference's rows of sheets: laid, put in, taken out, copied. -/
theorem of_any {U : Mem} {r k w : Nat} (hk : k < 24) (hw : w < 3) : f_X7_of r (nI k) (nI w) U = some (U r (4 + 3 * k + w), U) := by
  unfold f_X7_of
  have e : (4 : Int32) + (3 : Int32) * nI k + nI w = nI (4 + 3 * k + w) := by rw [li, li, pk_mul, nad, nad]
  rw [e, if_pos (ibt (by omega) (by omega)), ncl (by omega)]
def l3 (f : Nat → Int32) (k : Nat) (a b c : Int32) : Nat → Int32 := fun y => if y = 4 + 3 * k then a else if y = 4 + 3 * k + 1 then b else if y = 4 + 3 * k + 2 then c else f y
theorem layAt_eq {U : Mem} {r k : Nat} {a b c : Int32} (hk : k < 24) : f_X7_layAt r (nI k) a b c U = some (ms U r (l3 (U r) k a b c)) := by
  unfold f_X7_layAt
  have e0 : (4 : Int32) + (3 : Int32) * nI k + 0 = nI (4 + 3 * k) := by rw [add0, li, li, pk_mul, nad]
  have e1 : (4 : Int32) + (3 : Int32) * nI k + 1 = nI (4 + 3 * k + 1) := by rw [li, li, pk_mul, nad]; exact nI_1 _
  have e2 : (4 : Int32) + (3 : Int32) * nI k + 2 = nI (4 + 3 * k + 2) := by rw [li, li, pk_mul, nad]; exact nI_add _ 2
  rw [e0, e1, e2, if_pos (ibt (by omega) (by omega)), if_pos (ibt (by omega) (by omega)), if_pos (ibt (by omega) (by omega)), ncl (by omega), ncl (by omega), ncl (by omega)]
  congr 1
  apply mem_ext
  intro x y
  by_cases h : x = r
  · subst h
    rw [ms_same, st_at, st_at, st_at]
    unfold l3
    by_cases y0 : y = 4 + 3 * k
    · rw [if_neg (by omega), if_neg (by omega), if_pos ⟨rfl, y0⟩, if_pos y0]
    · by_cases y1 : y = 4 + 3 * k + 1
      · rw [if_neg (by omega), if_pos ⟨rfl, y1⟩, if_neg y0, if_pos y1]
      · by_cases y2 : y = 4 + 3 * k + 2
        · rw [if_pos ⟨rfl, y2⟩, if_neg y0, if_neg y1, if_pos y2]
        · rw [if_neg (fun q => y2 q.2), if_neg (fun q => y1 q.2), if_neg (fun q => y0 q.2), if_neg y0, if_neg y1, if_neg y2]
  · rw [ms_ne h, st_ne1 h, st_ne1 h, st_ne1 h]
def gp (f : Nat → Int32) (n k : Nat) : Nat → Int32 := fun y => if 4 + 3 * (k + 1) ≤ y ∧ y < 4 + 3 * (n + 1) then f (y - 3) else f y
theorem put_loop {U : Mem} {r n p : Nat} {a b c : Int32} (hn : n < 24) : ∀ (d m k : Nat), p + d = k → k ≤ n → d < m → f_X7_putAt_5 m r (nI p) a b c (nI k) (ms U r (gp (U r) n k)) = some (st (ms U r (l3 (gp (U r) n p) p a b c)) r 0 (l3 (gp (U r) n p) p a b c 0 + 1)) := by
  intro d
  induction d with
  | zero =>
    intro m k hk hkn hm
    obtain ⟨m, rfl⟩ : ∃ n', m = n' + 1 := ⟨m - 1, by omega⟩
    have e : k = p := by omega
    subst e
    rw [f_X7_putAt_5, if_pos (by rw [nle (by omega) (by omega)]; omega), layAt_eq (by omega), Option.bind_some, if_pos (by decide), if_pos (by decide), ms_eq, ms_ms]
    show some (st _ r 0 (ms U r _ r 0 + 1)) = _
    rw [ms_same]
  | succ d ih =>
    intro m k hk hkn hm
    obtain ⟨m, rfl⟩ : ∃ n', m = n' + 1 := ⟨m - 1, by omega⟩
    have e1 : nI k - 1 = nI (k - 1) := nsb (b := 1) (by omega)
    have e2 : nI k + (-1) = nI (k - 1) := by
      obtain ⟨j, rfl⟩ : ∃ j, k = j + 1 := ⟨k - 1, by omega⟩
      rw [pk_m1]
      rfl
    have o0 : ∀ W : Mem, f_X7_of r (nI (k - 1)) 0 W = some (W r (4 + 3 * (k - 1) + 0), W) := fun W => of_any (w := 0) (by omega) (by omega)
    have o1 : ∀ W : Mem, f_X7_of r (nI (k - 1)) 1 W = some (W r (4 + 3 * (k - 1) + 1), W) := fun W => of_any (w := 1) (by omega) (by omega)
    have o2 : ∀ W : Mem, f_X7_of r (nI (k - 1)) 2 W = some (W r (4 + 3 * (k - 1) + 2), W) := fun W => of_any (w := 2) (by omega) (by omega)
    rw [f_X7_putAt_5, if_neg (by rw [nle (by omega) (by omega)]; omega), e1, o0, Option.bind_some]
    dsimp only
    rw [o1, Option.bind_some]
    dsimp only
    rw [o2, Option.bind_some]
    dsimp only
    rw [layAt_eq (by omega), Option.bind_some, e2, ms_eq, ms_ms]
    have hg : l3 (gp (U r) n k) k (gp (U r) n k (4 + 3 * (k - 1) + 0)) (gp (U r) n k (4 + 3 * (k - 1) + 1)) (gp (U r) n k (4 + 3 * (k - 1) + 2)) = gp (U r) n (k - 1) := by
      funext y
      unfold l3 gp
      by_cases y0 : y = 4 + 3 * k
      · simp (disch := omega) only [if_pos, if_neg]
        congr 1
        omega
      · by_cases y1 : y = 4 + 3 * k + 1
        · simp (disch := omega) only [if_pos, if_neg]
          congr 1
          omega
        · by_cases y2 : y = 4 + 3 * k + 2
          · simp (disch := omega) only [if_pos, if_neg]
            congr 1
            omega
          · by_cases c1 : 4 + 3 * (k + 1) ≤ y ∧ y < 4 + 3 * (n + 1)
            · simp (disch := omega) only [if_pos, if_neg]
            · simp (disch := omega) only [if_pos, if_neg]
    rw [hg]
    exact ih m (k - 1) (by omega) (by omega) (by omega)
theorem putAt_m {U : Mem} {r p : Nat} {S : Sh} {q : Pg} (hS : ShM (U r) S) (hl : S.2.length < 24) (hp : p ≤ S.2.length) : ∃ g, f_X7_putAt r (nI p) (nI q.1) (nI q.2.1) (nI q.2.2) U = some (ms U r g) ∧ ShM g (insS S p q) := by
  unfold f_X7_putAt
  have e0 : U r ((0 : Int32)).toNatClampNeg = nI S.2.length := hS.1
  have hz : ms U r (gp (U r) S.2.length S.2.length) = U := by
    apply mem_ext
    intro x y
    by_cases h : x = r
    · subst h
      rw [ms_same]
      unfold gp
      rw [if_neg (by omega)]
    · rw [ms_ne h]
  have e := put_loop (U := U) (r := r) (n := S.2.length) (p := p) (a := nI q.1) (b := nI q.2.1) (c := nI q.2.2) hl (S.2.length - p) 4096 S.2.length (by omega) (by omega) (by omega)
  rw [hz] at e
  rw [if_pos (by decide), e0, e]
  have z0 : l3 (gp (U r) S.2.length p) p (nI q.1) (nI q.2.1) (nI q.2.2) 0 = nI S.2.length := by
    unfold l3 gp
    simp (disch := omega) only [if_pos, if_neg]
    exact hS.1
  rw [z0, nI_1]
  refine ⟨upd (l3 (gp (U r) S.2.length p) p (nI q.1) (nI q.2.1) (nI q.2.2)) 0 (nI (S.2.length + 1)), ?_, ?_, ?_, ?_⟩
  · unfold st
    rw [ms_eq, ms_ms]
  · unfold insS upd
    rw [len_ins hp]
    rfl
  · intro l hl2
    unfold upd l3 gp
    simp (disch := omega) only [if_pos, if_neg]
    exact hS.2.1 l hl2
  · intro k hk
    unfold insS at hk ⊢
    rw [len_ins hp] at hk
    dsimp only
    rw [pg_ins hp]
    unfold upd l3 gp
    by_cases e1 : k < p
    · simp (disch := omega) only [if_pos, if_neg]
      exact hS.2.2 k (by omega)
    · by_cases e2 : k = p
      · simp (disch := omega) only [if_pos, if_neg]
        exact ⟨trivial, trivial, trivial⟩
      · simp (disch := omega) only [if_pos, if_neg]
        have h := hS.2.2 (k - 1) (by omega)
        rw [show 4 + 3 * k - 3 = 4 + 3 * (k - 1) by omega, show 4 + 3 * k + 1 - 3 = 4 + 3 * (k - 1) + 1 by omega, show 4 + 3 * k + 2 - 3 = 4 + 3 * (k - 1) + 2 by omega]
        exact h
def gt (f : Nat → Int32) (n p k : Nat) : Nat → Int32 := fun y => if y = 0 then nI (n - 1) else if 4 + 3 * p ≤ y ∧ y < 4 + 3 * k then f (y + 3) else f y
theorem take_loop {U : Mem} {r n p : Nat} (hn : n ≤ 24) (hp : p < n) : ∀ (d m k : Nat), k + d = n - 1 → p ≤ k → d < m → f_X7_takeOut_9 m r (nI k) (ms U r (gt (U r) n p k)) = some (ms U r (l3 (gt (U r) n p (n - 1)) (n - 1) 0 0 0)) := by
  have z0 : ∀ k, ms U r (gt (U r) n p k) r ((0 : Int32)).toNatClampNeg = nI (n - 1) := fun k => by
    show ms U r (gt (U r) n p k) r 0 = _
    rw [ms_same]
    unfold gt
    rw [if_pos rfl]
  intro d
  induction d with
  | zero =>
    intro m k hk hkp hm
    obtain ⟨m, rfl⟩ : ∃ n', m = n' + 1 := ⟨m - 1, by omega⟩
    have e : k = n - 1 := by omega
    subst e
    rw [f_X7_takeOut_9, if_pos (by decide), z0, if_pos (by rw [nle (by omega) (by omega)]; omega), if_pos (by decide), layAt_eq (by omega), Option.bind_some, ms_eq, ms_ms]
  | succ d ih =>
    intro m k hk hkp hm
    obtain ⟨m, rfl⟩ : ∃ n', m = n' + 1 := ⟨m - 1, by omega⟩
    have e1 : nI k + 1 = nI (k + 1) := nI_1 k
    have o0 : ∀ W : Mem, f_X7_of r (nI (k + 1)) 0 W = some (W r (4 + 3 * (k + 1) + 0), W) := fun W => of_any (w := 0) (by omega) (by omega)
    have o1 : ∀ W : Mem, f_X7_of r (nI (k + 1)) 1 W = some (W r (4 + 3 * (k + 1) + 1), W) := fun W => of_any (w := 1) (by omega) (by omega)
    have o2 : ∀ W : Mem, f_X7_of r (nI (k + 1)) 2 W = some (W r (4 + 3 * (k + 1) + 2), W) := fun W => of_any (w := 2) (by omega) (by omega)
    rw [f_X7_takeOut_9, if_pos (by decide), z0, if_neg (by rw [nle (by omega) (by omega)]; omega), e1, o0, Option.bind_some]
    dsimp only
    rw [o1, Option.bind_some]
    dsimp only
    rw [o2, Option.bind_some]
    dsimp only
    rw [layAt_eq (by omega), Option.bind_some, ms_eq, ms_ms]
    have hg : l3 (gt (U r) n p k) k (gt (U r) n p k (4 + 3 * (k + 1) + 0)) (gt (U r) n p k (4 + 3 * (k + 1) + 1)) (gt (U r) n p k (4 + 3 * (k + 1) + 2)) = gt (U r) n p (k + 1) := by
      funext y
      unfold l3 gt
      by_cases y0 : y = 4 + 3 * k
      · simp (disch := omega) only [if_pos, if_neg]
        congr 1
        omega
      · by_cases y1 : y = 4 + 3 * k + 1
        · simp (disch := omega) only [if_pos, if_neg]
          congr 1
          omega
        · by_cases y2 : y = 4 + 3 * k + 2
          · simp (disch := omega) only [if_pos, if_neg]
            congr 1
            omega
          · by_cases yz : y = 0
            · simp (disch := omega) only [if_pos, if_neg]
            · by_cases c1 : 4 + 3 * p ≤ y ∧ y < 4 + 3 * k
              · simp (disch := omega) only [if_pos, if_neg]
              · simp (disch := omega) only [if_pos, if_neg]
    rw [hg]
    exact ih m (k + 1) (by omega) (by omega) (by omega)
theorem takeOut_m {U : Mem} {r p : Nat} {S : Sh} (hS : ShM (U r) S) (h24 : S.2.length ≤ 24) (hp : p < S.2.length) : ∃ g, f_X7_takeOut r (nI p) U = some (ms U r g) ∧ ShM g (rmvS S p) := by
  unfold f_X7_takeOut
  have e0 : U r ((0 : Int32)).toNatClampNeg = nI S.2.length := hS.1
  have e1 : nI S.2.length - 1 = nI (S.2.length - 1) := nsb (b := 1) (by omega)
  have hz : st U r ((0 : Int32)).toNatClampNeg (nI (S.2.length - 1)) = ms U r (gt (U r) S.2.length p p) := by
    show st U r 0 _ = _
    unfold st
    congr 1
    funext y
    unfold upd gt
    by_cases h : y = 0
    · rw [if_pos h, if_pos h]
    · rw [if_neg h, if_neg h, if_neg (by omega)]
  rw [if_pos (by decide), if_pos (by decide), e0, e1, hz, take_loop h24 hp (S.2.length - 1 - p) 4096 p (by omega) (by omega) (by omega)]
  refine ⟨_, rfl, ?_, ?_, ?_⟩
  · unfold rmvS l3 gt
    simp (disch := omega) only [if_pos, if_neg, if_true]
    rw [len_rmv hp]
  · intro l hl2
    unfold l3 gt
    simp (disch := omega) only [if_pos, if_neg]
    exact hS.2.1 l hl2
  · intro k hk
    unfold rmvS at hk ⊢
    rw [len_rmv hp] at hk
    dsimp only
    rw [pg_rmv hp]
    have n0 : ∀ w, w < 3 → l3 (gt (U r) S.2.length p (S.2.length - 1)) (S.2.length - 1) 0 0 0 (4 + 3 * k + w) = if p ≤ k then U r (4 + 3 * (k + 1) + w) else U r (4 + 3 * k + w) := by
      intro w hw
      unfold l3 gt
      by_cases c : p ≤ k
      · simp (disch := omega) only [if_pos, if_neg]
        congr 1
        omega
      · simp (disch := omega) only [if_pos, if_neg]
    have n1 := n0 0 (by omega)
    have n2 := n0 1 (by omega)
    have n3 := n0 2 (by omega)
    rw [Nat.add_zero] at n1
    rw [n1, n2, n3]
    by_cases e : k < p
    · rw [if_neg (show ¬ p ≤ k by omega), if_neg (show ¬ p ≤ k by omega), if_neg (show ¬ p ≤ k by omega), if_pos e]
      exact hS.2.2 k (by omega)
    · rw [if_pos (show p ≤ k by omega), if_pos (show p ≤ k by omega), if_pos (show p ≤ k by omega), if_neg e]
      exact hS.2.2 (k + 1) (by omega)
end
section
/-! The reference's rows copied; acts kept, on both sides. -/
theorem cp_step {V : Mem} {s d sp dp k : Nat} (h : s ≠ d ∨ dp ≤ sp) : st (cp V s d sp dp k) d (dp + k) (cp V s d sp dp k s (sp + k)) = cp V s d sp dp (k + 1) := by
  apply mem_ext
  intro x y
  rw [st_at, cp_at, cp_at, cp_at]
  by_cases hx : x = d
  · subst hx
    by_cases hy : y = dp + k
    · subst hy
      rw [if_pos ⟨rfl, rfl⟩, if_neg (by omega), if_pos (by omega)]
      congr 1
      omega
    · by_cases c : dp ≤ y ∧ y < dp + k
      · rw [if_neg (fun q => hy q.2), if_pos ⟨rfl, c⟩, if_pos (by omega)]
      · rw [if_neg (fun q => hy q.2), if_neg (fun q => c q.2), if_neg (by omega)]
  · rw [if_neg (fun q => hx q.1), if_neg (fun q => hx q.1), if_neg (fun q => hx q.1)]
theorem cp_zero {V : Mem} {s d sp dp : Nat} : cp V s d sp dp 0 = V := by
  apply mem_ext
  intro x y
  rw [cp_at, if_neg (by omega)]
theorem ShM_cg {f g : Nat → Int32} {S : Sh} (h24 : S.2.length ≤ 24) (h : ∀ j, j < 76 → g j = f j) (hS : ShM f S) : ShM g S := by
  refine ⟨by rw [h 0 (by omega)]; exact hS.1, fun l hl => by rw [h _ (by omega)]; exact hS.2.1 l hl, fun k hk => ?_⟩
  rw [h _ (by omega), h _ (by omega), h _ (by omega)]
  exact hS.2.2 k hk
theorem lay_then {U : Mem} : ∀ (d n k : Nat), k + d = 76 → d < n → f_X7_layThen_2 n (nI k) (cp U 4 6 0 0 k) = some (cp U 4 6 0 0 76) := by
  intro d
  induction d with
  | zero =>
    intro n k hk hn
    obtain ⟨n, rfl⟩ : ∃ n', n = n' + 1 := ⟨n - 1, by omega⟩
    have e : k = 76 := by omega
    subst e
    rw [f_X7_layThen_2, if_pos (by decide)]
  | succ d ih =>
    intro n k hk hn
    obtain ⟨n, rfl⟩ : ∃ n', n = n' + 1 := ⟨n - 1, by omega⟩
    have e1 : nI k + 1 = nI (k + 1) := nI_1 k
    have hs := cp_step (V := U) (s := 4) (d := 6) (sp := 0) (dp := 0) (k := k) (Or.inl (by omega))
    rw [Nat.zero_add] at hs
    rw [f_X7_layThen_2, if_neg (by rw [li, nle (by omega) (by omega)]; omega), if_pos (ibt (by omega) (by omega)), if_pos (ibt (by omega) (by omega)), ncl (by omega), e1, hs]
    exact ih n (k + 1) (by omega) (by omega)
theorem layThen_m {U : Mem} : f_X7_layThen U = some (cp U 4 6 0 0 76) := by
  unfold f_X7_layThen
  have h := lay_then (U := U) 76 4096 0 (by omega) (by omega)
  rw [cp_zero] at h
  exact h
theorem keep_up {U : Mem} {a : Nat} (ha : a < 24) (h9 : U 0 9 = nI a) : ∀ (d n k : Nat), k + d = 76 → d < n → f_X7_keep_51 n (nI k) (cp U 4 7 0 (76 * a) k) = some (st (cp U 4 7 0 (76 * a) 76) 0 9 (nI (a + 1))) := by
  have z9 : ∀ k, cp U 4 7 0 (76 * a) k 0 9 = nI a := fun k => by rw [cp_ne (by omega)]; exact h9
  intro d
  induction d with
  | zero =>
    intro n k hk hn
    obtain ⟨n, rfl⟩ : ∃ n', n = n' + 1 := ⟨n - 1, by omega⟩
    have e : k = 76 := by omega
    subst e
    rw [f_X7_keep_51, if_pos (by decide), z9, nI_1]
  | succ d ih =>
    intro n k hk hn
    obtain ⟨n, rfl⟩ : ∃ n', n = n' + 1 := ⟨n - 1, by omega⟩
    have e1 : nI k + 1 = nI (k + 1) := nI_1 k
    have e2 : (76 : Int32) * nI a + nI k = nI (76 * a + k) := by rw [li, pk_mul, nad]
    have hs := cp_step (V := U) (s := 4) (d := 7) (sp := 0) (dp := 76 * a) (k := k) (Or.inl (by omega))
    rw [Nat.zero_add] at hs
    rw [f_X7_keep_51, if_neg (by rw [li, nle (by omega) (by omega)]; omega), if_pos (ibt (by omega) (by omega)), z9, e2, if_pos (ibt (by omega) (by omega)), ncl (by omega), ncl (by omega), e1, hs]
    exact ih n (k + 1) (by omega) (by omega)
theorem keep_down {U : Mem} : ∀ (d n k : Nat), k + d = 1748 → d < n → f_X7_keep_11 n (nI k) (cp U 7 7 76 0 k) = f_X7_keep_49 (st (cp U 7 7 76 0 1748) 0 9 (U 0 9 - 1)) := by
  intro d
  induction d with
  | zero =>
    intro n k hk hn
    obtain ⟨n, rfl⟩ : ∃ n', n = n' + 1 := ⟨n - 1, by omega⟩
    have e : k = 1748 := by omega
    subst e
    rw [f_X7_keep_11, if_pos (by decide), cp_ne (show (0 : Nat) ≠ 7 by omega)]
  | succ d ih =>
    intro n k hk hn
    obtain ⟨n, rfl⟩ : ∃ n', n = n' + 1 := ⟨n - 1, by omega⟩
    have e1 : nI k + 1 = nI (k + 1) := nI_1 k
    have e2 : nI k + (76 : Int32) = nI (76 + k) := by rw [li, nad, Nat.add_comm]
    have hs := cp_step (V := U) (s := 7) (d := 7) (sp := 76) (dp := 0) (k := k) (Or.inr (by omega))
    rw [Nat.zero_add] at hs
    rw [f_X7_keep_11, if_neg (by rw [li, nle (by omega) (by omega)]; omega), e2, if_pos (ibt (by omega) (by omega)), if_pos (ibt (by omega) (by omega)), ncl (by omega), ncl (by omega), e1, hs]
    exact ih n (k + 1) (by omega) (by omega)
theorem keep_49 {U : Mem} {a : Nat} (ha : a < 24) (h9 : U 0 9 = nI a) : f_X7_keep_49 U = some (st (cp U 4 7 0 (76 * a) 76) 0 9 (nI (a + 1))) := by
  unfold f_X7_keep_49
  have h := keep_up ha h9 76 4096 0 (by omega) (by omega)
  rw [cp_zero] at h
  exact h
theorem ok_sty {S : Sh} {l v : Nat} (h : okS S) (hv : v ≤ 3) : okS (styS S l v) := by
  refine ⟨?_, fun s hs => ?_, h.2.2.1, h.2.2.2⟩
  · unfold styS
    rw [List.length_set]
    exact h.1
  · unfold styS at hs
    rcases List.mem_or_eq_of_mem_set hs with a | a
    · exact h.2.1 s a
    · rw [a]; exact hv
theorem ok_mv {S : Sh} {k t : Nat} (h : okS S) (hk : k < S.2.length) (ht : t < S.2.length) : okS (mvS S k t) := by
  unfold mvS
  have h24 := h.2.2.1
  refine ok_ins (ok_rmv h hk) ?_ ?_ (pg_ok h.2.2.2 hk)
  · unfold rmvS
    rw [len_rmv hk]
    omega
  · unfold rmvS
    rw [len_rmv hk]
    omega
theorem ok_und {S : Sh} {a : Act} (h : okS S) (hv : vA S a) : okS (und S a) := by
  unfold vA at hv
  unfold und
  by_cases h0 : a.1 = 0
  · rw [if_pos h0] at hv ⊢
    exact ok_rmv h hv.1
  rw [if_neg h0] at hv ⊢
  by_cases h1 : a.1 = 1
  · rw [if_pos h1] at hv ⊢
    exact ok_ins h hv.2.1 hv.1 hv.2.2
  rw [if_neg h1] at hv ⊢
  by_cases h2 : a.1 = 2
  · rw [if_pos h2] at hv ⊢
    exact ok_mv h hv.1 hv.2
  rw [if_neg h2] at hv ⊢
  by_cases h3 : a.1 = 3
  · rw [if_pos h3] at hv ⊢
    exact ok_set h hv.2
  rw [if_neg h3] at hv ⊢
  exact ok_sty h hv.2.2
theorem AW.up {U U' : Mem} : ∀ {A : List Act} {S : Sh}, okS S → AW U S A → (∀ j, j < 76 * A.length → U' 7 j = U 7 j) → AW U' S A := by
  intro A
  induction A with
  | nil => intro S _ _ _; trivial
  | cons a A ih =>
    intro S hok hA hU
    obtain ⟨h1, h2, h3⟩ := hA
    rw [List.length_cons] at hU
    have ho := ok_und hok h1
    exact ⟨h1, ShM_cg ho.2.2.1 (fun j hj => hU _ (by omega)) h2, ih ho h3 (fun j hj => hU j (by omega))⟩
theorem AW.down {U U' : Mem} : ∀ {A : List Act} {S : Sh}, okS S → AW U S A → (∀ j, j < 76 * (A.length - 1) → U' 7 j = U 7 (j + 76)) → AW U' S (A.take (A.length - 1)) := by
  intro A
  induction A with
  | nil => intro S _ _ _; trivial
  | cons a A ih =>
    intro S hok hA hU
    obtain ⟨h1, h2, h3⟩ := hA
    rw [List.length_cons, Nat.add_sub_cancel] at hU ⊢
    have ho := ok_und hok h1
    cases A with
    | nil => trivial
    | cons b B =>
      rw [List.length_cons] at hU h2 ⊢
      rw [List.take_succ_cons]
      have e : (List.take B.length (b :: B)).length = B.length := by rw [List.length_take, List.length_cons]; omega
      refine ⟨h1, ShM_cg ho.2.2.1 (fun j hj => ?_) h2, ?_⟩
      · rw [e, hU _ (by omega)]
        congr 1
        omega
      · have := ih ho h3 (fun j hj => hU j (by rw [List.length_cons] at hj; omega))
        rw [List.length_cons, Nat.add_sub_cancel] at this
        exact this
theorem keep_m {U : Mem} {S : Sh} {A : List Act} (hok : okS S) (hS : ShM (U 4) S) (h9 : U 0 9 = nI A.length) (h24 : A.length ≤ 24) (hA : AW U S A) : ∃ U', f_X7_keep U = some U' ∧ (∀ i, i ≠ 0 → i ≠ 7 → U' i = U i) ∧ (∀ k, k ≠ 9 → U' 0 k = U 0 k) ∧ U' 0 9 = nI ((A.take 23).length + 1) ∧ AW U' S (A.take 23) ∧ ShM (fun j => U' 7 (76 * (A.take 23).length + j)) S := by
  unfold f_X7_keep
  rw [h9]
  by_cases c : A.length = 24
  · have e23 : (A.take 23).length = 23 := by rw [List.length_take]; omega
    rw [if_pos (by rw [c]; rfl)]
    have hd := keep_down (U := U) 1748 4096 0 (by omega) (by omega)
    rw [cp_zero, h9, c, show nI 24 - 1 = nI 23 from nsb (b := 1) (by omega)] at hd
    have hd' : f_X7_keep_11 4096 0 U = _ := hd
    rw [hd', keep_49 (a := 23) (by omega) st_same]
    refine ⟨_, rfl, fun i h0 h7 => ?_, fun k hk => ?_, ?_, ?_, ?_⟩
    · rw [st_id h0, cp_id h7, st_id h0, cp_id h7]
    · rw [st_ne2 hk, cp_ne (by omega), st_ne2 hk, cp_ne (by omega)]
    · rw [st_same, e23]
    · have := AW.down (U' := st (cp (st (cp U 7 7 76 0 1748) 0 9 (nI 23)) 4 7 0 (76 * 23) 76) 0 9 (nI (23 + 1))) hok hA (fun j hj => by
        rw [st_ne1 (by omega), cp_out (by omega), st_ne1 (by omega), cp_in (by omega)]
        exact congrArg (U 7) (by omega))
      rw [c] at this
      exact this
    · refine ShM_cg hok.2.2.1 (fun j hj => ?_) hS
      rw [e23, st_ne1 (by omega), cp_in (by omega), st_ne1 (by omega), cp_ne (by omega)]
      exact congrArg (U 4) (by omega)
  · have e23 : A.take 23 = A := List.take_of_length_le (by omega)
    rw [if_neg (by rw [li, neq (by omega) (by omega)]; exact c), keep_49 (a := A.length) (by omega) h9, e23]
    refine ⟨_, rfl, fun i h0 h7 => ?_, fun k hk => ?_, ?_, ?_, ?_⟩
    · rw [st_id h0, cp_id h7]
    · rw [st_ne2 hk, cp_ne (by omega)]
    · rw [st_same]
    · refine AW.up hok hA (fun j hj => ?_)
      rw [st_ne1 (by omega), cp_out (by omega)]
    · refine ShM_cg hok.2.2.1 (fun j hj => ?_) hS
      rw [st_ne1 (by omega), cp_in (by omega)]
      congr 1
      omega
theorem keep32 {V : Mem} {o n : Nat} {a : Act} (ho : o < 24) (hn : n < 24) (h1 : V 67 1 = nI o) (h2 : V 67 2 = nI n) : ∃ V', f_X0_keep_32 67 (nI a.1) (nI a.2.1) (nI a.2.2.1) (nI a.2.2.2.1) (nI a.2.2.2.2.1) (nI a.2.2.2.2.2) V = some V' ∧ actRow V' (69 + (o + n) % 24) a ∧ (∀ i, i ≠ 67 → i ≠ 69 + (o + n) % 24 → V' i = V i) ∧ V' 67 2 = nI (n + 1) ∧ ∀ k, k ≠ 2 → V' 67 k = V 67 k := by
  have hm : (o + n) % 24 < 24 := Nat.mod_lt _ (by omega)
  have e : nI o + nI n - (nI o + nI n) / (24 : Int32) * (24 : Int32) = nI ((o + n) % 24) := by
    rw [nad, show (24 : Int32) = nI 24 from rfl, remI (by omega) (by omega) (by omega)]
  unfold f_X0_keep_32
  rw [h1, h2, e, if_pos (ibt (by omega) (by omega)), if_pos (by decide), if_pos (by decide), if_pos (by decide), if_pos (by decide), if_pos (by decide), if_pos (by decide), ncl (by omega)]
  generalize (o + n) % 24 = q at *
  have c0 : (Int32.toNatClampNeg 0) = 0 := by decide
  have c1 : (Int32.toNatClampNeg 1) = 1 := by decide
  have c2 : (Int32.toNatClampNeg 2) = 2 := by decide
  have c3 : (Int32.toNatClampNeg 3) = 3 := by decide
  have c4 : (Int32.toNatClampNeg 4) = 4 := by decide
  have c5 : (Int32.toNatClampNeg 5) = 5 := by decide
  rw [c0, c1, c2, c3, c4, c5]
  have ez : 67 + 1 + 1 + q = 69 + q := by omega
  rw [ez]
  refine ⟨_, rfl, ?_, fun i q1 q2 => ?_, ?_, fun k hk => ?_⟩
  · unfold actRow
    simp (disch := omega) only [st_same, st_ne1, st_ne2]
    exact ⟨trivial, trivial, trivial, trivial, trivial, trivial⟩
  · simp (disch := omega) only [st_id]
  · simp (disch := omega) only [st_same, st_ne1]
    rw [h2]
    exact nI_1 n
  · simp (disch := omega) only [st_ne1, st_ne2]
theorem keep_x {V : Mem} {A : List Act} {a : Act} (hA : AV V A) : ∃ V', f_X0_keep 67 (nI a.1) (nI a.2.1) (nI a.2.2.1) (nI a.2.2.2.1) (nI a.2.2.2.2.1) (nI a.2.2.2.2.2) V = some V' ∧ AV V' (a :: A.take 23) ∧ (∀ i, i < 67 ∨ i = 68 ∨ 92 < i → V' i = V i) := by
  obtain ⟨h1, h2, o, h3, h4, h5⟩ := hA
  unfold f_X0_keep
  rw [h2]
  by_cases c : A.length = 24
  · have e23 : (A.take 23).length = 23 := by rw [List.length_take]; omega
    have e : nI o + 1 - (nI o + 1) / (24 : Int32) * (24 : Int32) = nI ((o + 1) % 24) := by
      rw [nI_1, show (24 : Int32) = nI 24 from rfl, remI (by omega) (by omega) (by omega)]
    rw [if_pos (by rw [c]; rfl), h4, e, st_ne2 (show (2 : Nat) ≠ 1 by omega), h2, c, show nI 24 - 1 = nI 23 from nsb (b := 1) (by omega)]
    have hm : (o + 1) % 24 < 24 := Nat.mod_lt _ (by omega)
    obtain ⟨V', k1, k2, k3, k4, k5⟩ := keep32 (V := st (st V 67 1 (nI ((o + 1) % 24))) 67 2 (nI 23)) (a := a) hm (show 23 < 24 by omega) (by rw [st_ne2 (by omega), st_same]) st_same
    refine ⟨V', k1, ⟨by rw [List.length_cons, e23]; omega, by rw [k4, List.length_cons, e23], (o + 1) % 24, hm, by rw [k5 1 (by omega), st_ne2 (by omega), st_same], fun k hk => ?_⟩, fun i hi => ?_⟩
    · rw [List.length_cons, e23] at hk ⊢
      cases k with
      | zero => exact k2
      | succ k =>
        have h6 := h5 k (by omega)
        rw [List.getD_cons_succ]
        have e6 : (A.take 23).getD k (0, 0, 0, 0, 0, 0) = A.getD k (0, 0, 0, 0, 0, 0) := by
          rw [List.getD_eq_getElem?_getD, List.getD_eq_getElem?_getD, List.getElem?_take_of_lt (by omega)]
        rw [e6]
        have e7 : ((o + 1) % 24 + (23 + 1 - 1 - (k + 1))) % 24 = (o + (A.length - 1 - k)) % 24 := by omega
        have e8 : 69 + (o + (A.length - 1 - k)) % 24 ≠ 69 + ((o + 1) % 24 + 23) % 24 := by omega
        have e9 : 69 + (o + (A.length - 1 - k)) % 24 ≠ 67 := by omega
        unfold actRow at h6 ⊢
        rw [e7, k3 _ e9 e8, st_id e9, st_id e9]
        exact h6
    · rw [k3 i (by omega) (by omega), st_id (by omega), st_id (by omega)]
  · have e23 : A.take 23 = A := List.take_of_length_le (by omega)
    rw [if_neg (by rw [li, neq (by omega) (by omega)]; exact c), e23]
    obtain ⟨V', k1, k2, k3, k4, k5⟩ := keep32 (V := V) (a := a) h3 (show A.length < 24 by omega) h4 h2
    refine ⟨V', k1, ⟨by rw [List.length_cons]; omega, by rw [k4, List.length_cons], o, h3, by rw [k5 1 (by omega)]; exact h4, fun k hk => ?_⟩, fun i hi => ?_⟩
    · rw [List.length_cons] at hk ⊢
      cases k with
      | zero => exact k2
      | succ k =>
        have h6 := h5 k (by omega)
        rw [List.getD_cons_succ]
        have e7 : (o + (A.length + 1 - 1 - (k + 1))) % 24 = (o + (A.length - 1 - k)) % 24 := by omega
        have e8 : 69 + (o + (A.length - 1 - k)) % 24 ≠ 69 + (o + A.length) % 24 := by omega
        have e9 : 69 + (o + (A.length - 1 - k)) % 24 ≠ 67 := by omega
        unfold actRow at h6 ⊢
        rw [e7, k3 _ e9 e8]
        exact h6
    · rw [k3 i (by omega) (by omega)]
end
section
/-! put, take, move, change, style. -/
theorem pg_ext {P Q : List Pg} (hl : P.length = Q.length) (h : ∀ k, k < P.length → pg P k = pg Q k) : P = Q := by
  apply List.ext_getElem hl
  intro k h1 h2
  have := h k h1
  unfold pg at this
  rw [List.getD_eq_getElem?_getD, List.getElem?_eq_getElem h1, List.getD_eq_getElem?_getD, List.getElem?_eq_getElem h2] at this
  exact this
theorem rmv_ins {S : Sh} {p : Nat} {q : Pg} (hp : p ≤ S.2.length) : rmvS (insS S p q) p = S := by
  have hl : (S.2.take p ++ q :: S.2.drop p).length = S.2.length + 1 := len_ins hp
  have : (S.2.take p ++ q :: S.2.drop p).take p ++ (S.2.take p ++ q :: S.2.drop p).drop (p + 1) = S.2 := by
    apply pg_ext
    · rw [len_rmv (by omega)]; omega
    · intro k hk
      rw [len_rmv (by omega)] at hk
      rw [pg_rmv (by omega), pg_ins hp, pg_ins hp]
      by_cases c : k < p
      · simp (disch := omega) only [if_pos, if_neg, if_true]
      · simp (disch := omega) only [if_pos, if_neg, if_true]
        rfl
  unfold rmvS insS
  exact Prod.ext rfl this
theorem ins_rmv {S : Sh} {p : Nat} (hp : p < S.2.length) : insS (rmvS S p) p (pg S.2 p) = S := by
  have hl : (S.2.take p ++ S.2.drop (p + 1)).length = S.2.length - 1 := len_rmv hp
  have : (S.2.take p ++ S.2.drop (p + 1)).take p ++ (pg S.2 p) :: (S.2.take p ++ S.2.drop (p + 1)).drop p = S.2 := by
    apply pg_ext
    · rw [len_ins (by omega)]; omega
    · intro k hk
      rw [len_ins (by omega)] at hk
      rw [pg_ins (by omega), pg_rmv hp, pg_rmv hp]
      by_cases c : k < p
      · simp (disch := omega) only [if_pos, if_neg, if_true]
      · by_cases c2 : k = p
        · subst c2
          simp (disch := omega) only [if_pos, if_neg, if_true]
        · simp (disch := omega) only [if_pos, if_neg, if_true]
          congr 1
          omega
  unfold rmvS insS
  exact Prod.ext rfl this
theorem set_set {S : Sh} {p : Nat} {q : Pg} (hp : p < S.2.length) : setS (setS S p q) p (pg S.2 p) = S := by
  unfold setS
  refine Prod.ext rfl ?_
  dsimp only
  rw [List.set_set]
  apply pg_ext
  · rw [List.length_set]
  · intro k hk
    rw [pg_set hp]
    by_cases c : k = p
    · rw [if_pos c, c]
    · rw [if_neg c]
theorem sty_sty {S : Sh} {l v : Nat} (hl : l < S.1.length) : styS (styS S l v) l (S.1.getD l 0) = S := by
  unfold styS
  refine Prod.ext ?_ rfl
  dsimp only
  rw [List.set_set]
  apply List.ext_getElem?
  intro i
  rw [List.getElem?_set]
  by_cases c : l = i
  · subst c
    rw [if_pos rfl, if_pos hl, List.getD_eq_getElem?_getD, List.getElem?_eq_getElem hl]
    rfl
  · rw [if_neg c]
theorem len_mv {S : Sh} {k t : Nat} (hk : k < S.2.length) (ht : t < S.2.length) : (mvS S k t).2.length = S.2.length := by
  unfold mvS insS
  have hl : (rmvS S k).2.length = S.2.length - 1 := len_rmv hk
  rw [len_ins (by omega)]
  omega
theorem pg_mv {S : Sh} {k t : Nat} (hk : k < S.2.length) (ht : t < S.2.length) : pg (mvS S k t).2 t = pg S.2 k := by
  unfold mvS insS
  have hl : (rmvS S k).2.length = S.2.length - 1 := len_rmv hk
  rw [pg_ins (by omega), if_neg (by omega), if_pos rfl]
theorem mv_mv {S : Sh} {k t : Nat} (hk : k < S.2.length) (ht : t < S.2.length) : mvS (mvS S k t) t k = S := by
  have hl : (rmvS S k).2.length = S.2.length - 1 := len_rmv hk
  have e : rmvS (mvS S k t) t = rmvS S k := by
    unfold mvS
    exact rmv_ins (by omega)
  rw [mvS, e, pg_mv hk ht]
  exact ins_rmv hk
theorem shift_x {z k t m : Nat} {S : Sh} {V : Mem} (hok : okS S) (hS : ShX V z S) (hC : CM V z S.2 m) (hk : k < S.2.length) (ht : t < S.2.length) : ∃ V', f_X3_shift z (nI k) (nI t) V = some V' ∧ ShX V' z (mvS S k t) ∧ CI V' z (mvS S k t).2 ∧ FX z V V' := by
  have h24 := hok.2.2.1
  have i24 : ib (nI k) 24 = true := ibt (by omega) (by omega)
  have ck : (nI k).toNatClampNeg = k := ncl (by omega)
  have hl : (rmvS S k).2.length = S.2.length - 1 := len_rmv hk
  obtain ⟨V1, x1, x2, ⟨m1, x3⟩, x4⟩ := rmv_x hok hS hC hk
  obtain ⟨V2, y1, y2, y3, y4⟩ := ins_x (ok_rmv hok hk) x2 x3 (p := t) (q := pg S.2 k) (by omega) (by omega) (pg_ok hok.2.2.2 hk)
  obtain ⟨s1, s2, s3⟩ := hS.2.2 k hk
  refine ⟨V2, ?_, y2, y3, x4.tr y4⟩
  unfold f_X3_shift
  rw [has_yes hS.1 (by omega) hk, Option.bind_some, if_neg i10]
  dsimp only
  rw [has_yes hS.1 (by omega) ht, Option.bind_some, if_neg i10, if_pos i24, if_pos i24, if_pos i24]
  dsimp only
  rw [x1, Option.bind_some, ck, s1, s2, s3, y1, Option.bind_some]
theorem moveTo_m {U : Mem} {r k t : Nat} {S : Sh} (hS : ShM (U r) S) (hok : okS S) (hk : k < S.2.length) (ht : t < S.2.length) : ∃ g, f_X7_moveTo r (nI k) (nI t) U = some (ms U r g) ∧ ShM g (mvS S k t) := by
  have h24 := hok.2.2.1
  have hl : (rmvS S k).2.length = S.2.length - 1 := len_rmv hk
  have o0 : f_X7_of r (nI k) 0 U = some (U r (4 + 3 * k + 0), U) := of_any (w := 0) (by omega) (by omega)
  have o1 : f_X7_of r (nI k) 1 U = some (U r (4 + 3 * k + 1), U) := of_any (w := 1) (by omega) (by omega)
  have o2 : f_X7_of r (nI k) 2 U = some (U r (4 + 3 * k + 2), U) := of_any (w := 2) (by omega) (by omega)
  obtain ⟨s1, s2, s3⟩ := hS.2.2 k hk
  obtain ⟨g, t1, t2⟩ := takeOut_m hS h24 hk
  obtain ⟨g', p1, p2⟩ := putAt_m (U := ms U r g) (r := r) (S := rmvS S k) (p := t) (q := pg S.2 k) (by rw [ms_eq]; exact t2) (by omega) (by omega)
  refine ⟨g', ?_, p2⟩
  unfold f_X7_moveTo
  rw [o0, Option.bind_some]
  dsimp only
  rw [o1, Option.bind_some]
  dsimp only
  rw [o2, Option.bind_some]
  dsimp only
  rw [t1, Option.bind_some, Nat.add_zero, s1, s2, s3, p1, Option.bind_some, ms_ms]
theorem inv_act {V U V' U' : Mem} {S S' : Sh} {A : List Act} {a : Act} (h : Inv V U) (hok : okS S') (hv : vA S' a) (hu : und S' a = S) (hX : ShX V' 4 S') (hC : CI V' 4 S'.2) (hAV : AV V' (a :: A.take 23)) (hV : ∀ i, i ≤ 3 ∨ 35 ≤ i → i < 67 ∨ i = 68 ∨ 92 < i → V' i = V i) (hM : ShM (U' 4) S') (h9 : U' 0 9 = nI ((A.take 23).length + 1)) (hAW : AW U' S (A.take 23)) (hsh : ShM (fun j => U' 7 (76 * (A.take 23).length + j)) S) (hU : ∀ i, i ≠ 0 → i ≠ 4 → i ≠ 7 → U' i = U i) (hU0 : ∀ k, k ≠ 0 → k ≠ 9 → U' 0 k = U 0 k) : Inv V' U' := by
  obtain ⟨g1, g2, g3, g4, -, g6, g7⟩ := h
  have v0 : V' 0 = V 0 := hV 0 (by omega) (by omega)
  refine ⟨g1.cg (fun i q1 q2 => hV i (by omega) (by omega)) (hU 1 (by omega) (by omega) (by omega)) (hU 2 (by omega) (by omega) (by omega)) (hU 3 (by omega) (by omega) (by omega)), g2.cg (by rw [v0]) (by rw [v0]) (hU0 1 (by omega) (by omega)) (hU0 18 (by omega) (by omega)), g3.cg (by rw [hV 2 (by omega) (by omega)]) (hV 3 (by omega) (by omega)) (hU0 11 (by omega) (by omega)) (hU 8 (by omega) (by omega) (by omega)), g4.cg (by rw [v0]) (hV 98 (by omega) (by omega)) (hU0 29 (by omega) (by omega)) (hU 16 (by omega) (by omega) (by omega)), ⟨S', a :: A.take 23, hok, hX, hC, hM, hAV, by rw [h9, List.length_cons], ?_⟩, g6.cg (fun i q1 q2 => hV i (by omega) (by omega)) (hU 14 (by omega) (by omega) (by omega)) (hU 15 (by omega) (by omega) (by omega)), fun x hx => by rw [hV 41 (by omega) (by omega)]; exact g7 x hx⟩
  exact ⟨hv, by rw [hu]; exact hsh, by rw [hu]; exact hAW⟩
abbrev told (a b c : Int32) : Prop := (1 ≤ a ∧ a ≤ 5) ∧ (0 ≤ b ∧ b ≤ 2) ∧ (0 ≤ c ∧ c ≤ 20)
theorem told_x (a b c : Int32) (V : Mem) : f_X6_isTold a b c V = some (if told a b c then 1 else 0, V) := by
  unfold f_X6_isTold
  rw [isBetween_eq, Option.bind_some]
  by_cases h1 : 1 ≤ a ∧ a ≤ 5
  · rw [if_neg (fun q => ((b01z _).mp q) h1)]
    dsimp only
    rw [isLevel_eq, Option.bind_some]
    by_cases h2 : 0 ≤ b ∧ b ≤ 2
    · rw [if_neg (fun q => ((b01z _).mp q) h2)]
      dsimp only
      rw [isBetween_eq, Option.bind_some]
      by_cases h3 : 0 ≤ c ∧ c ≤ 20
      · rw [if_neg (fun q => ((b01z _).mp q) h3), if_pos (show told a b c from ⟨h1, h2, h3⟩)]
      · rw [if_pos ((b01z _).mpr h3), if_neg (fun q : told a b c => h3 q.2.2)]
    · rw [if_pos ((b01z _).mpr h2), if_neg (fun q : told a b c => h2 q.2.1)]
  · rw [if_pos ((b01z _).mpr h1), if_neg (fun q : told a b c => h1 q.1)]
theorem such_m (a b c : Int32) (V : Mem) : f_X7_isSuch a b c V = some (if told a b c then 1 else 0, V) := by
  unfold f_X7_isSuch
  rw [show (1 : Int64) = (1 : Int32).toInt64 from rfl, show (5 : Int64) = (5 : Int32).toInt64 from rfl, show (0 : Int64) = (0 : Int32).toInt64 from rfl, show (2 : Int64) = (2 : Int32).toInt64 from rfl, show (20 : Int64) = (20 : Int32).toInt64 from rfl, inw, Option.bind_some]
  by_cases h1 : 1 ≤ a ∧ a ≤ 5
  · rw [if_neg (fun q => ((b01z _).mp q) h1)]
    dsimp only
    rw [inw, Option.bind_some]
    by_cases h2 : 0 ≤ b ∧ b ≤ 2
    · rw [if_neg (fun q => ((b01z _).mp q) h2)]
      dsimp only
      rw [inw, Option.bind_some]
      by_cases h3 : 0 ≤ c ∧ c ≤ 20
      · rw [if_neg (fun q => ((b01z _).mp q) h3), if_pos (show told a b c from ⟨h1, h2, h3⟩)]
      · rw [if_pos ((b01z _).mpr h3), if_neg (fun q : told a b c => h3 q.2.2)]
    · rw [if_pos ((b01z _).mpr h2), if_neg (fun q : told a b c => h2 q.2.1)]
  · rw [if_pos ((b01z _).mpr h1), if_neg (fun q : told a b c => h1 q.1)]
theorem told_of {a b c : Int32} (h : told a b c) : ∃ q : Pg, okP q ∧ a = nI q.1 ∧ b = nI q.2.1 ∧ c = nI q.2.2 := by
  obtain ⟨h1, h2, h3⟩ := h
  obtain ⟨x, x1, rfl⟩ := btw (n := 5) (by omega) ⟨Int32.le_trans (by decide) h1.1, h1.2⟩
  obtain ⟨y, y1, rfl⟩ := btw (n := 2) (by omega) h2
  obtain ⟨w, w1, rfl⟩ := btw (n := 20) (by omega) h3
  refine ⟨(x, y, w), ⟨?_, x1, y1, w1⟩, rfl, rfl, rfl⟩
  have := h1.1
  rw [show (1 : Int32) = nI 1 from rfl, nle (by omega) (by omega)] at this
  exact this
theorem FX.av {V V' : Mem} {A : List Act} (h : FX 4 V V') (hA : AV V A) : AV V' A := hA.cg (h.1 67 (by omega) (by omega) (by omega) (by omega)) (fun i hi => h.1 (69 + i) (by omega) (by omega) (by omega) (by omega))
theorem CM.cg {V V' : Mem} {z m : Nat} {P : List Pg} (hl : P.length ≤ 24) (h : CM V z P m) (a : V' z 6 = V z 6) (b : ∀ k, k ≤ 24 → V' (z + 5 + 1 + k) = V (z + 5 + 1 + k)) : CM V' z P m := by
  obtain ⟨h1, h2, h3⟩ := h
  exact ⟨h1, by rw [a]; exact h2, fun p hp => by rw [b p (by omega)]; exact h3 p hp⟩
theorem ib076 : ib 0 76 = true := by decide
theorem s_put : S_put Inv := by
  intro a b c d V U h
  obtain ⟨S, A, hSS⟩ := h.2.2.2.2.1
  obtain ⟨hok, hX, hC, hM, hAV, h9, hAW⟩ := id hSS
  have h24 := hok.2.2.1
  have hM' : ShM (st U 0 0 0 4) S := by rw [st_id (by omega)]; exact hM
  have e0 : st U 0 0 0 4 ((0 : Int32)).toNatClampNeg = nI S.2.length := hM'.1
  unfold f_X6_put f_X7_put
  rw [none_x hX.1 (by omega), there_m hM'.1 (by omega), Option.bind_some, Option.bind_some]
  by_cases hn : S.2.length = 0
  · rw [if_neg (fun q => ((b01z _).mp q) hn), if_pos ((b01z _).mpr (by omega))]
    exact ⟨_, _, rfl, rfl, rfl, inv_t h⟩
  · rw [if_pos ((b01z _).mpr hn), if_neg (fun q => ((b01z _).mp q) (by omega))]
    dsimp only
    rw [isBetween_eq, if_pos ib076, e0, show (0 : Int64) = (0 : Int32).toInt64 from rfl, inw, hX.1, Option.bind_some, Option.bind_some]
    by_cases hp : 0 ≤ a ∧ a ≤ nI S.2.length
    · rw [if_neg (fun q => ((b01z _).mp q) hp), if_neg (fun q => ((b01z _).mp q) hp)]
      dsimp only
      rw [told_x, such_m, Option.bind_some, Option.bind_some]
      by_cases ht : told b c d
      · rw [if_neg (fun q => ((b01z _).mp q) ht), if_neg (fun q => ((b01z _).mp q) ht)]
        obtain ⟨p, hp1, rfl⟩ := btw (by omega) hp
        obtain ⟨q, hq, rfl, rfl, rfl⟩ := told_of ht
        simp only [hX.1, if_pos ib076, e0]
        by_cases hf : S.2.length = 24
        · rw [if_neg (by rw [li, nlt (by omega) (by omega)]; omega), if_pos (by rw [hf]; rfl)]
          exact ⟨_, _, rfl, rfl, rfl, inv_t h⟩
        · rw [if_pos (by rw [li, nlt (by omega) (by omega)]; omega), if_neg (by rw [li, neq (by omega) (by omega)]; exact hf)]
          obtain ⟨m, hm⟩ := hC
          obtain ⟨V1, x1, x2, x3, x4⟩ := ins_x hok hX hm hp1 (by omega) hq
          obtain ⟨V2, y1, y2, y3⟩ := keep_x (a := (0, p, p, q)) (x4.av hAV)
          have y1' : f_X0_keep 67 0 (nI p) (nI p) (nI q.1) (nI q.2.1) (nI q.2.2) V1 = some V2 := y1
          obtain ⟨U1, k1, k2, k3, k4, k5, k6⟩ := keep_m hok hM' (by rw [st_ne2 (by omega)]; exact h9) hAV.1 (hAW.cg (st_id (by omega)))
          obtain ⟨g, p1, p2⟩ := putAt_m (q := q) (U := U1) (r := 4) (by rw [k2 4 (by omega) (by omega)]; exact hM') (by omega) hp1
          rw [x1, Option.bind_some, y1', Option.bind_some, k1, Option.bind_some, p1, Option.bind_some]
          have hX2 : ShX V2 4 (insS S p q) := x2.cg (by rw [y3 4 (by omega)]) (fun k _ _ => y3 (4 + k) (by omega))
          have hlen : (insS S p q).2.length = S.2.length + 1 := len_ins hp1
          have hC2 : CI V2 4 (insS S p q).2 := x3.cg (by omega) (by rw [y3 4 (by omega)]) (fun k _ => y3 (4 + 5 + 1 + k) (by omega))
          refine ⟨_, _, rfl, rfl, ?_, inv_act (A := A) (a := (0, p, p, q)) h (ok_ins hok (by omega) hp1 hq) ?_ (rmv_ins hp1) hX2 hC2 y2 (fun i q1 q2 => by dsimp only; rw [y3 i q2, x4.1 i (by omega) (by omega) (by omega) (by omega)]) (by dsimp only; rw [ms_eq]; exact p2) (by dsimp only; rw [ms_ne (by omega)]; exact k4) (k5.cg (ms_id (by omega))) (by dsimp only; rw [ms_id (show (7 : Nat) ≠ 4 by omega)]; exact k6) (fun i q1 q2 q3 => by dsimp only; rw [ms_id q2, k2 i q1 q3, st_id q1]) (fun k q1 q2 => by dsimp only; rw [ms_ne (by omega), k3 k q2, st_ne2 q1])⟩
          · show V2 4 4 = ms U1 4 g 4 0
            rw [hX2.1, ms_same, p2.1]
          · show p < (insS S p q).2.length ∧ 1 < (insS S p q).2.length
            omega
      · rw [if_pos ((b01z _).mpr ht), if_pos ((b01z _).mpr ht)]
        exact ⟨_, _, rfl, rfl, rfl, inv_t h⟩
    · rw [if_pos ((b01z _).mpr hp), if_pos ((b01z _).mpr hp)]
      exact ⟨_, _, rfl, rfl, rfl, inv_t h⟩
theorem keepAct_x {V : Mem} {S : Sh} {A : List Act} {t p o : Nat} (hok : okS S) (hX : ShX V 4 S) (hA : AV V A) (hp : p < S.2.length) : ∃ V', f_X6_keepAct (nI t) (nI p) (nI o) V = some V' ∧ AV V' ((t, p, o, pg S.2 p) :: A.take 23) ∧ (∀ i, i < 67 ∨ i = 68 ∨ 92 < i → V' i = V i) := by
  have h24 := hok.2.2.1
  have i24 : ib (nI p) 24 = true := ibt (by omega) (by omega)
  have ck : (nI p).toNatClampNeg = p := ncl (by omega)
  obtain ⟨s1, s2, s3⟩ := hX.2.2 p hp
  obtain ⟨V2, y1, y2, y3⟩ := keep_x (a := (t, p, o, pg S.2 p)) hA
  refine ⟨V2, ?_, y2, y3⟩
  unfold f_X6_keepAct
  have s1' : V 6 p = nI (pg S.2 p).1 := s1
  have s2' : V 7 p = nI (pg S.2 p).2.1 := s2
  have s3' : V 8 p = nI (pg S.2 p).2.2 := s3
  rw [if_pos i24, if_pos i24, if_pos i24, ck, s1', s2', s3', y1, Option.bind_some]
theorem s_take : S_take Inv := by
  intro a V U h
  obtain ⟨S, A, hSS⟩ := h.2.2.2.2.1
  obtain ⟨hok, hX, hC, hM, hAV, h9, hAW⟩ := id hSS
  have h24 := hok.2.2.1
  have hM' : ShM (st U 0 0 0 4) S := by rw [st_id (by omega)]; exact hM
  have e0 : st U 0 0 0 4 ((0 : Int32)).toNatClampNeg = nI S.2.length := hM'.1
  unfold f_X6_take f_X7_take
  rcases dich a S.2.length with ⟨p, hp, rfl⟩ | hk
  · rw [has_yes hX.1 (by omega) hp, par_yes hM'.1 (by omega) hp, Option.bind_some, Option.bind_some, if_neg i10, if_neg i10, if_pos ib076]
    simp only [hX.1, if_pos ib076, e0]
    by_cases hf : S.2.length = 1
    · rw [if_pos (by rw [hf]; rfl), if_pos (by rw [hf]; rfl)]
      exact ⟨_, _, rfl, rfl, rfl, inv_t h⟩
    · rw [if_neg (by rw [li, neq (by omega) (by omega)]; exact hf), if_neg (by rw [li, neq (by omega) (by omega)]; exact hf)]
      obtain ⟨m, hm⟩ := hC
      obtain ⟨V1, y1, y2, y3⟩ := keepAct_x (t := 1) (o := p) hok hX hAV hp
      have y1' : f_X6_keepAct 1 (nI p) (nI p) V = some V1 := y1
      have hX1 : ShX V1 4 S := hX.cg (by rw [y3 4 (by omega)]) (fun k _ _ => y3 (4 + k) (by omega))
      have hm1 : CM V1 4 S.2 m := hm.cg h24 (by rw [y3 4 (by omega)]) (fun k _ => y3 (4 + 5 + 1 + k) (by omega))
      obtain ⟨V2, x1, x2, x3, x4⟩ := rmv_x hok hX1 hm1 hp
      obtain ⟨U1, k1, k2, k3, k4, k5, k6⟩ := keep_m hok hM' (by rw [st_ne2 (by omega)]; exact h9) hAV.1 (hAW.cg (st_id (by omega)))
      obtain ⟨g, p1, p2⟩ := takeOut_m (U := U1) (r := 4) (by rw [k2 4 (by omega) (by omega)]; exact hM') h24 hp
      rw [y1', Option.bind_some, x1, Option.bind_some, k1, Option.bind_some, p1, Option.bind_some]
      have hlen : (rmvS S p).2.length = S.2.length - 1 := len_rmv hp
      refine ⟨_, _, rfl, rfl, ?_, inv_act (A := A) (a := (1, p, p, pg S.2 p)) h (ok_rmv hok hp) ?_ (ins_rmv hp) x2 x3 (x4.av y2) (fun i q1 q2 => by dsimp only; rw [x4.1 i (by omega) (by omega) (by omega) (by omega), y3 i q2]) (by dsimp only; rw [ms_eq]; exact p2) (by dsimp only; rw [ms_ne (by omega)]; exact k4) (k5.cg (ms_id (by omega))) (by dsimp only; rw [ms_id (show (7 : Nat) ≠ 4 by omega)]; exact k6) (fun i q1 q2 q3 => by dsimp only; rw [ms_id q2, k2 i q1 q3, st_id q1]) (fun k q1 q2 => by dsimp only; rw [ms_ne (by omega), k3 k q2, st_ne2 q1])⟩
      · show V2 4 4 = ms U1 4 g 4 0
        rw [x2.1, ms_same, p2.1]
      · show p ≤ (rmvS S p).2.length ∧ (rmvS S p).2.length < 24 ∧ okP (pg S.2 p)
        exact ⟨by omega, by omega, pg_ok hok.2.2.2 hp⟩
  · rw [has_no hX.1 (by omega) hk, par_no hM'.1 (by omega) hk, Option.bind_some, Option.bind_some, if_pos rfl, if_pos rfl]
    exact ⟨_, _, rfl, rfl, rfl, inv_t h⟩
theorem s_move : S_move Inv := by
  intro a b V U h
  obtain ⟨S, A, hSS⟩ := h.2.2.2.2.1
  obtain ⟨hok, hX, hC, hM, hAV, h9, hAW⟩ := id hSS
  have h24 := hok.2.2.1
  have hM' : ShM (st U 0 0 0 4) S := by rw [st_id (by omega)]; exact hM
  unfold f_X6_move f_X7_move
  rcases dich a S.2.length with ⟨p, hp, rfl⟩ | hk
  · rw [has_yes hX.1 (by omega) hp, par_yes hM'.1 (by omega) hp, Option.bind_some, Option.bind_some, if_neg i10, if_neg i10]
    dsimp only
    rcases dich b S.2.length with ⟨t, ht, rfl⟩ | hk
    · rw [has_yes hX.1 (by omega) ht, par_yes hM'.1 (by omega) ht, Option.bind_some, Option.bind_some, if_neg i10, if_neg i10]
      dsimp only
      by_cases hf : nI p = nI t
      · rw [if_pos hf, if_pos hf]
        exact ⟨_, _, rfl, rfl, rfl, inv_t h⟩
      · rw [if_neg hf, if_neg hf]
        obtain ⟨m, hm⟩ := hC
        obtain ⟨V1, y1, y2, y3⟩ := keepAct_x (t := 2) (o := t) hok hX hAV hp
        have y1' : f_X6_keepAct 2 (nI p) (nI t) V = some V1 := y1
        have hX1 : ShX V1 4 S := hX.cg (by rw [y3 4 (by omega)]) (fun k _ _ => y3 (4 + k) (by omega))
        have hm1 : CM V1 4 S.2 m := hm.cg h24 (by rw [y3 4 (by omega)]) (fun k _ => y3 (4 + 5 + 1 + k) (by omega))
        obtain ⟨V2, x1, x2, x3, x4⟩ := shift_x hok hX1 hm1 hp ht
        obtain ⟨U1, k1, k2, k3, k4, k5, k6⟩ := keep_m hok hM' (by rw [st_ne2 (by omega)]; exact h9) hAV.1 (hAW.cg (st_id (by omega)))
        have hU1 : ShM (U1 4) S := by rw [k2 4 (by omega) (by omega)]; exact hM'
        obtain ⟨g, p1, p2⟩ := moveTo_m (U := U1) (r := 4) hU1 hok hp ht
        have o1 : f_X7_of 4 (nI p) 1 U1 = some (U1 4 (4 + 3 * p + 1), U1) := of_any (w := 1) (by omega) (by omega)
        have i24 : ib (nI t) 24 = true := ibt (by omega) (by omega)
        have ct : (nI t).toNatClampNeg = t := ncl (by omega)
        rw [y1', Option.bind_some, x1, Option.bind_some, k1, Option.bind_some, o1, Option.bind_some, if_pos i24, ct]
        dsimp only
        rw [p1, Option.bind_some]
        have hlen : (mvS S p t).2.length = S.2.length := len_mv hp ht
        refine ⟨_, _, rfl, rfl, ?_, inv_act (A := A) (a := (2, p, t, pg S.2 p)) h (ok_mv hok hp ht) ?_ (mv_mv hp ht) x2 x3 (x4.av y2) (fun i q1 q2 => by dsimp only; rw [x4.1 i (by omega) (by omega) (by omega) (by omega), y3 i q2]) (by dsimp only; rw [ms_eq]; exact p2) (by dsimp only; rw [ms_ne (by omega)]; exact k4) (k5.cg (ms_id (by omega))) (by dsimp only; rw [ms_id (show (7 : Nat) ≠ 4 by omega)]; exact k6) (fun i q1 q2 q3 => by dsimp only; rw [ms_id q2, k2 i q1 q3, st_id q1]) (fun k q1 q2 => by dsimp only; rw [ms_ne (by omega), k3 k q2, st_ne2 q1])⟩
        · have e := (x2.2.2 t (by omega)).2.1
          rw [pg_mv hp ht] at e
          exact e.trans (hU1.2.2 p hp).2.1.symm
        · show t < (mvS S p t).2.length ∧ p < (mvS S p t).2.length
          omega
    · rw [has_no hX.1 (by omega) hk, par_no hM'.1 (by omega) hk, Option.bind_some, Option.bind_some, if_pos rfl, if_pos rfl]
      exact ⟨_, _, rfl, rfl, rfl, inv_t h⟩
  · rw [has_no hX.1 (by omega) hk, par_no hM'.1 (by omega) hk, Option.bind_some, Option.bind_some, if_pos rfl, if_pos rfl]
    exact ⟨_, _, rfl, rfl, rfl, inv_t h⟩
theorem lay_set {f : Nat → Int32} {S : Sh} {p : Nat} {q : Pg} (hS : ShM f S) (hp : p < S.2.length) : ShM (l3 f p (nI q.1) (nI q.2.1) (nI q.2.2)) (setS S p q) := by
  have hl : (setS S p q).2.length = S.2.length := List.length_set
  refine ⟨?_, fun l hl2 => ?_, fun k hk => ?_⟩
  · rw [hl]
    unfold l3
    simp (disch := omega) only [if_neg]
    exact hS.1
  · unfold l3
    simp (disch := omega) only [if_neg]
    exact hS.2.1 l hl2
  · rw [hl] at hk
    have e : pg (setS S p q).2 k = if k = p then q else pg S.2 k := pg_set hp k
    rw [e]
    unfold l3
    by_cases c : k = p
    · subst c
      simp (disch := omega) only [if_pos, if_neg, if_true]
      exact ⟨trivial, trivial, trivial⟩
    · simp (disch := omega) only [if_neg]
      exact hS.2.2 k hk
theorem s_change : S_change Inv := by
  intro a b c d V U h
  obtain ⟨S, A, hSS⟩ := h.2.2.2.2.1
  obtain ⟨hok, hX, hC, hM, hAV, h9, hAW⟩ := id hSS
  have h24 := hok.2.2.1
  have hM' : ShM (st U 0 0 0 4) S := by rw [st_id (by omega)]; exact hM
  unfold f_X6_change f_X7_change
  rcases dich a S.2.length with ⟨p, hp, rfl⟩ | hk
  · rw [has_yes hX.1 (by omega) hp, par_yes hM'.1 (by omega) hp, Option.bind_some, Option.bind_some, if_neg i10, if_neg i10]
    dsimp only
    rw [told_x, such_m, Option.bind_some, Option.bind_some]
    by_cases ht : told b c d
    · rw [if_neg (fun q => ((b01z _).mp q) ht), if_neg (fun q => ((b01z _).mp q) ht)]
      obtain ⟨q, hq, rfl, rfl, rfl⟩ := told_of ht
      obtain ⟨m, hm⟩ := hC
      obtain ⟨V1, y1, y2, y3⟩ := keepAct_x (t := 3) (o := p) hok hX hAV hp
      have y1' : f_X6_keepAct 3 (nI p) (nI p) V = some V1 := y1
      have hX1 : ShX V1 4 S := hX.cg (by rw [y3 4 (by omega)]) (fun k _ _ => y3 (4 + k) (by omega))
      have hm1 : CM V1 4 S.2 m := hm.cg h24 (by rw [y3 4 (by omega)]) (fun k _ => y3 (4 + 5 + 1 + k) (by omega))
      obtain ⟨V2, x1, x2, x3, x4⟩ := alt_x (q := q) hok hX1 hm1 hp
      obtain ⟨U1, k1, k2, k3, k4, k5, k6⟩ := keep_m hok hM' (by rw [st_ne2 (by omega)]; exact h9) hAV.1 (hAW.cg (st_id (by omega)))
      have hU1 : ShM (U1 4) S := by rw [k2 4 (by omega) (by omega)]; exact hM'
      have o1 : f_X7_of 4 (nI p) 0 U1 = some (U1 4 (4 + 3 * p + 0), U1) := of_any (w := 0) (by omega) (by omega)
      have i24 : ib (nI p) 24 = true := ibt (by omega) (by omega)
      have ct : (nI p).toNatClampNeg = p := ncl (by omega)
      dsimp only
      rw [if_pos i24, y1', Option.bind_some, x1, Option.bind_some, k1, Option.bind_some, o1, Option.bind_some, ct]
      dsimp only
      rw [layAt_eq (by omega), Option.bind_some]
      refine ⟨_, _, rfl, rfl, ?_, inv_act (A := A) (a := (3, p, p, pg S.2 p)) h (ok_set hok hq) ?_ (set_set hp) x2 x3 (x4.av y2) (fun i q1 q2 => by dsimp only; rw [x4.1 i (by omega) (by omega) (by omega) (by omega), y3 i q2]) (by dsimp only; rw [ms_eq]; exact lay_set hU1 hp) (by dsimp only; rw [ms_ne (by omega)]; exact k4) (k5.cg (ms_id (by omega))) (by dsimp only; rw [ms_id (show (7 : Nat) ≠ 4 by omega)]; exact k6) (fun i q1 q2 q3 => by dsimp only; rw [ms_id q2, k2 i q1 q3, st_id q1]) (fun k q1 q2 => by dsimp only; rw [ms_ne (by omega), k3 k q2, st_ne2 q1])⟩
      · exact (hX.2.2 p hp).1.trans (hU1.2.2 p hp).1.symm
      · show p < (setS S p q).2.length ∧ okP (pg S.2 p)
        exact ⟨by unfold setS; rw [List.length_set]; exact hp, pg_ok hok.2.2.2 hp⟩
    · rw [if_pos ((b01z _).mpr ht), if_pos ((b01z _).mpr ht)]
      exact ⟨_, _, rfl, rfl, rfl, inv_t h⟩
  · rw [has_no hX.1 (by omega) hk, par_no hM'.1 (by omega) hk, Option.bind_some, Option.bind_some, if_pos rfl, if_pos rfl]
    exact ⟨_, _, rfl, rfl, rfl, inv_t h⟩
theorem getD_set {L : List Nat} {l v k : Nat} (hl : l < L.length) : (L.set l v).getD k 0 = if k = l then v else L.getD k 0 := by
  simp only [List.getD_eq_getElem?_getD]
  rw [List.getElem?_set]
  by_cases c : l = k
  · subst c
    rw [if_pos rfl, if_pos rfl, if_pos hl]
    rfl
  · rw [if_neg c, if_neg (fun e => c e.symm)]
theorem sty_x {V : Mem} {S : Sh} {z l v : Nat} (hok : okS S) (hX : ShX V z S) (hl : l < 3) : ShX (st V (z + 1) l (nI v)) z (styS S l v) := by
  refine ⟨by rw [st_ne1 (by omega)]; exact hX.1, fun k hk => ?_, fun k hk => ?_⟩
  · have e : (styS S l v).1.getD k 0 = if k = l then v else S.1.getD k 0 := getD_set (by rw [hok.1]; exact hl)
    rw [e, st_at]
    by_cases c : k = l
    · rw [if_pos ⟨rfl, c⟩, if_pos c]
    · rw [if_neg (fun q => c q.2), if_neg c]
      exact hX.2.1 k hk
  · rw [st_ne1 (by omega), st_ne1 (by omega), st_ne1 (by omega)]
    exact hX.2.2 k hk
theorem sty_m {f : Nat → Int32} {S : Sh} {l v : Nat} (hok : okS S) (hS : ShM f S) (hl : l < 3) : ShM (upd f (1 + l) (nI v)) (styS S l v) := by
  have hu : ∀ y, upd f (1 + l) (nI v) y = if y = 1 + l then nI v else f y := fun _ => rfl
  refine ⟨by rw [hu, if_neg (by omega)]; exact hS.1, fun k hk => ?_, fun k hk => ?_⟩
  · have e : (styS S l v).1.getD k 0 = if k = l then v else S.1.getD k 0 := getD_set (by rw [hok.1]; exact hl)
    rw [e, hu]
    by_cases c : k = l
    · rw [if_pos (by omega), if_pos c]
    · rw [if_neg (by omega), if_neg c]
      exact hS.2.1 k hk
  · rw [hu, hu, hu]
    simp (disch := omega) only [if_neg]
    exact hS.2.2 k hk
theorem s_style : S_style Inv := by
  intro a b V U h
  obtain ⟨S, A, hSS⟩ := h.2.2.2.2.1
  obtain ⟨hok, hX, hC, hM, hAV, h9, hAW⟩ := id hSS
  have h24 := hok.2.2.1
  have hM' : ShM (st U 0 0 0 4) S := by rw [st_id (by omega)]; exact hM
  unfold f_X6_style f_X7_style
  rw [none_x hX.1 (by omega), there_m hM'.1 (by omega), Option.bind_some, Option.bind_some]
  by_cases hn : S.2.length = 0
  · rw [if_neg (fun q => ((b01z _).mp q) hn), if_pos ((b01z _).mpr (by omega))]
    exact ⟨_, _, rfl, rfl, rfl, inv_t h⟩
  · rw [if_pos ((b01z _).mpr hn), if_neg (fun q => ((b01z _).mp q) (by omega))]
    dsimp only
    rw [isLevel_eq, show (0 : Int64) = (0 : Int32).toInt64 from rfl, show (2 : Int64) = (2 : Int32).toInt64 from rfl, show (3 : Int64) = (3 : Int32).toInt64 from rfl, inw, Option.bind_some, Option.bind_some]
    by_cases hp : 0 ≤ a ∧ a ≤ 2
    · rw [if_neg (fun q => ((b01z _).mp q) hp), if_neg (fun q => ((b01z _).mp q) hp)]
      dsimp only
      rw [isBetween_eq, inw, Option.bind_some, Option.bind_some]
      by_cases ht : 0 ≤ b ∧ b ≤ 3
      · rw [if_neg (fun q => ((b01z _).mp q) ht), if_neg (fun q => ((b01z _).mp q) ht)]
        obtain ⟨l, hl, rfl⟩ := btw (n := 2) (by omega) hp
        obtain ⟨v, hv, rfl⟩ := btw (n := 3) (by omega) ht
        have i3 : ib (nI l) 3 = true := ibt (by omega) (by omega)
        have cl : (nI l).toNatClampNeg = l := ncl (by omega)
        have e1 : (1 : Int32) + nI l = nI (1 + l) := by rw [li, nad]
        have i76 : ib (nI (1 + l)) 76 = true := ibt (by omega) (by omega)
        have cl1 : (nI (1 + l)).toNatClampNeg = 1 + l := ncl (by omega)
        have s1 : V 5 l = nI (S.1.getD l 0) := hX.2.1 l (by omega)
        obtain ⟨V1, y1, y2, y3⟩ := keep_x (a := (4, l, S.1.getD l 0, 0, 0, 0)) hAV
        have y1' : f_X0_keep 67 4 (nI l) (nI (S.1.getD l 0)) 0 0 0 V = some V1 := y1
        obtain ⟨U1, k1, k2, k3, k4, k5, k6⟩ := keep_m hok hM' (by rw [st_ne2 (by omega)]; exact h9) hAV.1 (hAW.cg (st_id (by omega)))
        have hU1 : ShM (U1 4) S := by rw [k2 4 (by omega) (by omega)]; exact hM'
        have hX1 : ShX V1 4 S := hX.cg (by rw [y3 4 (by omega)]) (fun k _ _ => y3 (4 + k) (by omega))
        have hC1 : CI V1 4 S.2 := hC.cg h24 (by rw [y3 4 (by omega)]) (fun k _ => y3 (4 + 5 + 1 + k) (by omega))
        dsimp only
        rw [if_pos i3, cl, s1, y1', Option.bind_some, if_pos i3, k1, Option.bind_some, e1, if_pos i76, if_pos i76, cl1]
        have hX2 : ShX (st V1 5 l (nI v)) 4 (styS S l v) := sty_x hok hX1 (by omega)
        have hC2 : CI (st V1 5 l (nI v)) 4 (styS S l v).2 := hC1.cg h24 (by rw [st_ne1 (by omega)]) (fun k _ => st_id (by omega))
        have hA2 : AV (st V1 5 l (nI v)) ((4, l, S.1.getD l 0, 0, 0, 0) :: A.take 23) := y2.cg (st_id (by omega)) (fun i hi => st_id (by omega))
        refine ⟨_, _, rfl, rfl, ?_, inv_act (A := A) (a := (4, l, S.1.getD l 0, 0, 0, 0)) h (ok_sty hok hv) ?_ (sty_sty (show l < S.1.length by rw [hok.1]; omega)) hX2 hC2 hA2 (fun i q1 q2 => by dsimp only; rw [st_id (by omega), y3 i q2]) (sty_m hok hU1 (by omega)) (by dsimp only; rw [st_ne1 (by omega)]; exact k4) (k5.cg (st_id (by omega))) (by dsimp only; rw [st_id (show (7 : Nat) ≠ 4 by omega)]; exact k6) (fun i q1 q2 q3 => by dsimp only; rw [st_id q2, k2 i q1 q3, st_id q1]) (fun k q1 q2 => by dsimp only; rw [st_ne1 (by omega), k3 k q2, st_ne2 q1])⟩
        · exact (hU1.2.1 l (by omega)).symm
        · show 4 = 4 ∧ l < 3 ∧ S.1.getD l 0 ≤ 3
          exact ⟨rfl, by omega, sty_le hok (by omega)⟩
      · rw [if_pos ((b01z _).mpr ht), if_pos ((b01z _).mpr ht)]
        exact ⟨_, _, rfl, rfl, rfl, inv_t h⟩
    · rw [if_pos ((b01z _).mpr hp), if_pos ((b01z _).mpr hp)]
      exact ⟨_, _, rfl, rfl, rfl, inv_t h⟩
end
section
/-! undo, image, restore. -/
theorem inv_new {V U V' U' : Mem} {S' : Sh} {A' : List Act} (h : Inv V U) (hSS : SS V' U' S' A') (hV : ∀ i, i ≤ 3 ∨ 35 ≤ i → i < 67 ∨ i = 68 ∨ 92 < i → V' i = V i) (hU : ∀ i, i ≠ 0 → i ≠ 4 → i ≠ 7 → U' i = U i) (hU0 : ∀ k, k ≠ 0 → k ≠ 9 → U' 0 k = U 0 k) : Inv V' U' := by
  obtain ⟨g1, g2, g3, g4, -, g6, g7⟩ := h
  have v0 : V' 0 = V 0 := hV 0 (by omega) (by omega)
  exact ⟨g1.cg (fun i q1 q2 => hV i (by omega) (by omega)) (hU 1 (by omega) (by omega) (by omega)) (hU 2 (by omega) (by omega) (by omega)) (hU 3 (by omega) (by omega) (by omega)), g2.cg (by rw [v0]) (by rw [v0]) (hU0 1 (by omega) (by omega)) (hU0 18 (by omega) (by omega)), g3.cg (by rw [hV 2 (by omega) (by omega)]) (hV 3 (by omega) (by omega)) (hU0 11 (by omega) (by omega)) (hU 8 (by omega) (by omega) (by omega)), g4.cg (by rw [v0]) (hV 98 (by omega) (by omega)) (hU0 29 (by omega) (by omega)) (hU 16 (by omega) (by omega) (by omega)), ⟨S', A', hSS⟩, g6.cg (fun i q1 q2 => hV i (by omega) (by omega)) (hU 14 (by omega) (by omega) (by omega)) (hU 15 (by omega) (by omega) (by omega)), fun x hx => by rw [hV 41 (by omega) (by omega)]; exact g7 x hx⟩
theorem undo_x {V : Mem} {S : Sh} {A : List Act} {a : Act} (hok : okS S) (hX : ShX V 4 S) (hC : CI V 4 S.2) (hA : AV V (a :: A)) (hv : vA S a) : ∃ V', f_X0_undoLatest 67 4 V = some V' ∧ ShX V' 4 (und S a) ∧ CI V' 4 (und S a).2 ∧ AV V' A ∧ (∀ i, i ≤ 3 ∨ 35 ≤ i → i ≠ 67 → V' i = V i) := by
  have h24 := hok.2.2.1
  obtain ⟨h1, h2, o, h3, h4, h5⟩ := hA
  rw [List.length_cons] at h1 h2
  have hr := h5 0 (by rw [List.length_cons]; omega)
  have e1 : nI (A.length + 1) - 1 = nI A.length := nsb (a := A.length + 1) (b := 1) (by omega)
  unfold f_X0_undoLatest
  rw [h2, e1, if_neg (by rw [li, neq (by omega) (by omega)]; omega)]
  generalize hW : st V 67 2 (nI A.length) = W
  have w0 : ∀ i, i ≠ 67 → W i = V i := fun i hi => by rw [← hW, st_id hi]
  have w1 : W 67 1 = nI o := by rw [← hW, st_ne2 (by omega)]; exact h4
  have w2 : W 67 2 = nI A.length := by rw [← hW, st_same]
  have hm : (o + A.length) % 24 < 24 := Nat.mod_lt _ (by omega)
  have e : nI o + nI A.length - (nI o + nI A.length) / (24 : Int32) * (24 : Int32) = nI ((o + A.length) % 24) := by
    rw [nad, show (24 : Int32) = nI 24 from rfl, remI (by omega) (by omega) (by omega)]
  have hr2 : actRow W (67 + 1 + 1 + (o + A.length) % 24) a := by
    unfold actRow at hr ⊢
    rw [w0 _ (by omega), show 67 + 1 + 1 + (o + A.length) % 24 = 69 + (o + ((a :: A).length - 1 - 0)) % 24 by rw [List.length_cons]; omega]
    exact hr
  have hXW : ShX W 4 S := hX.cg (by rw [w0 4 (by omega)]) (fun k _ _ => w0 (4 + k) (by omega))
  have hCW : CI W 4 S.2 := hC.cg h24 (by rw [w0 4 (by omega)]) (fun k _ => w0 (4 + 5 + 1 + k) (by omega))
  have hAW : AV W A := by
    refine ⟨by omega, w2, o, h3, w1, fun k hk => ?_⟩
    have h6 := h5 (k + 1) (by rw [List.length_cons]; omega)
    unfold actRow at h6 ⊢
    rw [w0 _ (by omega), show (o + (A.length - 1 - k)) % 24 = (o + ((a :: A).length - 1 - (k + 1))) % 24 by rw [List.length_cons]; congr 1; omega]
    rw [List.getD_cons_succ] at h6
    exact h6
  obtain ⟨r0, r1, r2, r3, r4, r5⟩ := hr2
  rw [w1, w2, e, ncl (by omega), if_pos (ibt (by omega) (by omega)), if_pos (by decide), if_pos (by decide)]
  have c0 : (Int32.toNatClampNeg 0) = 0 := by decide
  have c1 : (Int32.toNatClampNeg 1) = 1 := by decide
  have c2 : (Int32.toNatClampNeg 2) = 2 := by decide
  have c3 : (Int32.toNatClampNeg 3) = 3 := by decide
  have c4 : (Int32.toNatClampNeg 4) = 4 := by decide
  have c5 : (Int32.toNatClampNeg 5) = 5 := by decide
  have b2 : ib 2 6 = true := by decide
  have b3 : ib 3 6 = true := by decide
  have b4 : ib 4 6 = true := by decide
  have b5 : ib 5 6 = true := by decide
  rw [c0, c1, c2, c3, c4, c5, r0, r1, r2, r3, r4, r5]
  obtain ⟨m, hmW⟩ := id hCW
  unfold vA at hv
  unfold und
  by_cases q0 : a.1 = 0
  · rw [if_pos q0] at hv ⊢
    rw [if_pos (by rw [q0]; rfl)]
    obtain ⟨V', x1, x2, x3, x4⟩ := rmv_x hok hXW hmW hv.1
    rw [x1, Option.bind_some]
    exact ⟨V', rfl, x2, x3, x4.av hAW, fun i i1 i2 => by rw [x4.1 i (by omega) (by omega) (by omega) (by omega), w0 i i2]⟩
  have a5 : a.1 ≤ 4 := by
    by_cases h : a.1 ≤ 4
    · exact h
    · simp (disch := omega) only [if_neg] at hv
      omega
  rw [if_neg q0] at hv ⊢
  rw [if_neg (show ¬ nI a.1 = 0 by rw [li, neq (by omega) (by omega)]; exact q0)]
  by_cases q1 : a.1 = 1
  · rw [if_pos q1] at hv ⊢
    rw [if_pos (by rw [q1]; rfl), if_pos b3, if_pos b4, if_pos b5]
    obtain ⟨V', x1, x2, x3, x4⟩ := ins_x hok hXW hmW hv.1 hv.2.1 hv.2.2
    rw [x1, Option.bind_some]
    exact ⟨V', rfl, x2, x3, x4.av hAW, fun i i1 i2 => by rw [x4.1 i (by omega) (by omega) (by omega) (by omega), w0 i i2]⟩
  rw [if_neg q1] at hv ⊢
  rw [if_neg (show ¬ nI a.1 = 1 by rw [li, neq (by omega) (by omega)]; exact q1)]
  by_cases q2 : a.1 = 2
  · rw [if_pos q2] at hv ⊢
    rw [if_pos (by rw [q2]; rfl), if_pos b2]
    obtain ⟨V', x1, x2, x3, x4⟩ := shift_x hok hXW hmW hv.1 hv.2
    rw [x1, Option.bind_some]
    exact ⟨V', rfl, x2, x3, x4.av hAW, fun i i1 i2 => by rw [x4.1 i (by omega) (by omega) (by omega) (by omega), w0 i i2]⟩
  rw [if_neg q2] at hv ⊢
  rw [if_neg (show ¬ nI a.1 = 2 by rw [li, neq (by omega) (by omega)]; exact q2)]
  by_cases q3 : a.1 = 3
  · rw [if_pos q3] at hv ⊢
    rw [if_pos (by rw [q3]; rfl), if_pos b3, if_pos b4, if_pos b5]
    obtain ⟨V', x1, x2, x3, x4⟩ := alt_x (q := a.2.2.2) hok hXW hmW hv.1
    rw [x1, Option.bind_some]
    exact ⟨V', rfl, x2, x3, x4.av hAW, fun i i1 i2 => by rw [x4.1 i (by omega) (by omega) (by omega) (by omega), w0 i i2]⟩
  rw [if_neg q3] at hv ⊢
  rw [if_neg (show ¬ nI a.1 = 3 by rw [li, neq (by omega) (by omega)]; exact q3)]
  rw [if_pos b2, if_pos (ibt hv.2.1 (by omega)), ncl (by omega)]
  exact ⟨_, rfl, sty_x hok hXW hv.2.1, hCW.cg h24 (by rw [st_ne1 (by omega)]) (fun k _ => st_id (by omega)), hAW.cg (st_id (by omega)) (fun i hi => st_id (by omega)), fun i i1 i2 => by rw [st_id (by omega), w0 i i2]⟩
theorem undo_loop {U : Mem} {a : Nat} (ha : a < 24) (h9 : U 0 9 = nI a) : ∀ (d n k : Nat), k + d = 76 → d < n → f_X7_undo_27 n (nI k) (cp U 7 4 (76 * a) 0 k) = some (nI a, cp U 7 4 (76 * a) 0 76) := by
  have z9 : ∀ k, cp U 7 4 (76 * a) 0 k 0 9 = nI a := fun k => by rw [cp_ne (by omega)]; exact h9
  intro d
  induction d with
  | zero =>
    intro n k hk hn
    obtain ⟨n, rfl⟩ : ∃ n', n = n' + 1 := ⟨n - 1, by omega⟩
    have e : k = 76 := by omega
    subst e
    rw [f_X7_undo_27, if_pos (by decide), z9]
  | succ d ih =>
    intro n k hk hn
    obtain ⟨n, rfl⟩ : ∃ n', n = n' + 1 := ⟨n - 1, by omega⟩
    have e1 : nI k + 1 = nI (k + 1) := nI_1 k
    have e2 : (76 : Int32) * nI a + nI k = nI (76 * a + k) := by rw [li, pk_mul, nad]
    have hs := cp_step (V := U) (s := 7) (d := 4) (sp := 76 * a) (dp := 0) (k := k) (Or.inl (by omega))
    rw [Nat.zero_add] at hs
    rw [f_X7_undo_27, if_neg (by rw [li, nle (by omega) (by omega)]; omega), z9, e2, if_pos (ibt (by omega) (by omega)), if_pos (ibt (by omega) (by omega)), ncl (by omega), ncl (by omega), e1, hs]
    exact ih n (k + 1) (by omega) (by omega)
theorem s_undo : S_undo Inv := by
  intro V U h
  obtain ⟨S, A, hSS⟩ := h.2.2.2.2.1
  obtain ⟨hok, hX, hC, hM, hAV, h9, hAW⟩ := id hSS
  have h24 := hok.2.2.1
  unfold f_X6_undo f_X7_undo
  rw [hAV.2.1, st_ne2 (show (9 : Nat) ≠ 0 by omega), h9]
  cases A with
  | nil =>
    rw [if_pos (by rfl), if_pos (by rfl)]
    exact ⟨_, _, rfl, rfl, rfl, inv_t h⟩
  | cons a A =>
    have h25 := hAV.1
    rw [List.length_cons] at h25 h9 ⊢
    have e1 : nI (A.length + 1) - 1 = nI A.length := nsb (a := A.length + 1) (b := 1) (by omega)
    rw [if_neg (by rw [li, neq (by omega) (by omega)]; omega), if_neg (by rw [li, neq (by omega) (by omega)]; omega), e1]
    obtain ⟨V', x1, x2, x3, x4, x5⟩ := undo_x hok hX hC hAV hAW.1
    have hl := undo_loop (U := st (st U 0 0 0) 0 9 (nI A.length)) (a := A.length) (by omega) st_same 76 4096 0 (by omega) (by omega)
    rw [cp_zero] at hl
    have hl' : f_X7_undo_27 4096 0 (st (st U 0 0 0) 0 9 (nI A.length)) = _ := hl
    rw [x1, Option.bind_some, hl']
    have hok2 := ok_und hok hAW.1
    refine ⟨_, _, rfl, rfl, ?_, inv_new h (S' := und S a) (A' := A) ⟨hok2, x2, x3, ?_, x4, ?_, ?_⟩ (fun i q1 q2 => x5 i q1 (by omega)) (fun i q1 q2 q3 => ?_) (fun k q1 q2 => ?_)⟩
    · exact x4.2.1
    · dsimp only
      refine ShM_cg hok2.2.2.1 (fun j hj => ?_) hAW.2.1
      rw [cp_in (by omega), st_ne1 (by omega), st_ne1 (by omega)]
      exact congrArg (U 7) (by omega)
    · dsimp only
      rw [cp_ne (by omega), st_same]
    · dsimp only
      refine hAW.2.2.cg ?_
      rw [cp_id (by omega), st_id (by omega), st_id (by omega)]
    · dsimp only
      rw [cp_id q2, st_id q1, st_id q1]
    · dsimp only
      rw [cp_ne (by omega), st_ne2 q2, st_ne2 q1]
theorem sbecome_x {V : Mem} {z r : Nat} {S : Sh} (hzr : z + 31 ≤ r ∨ r + 31 ≤ z) (h24 : S.2.length ≤ 24) (hS : ShX V r S) : ∃ V', f_X3_become z r V = some V' ∧ ShX V' z S ∧ V' z 6 = 0 ∧ (∀ a, a < z ∨ z + 4 < a → V' a = V a) ∧ (∀ k, k ≠ 4 → k ≠ 6 → V' z k = V z k) := by
  have c0 : (Int32.toNatClampNeg 0) = 0 := by decide
  have c3 : (Int32.toNatClampNeg 3) = 3 := by decide
  have cn : (nI S.2.length).toNatClampNeg = S.2.length := ncl (by omega)
  have ck3 : cok 0 0 3 3 3 = true := by decide
  have ckn : cok 0 0 (nI S.2.length) 24 24 = true := cokn (a := 0) (b := 0) (by omega) (by omega) (by omega) (by omega) (by omega)
  have hS1 := hS.1
  unfold f_X3_become
  simp (disch := omega) only [cp_ne, hS1, c0, c3, cn, if_pos ck3, if_pos ckn]
  refine ⟨_, rfl, ⟨?_, fun l hl => ?_, fun k hk => ?_⟩, ?_, fun a ha => ?_, fun k q1 q2 => ?_⟩
  · simp (disch := omega) only [st_ne2, st_same]
  · simp (disch := omega) only [st_ne1, cp_ne, cp_in]
    rw [Nat.zero_add, Nat.sub_zero]
    exact hS.2.1 l hl
  · simp (disch := omega) only [st_ne1, cp_ne, cp_in]
    rw [Nat.zero_add, Nat.sub_zero]
    exact hS.2.2 k hk
  · exact st_same
  · simp (disch := omega) only [st_id, cp_id]
  · simp (disch := omega) only [st_ne2, cp_ne]
theorem image_loop {U : Mem} {a : Nat} (ha : a < 2) : ∀ (d n k : Nat), k + d = 76 → d < n → f_X7_image_30 n (nI a) (nI k) (cp U 4 15 0 (76 * a) k) = some (1, st (cp U 4 15 0 (76 * a) 76) 14 a 1) := by
  intro d
  induction d with
  | zero =>
    intro n k hk hn
    obtain ⟨n, rfl⟩ : ∃ n', n = n' + 1 := ⟨n - 1, by omega⟩
    have e : k = 76 := by omega
    subst e
    rw [f_X7_image_30, if_pos (by decide), if_pos (ibt ha (by omega)), ncl (by omega)]
    rfl
  | succ d ih =>
    intro n k hk hn
    obtain ⟨n, rfl⟩ : ∃ n', n = n' + 1 := ⟨n - 1, by omega⟩
    have e1 : nI k + 1 = nI (k + 1) := nI_1 k
    have e2 : (76 : Int32) * nI a + nI k = nI (76 * a + k) := by rw [li, pk_mul, nad]
    have hs := cp_step (V := U) (s := 4) (d := 15) (sp := 0) (dp := 76 * a) (k := k) (Or.inl (by omega))
    rw [Nat.zero_add] at hs
    rw [f_X7_image_30, if_neg (by rw [li, nle (by omega) (by omega)]; omega), e2, if_pos (ibt (by omega) (by omega)), if_pos (ibt (by omega) (by omega)), ncl (by omega), ncl (by omega), e1, hs]
    exact ih n (k + 1) (by omega) (by omega)
theorem restore_loop {U : Mem} {a : Nat} (ha : a < 2) : ∀ (d n k : Nat), k + d = 76 → d < n → f_X7_restore_32 n (nI a) (nI k) (cp U 15 4 (76 * a) 0 k) = some (1, st (cp U 15 4 (76 * a) 0 76) 0 9 0) := by
  intro d
  induction d with
  | zero =>
    intro n k hk hn
    obtain ⟨n, rfl⟩ : ∃ n', n = n' + 1 := ⟨n - 1, by omega⟩
    have e : k = 76 := by omega
    subst e
    rw [f_X7_restore_32, if_pos (by decide)]
  | succ d ih =>
    intro n k hk hn
    obtain ⟨n, rfl⟩ : ∃ n', n = n' + 1 := ⟨n - 1, by omega⟩
    have e1 : nI k + 1 = nI (k + 1) := nI_1 k
    have e2 : (76 : Int32) * nI a + nI k = nI (76 * a + k) := by rw [li, pk_mul, nad]
    have hs := cp_step (V := U) (s := 15) (d := 4) (sp := 76 * a) (dp := 0) (k := k) (Or.inl (by omega))
    rw [Nat.zero_add] at hs
    rw [f_X7_restore_32, if_neg (by rw [li, nle (by omega) (by omega)]; omega), e2, if_pos (ibt (by omega) (by omega)), if_pos (ibt (by omega) (by omega)), ncl (by omega), ncl (by omega), e1, hs]
    exact ih n (k + 1) (by omega) (by omega)
theorem s_image : S_image Inv := by
  intro a V U h
  obtain ⟨S, A, hSS⟩ := h.2.2.2.2.1
  obtain ⟨hok, hX, hC, hM, hAV, h9, hAW⟩ := id hSS
  have h24 := hok.2.2.1
  have hM' : ShM (st U 0 0 0 4) S := by rw [st_id (by omega)]; exact hM
  unfold f_X6_image f_X7_image
  rw [isBetween_eq, show (0 : Int64) = (0 : Int32).toInt64 from rfl, show (1 : Int64) = (1 : Int32).toInt64 from rfl, inw, Option.bind_some, Option.bind_some]
  by_cases hp : 0 ≤ a ∧ a ≤ 1
  · rw [if_neg (fun q => ((b01z _).mp q) hp), if_neg (fun q => ((b01z _).mp q) hp)]
    dsimp only
    rw [none_x hX.1 (by omega), there_m hM'.1 (by omega), Option.bind_some, Option.bind_some]
    by_cases hn : S.2.length = 0
    · rw [if_neg (fun q => ((b01z _).mp q) hn), if_pos ((b01z _).mpr (by omega))]
      exact ⟨_, _, rfl, rfl, rfl, inv_t h⟩
    · rw [if_pos ((b01z _).mpr hn), if_neg (fun q => ((b01z _).mp q) (by omega))]
      obtain ⟨k, hk, rfl⟩ := btw (n := 1) (by omega) hp
      obtain ⟨V', x1, x2, x3, x4, x5⟩ := sbecome_x (V := V) (z := 115 + 31 * k) (r := 4) (by omega) h24 hX
      have hl := image_loop (U := st U 0 0 0) (a := k) (by omega) 76 4096 0 (by omega) (by omega)
      rw [cp_zero] at hl
      have hl' : f_X7_image_30 4096 (nI k) 0 (st U 0 0 0) = _ := hl
      dsimp only
      rw [if_pos (ibt (by omega) (by omega)), ncl (by omega), x1, Option.bind_some, hl']
      refine ⟨_, _, rfl, rfl, rfl, ?_⟩
      obtain ⟨g1, g2, g3, g4, g5, g6, g7⟩ := h
      dsimp only
      have hU : ∀ i, i ≠ 0 → i ≠ 14 → i ≠ 15 → st (cp (st U 0 0 0) 4 15 0 (76 * k) 76) 14 k 1 i = U i := fun i q1 q2 q3 => by rw [st_id q2, cp_id q3, st_id q1]
      have hU0 : ∀ j, j ≠ 0 → st (cp (st U 0 0 0) 4 15 0 (76 * k) 76) 14 k 1 0 j = U 0 j := fun j q1 => by rw [st_ne1 (by omega), cp_ne (by omega), st_ne2 q1]
      have v0 : V' 0 = V 0 := x4 0 (by omega)
      refine ⟨g1.cg (fun i q1 q2 => x4 i (by omega)) (hU 1 (by omega) (by omega) (by omega)) (hU 2 (by omega) (by omega) (by omega)) (hU 3 (by omega) (by omega) (by omega)), g2.cg (by rw [v0]) (by rw [v0]) (hU0 1 (by omega)) (hU0 18 (by omega)), g3.cg (by rw [x4 2 (by omega)]) (x4 3 (by omega)) (hU0 11 (by omega)) (hU 8 (by omega) (by omega) (by omega)), g4.cg (by rw [v0]) (x4 98 (by omega)) (hU0 29 (by omega)) (hU 16 (by omega) (by omega) (by omega)), ⟨S, A, hSS.cg (fun i q1 q2 => x4 i (by omega)) (x4 67 (by omega)) (fun i hi => x4 (69 + i) (by omega)) (hU 4 (by omega) (by omega) (by omega)) (hU0 9 (by omega)) (hU 7 (by omega) (by omega) (by omega))⟩, fun k2 hk2 => ?_, fun x hx => by rw [x4 41 (by omega)]; exact g7 x hx⟩
      by_cases c : k2 = k
      · subst c
        refine Or.inr ⟨S, hok, by omega, x2, ShM_cg h24 (fun j hj => ?_) hM', st_same⟩
        rw [st_ne1 (by omega), cp_in (by omega)]
        congr 1
        omega
      · rcases g6 k2 hk2 with h0 | ⟨T, t1, t2, t3, t4, t5⟩
        · refine Or.inl ?_
          rw [x4 _ (by omega), st_ne2 c, cp_ne (by omega), st_ne1 (by omega)]
          exact h0
        · refine Or.inr ⟨T, t1, t2, t3.cg (by rw [x4 _ (by omega)]) (fun j q1 q2 => x4 _ (by omega)), ShM_cg t1.2.2.1 (fun j hj => ?_) t4, ?_⟩
          · rw [st_ne1 (by omega), cp_out (by omega), st_ne1 (by omega)]
          · rw [st_ne2 c, cp_ne (by omega), st_ne1 (by omega)]
            exact t5
  · rw [if_pos ((b01z _).mpr hp), if_pos ((b01z _).mpr hp)]
    exact ⟨_, _, rfl, rfl, rfl, inv_t h⟩
theorem ci_new {V V' : Mem} {P Q : List Pg} (hC : CI V 4 P) (h6 : V' 4 6 = 0) (h10 : V' 10 = V 10) : CI V' 4 Q := by
  obtain ⟨m, h1, h2, h3⟩ := hC
  refine ⟨0, by omega, h6, fun p hp x hx => ?_⟩
  have e : p = 0 := by omega
  subst e
  show V' 10 x = _
  rw [h10]
  exact h3 0 (by omega) x hx
theorem s_restore : S_restore Inv := by
  intro a V U h
  obtain ⟨S, A, hSS⟩ := h.2.2.2.2.1
  obtain ⟨hok, hX, hC, hM, hAV, h9, hAW⟩ := id hSS
  unfold f_X6_restore f_X7_restore
  rw [isBetween_eq, show (0 : Int64) = (0 : Int32).toInt64 from rfl, show (1 : Int64) = (1 : Int32).toInt64 from rfl, inw, Option.bind_some, Option.bind_some]
  by_cases hp : 0 ≤ a ∧ a ≤ 1
  · rw [if_neg (fun q => ((b01z _).mp q) hp), if_neg (fun q => ((b01z _).mp q) hp)]
    obtain ⟨k, hk, rfl⟩ := btw (n := 1) (by omega) hp
    have i2 : ib (nI k) 2 = true := ibt (by omega) (by omega)
    have ck : (nI k).toNatClampNeg = k := ncl (by omega)
    have u14 : st U 0 0 0 14 k = U 14 k := st_ne1 (by omega)
    simp only [if_pos i2, ck, u14]
    rcases h.2.2.2.2.2.1 k (by omega) with ⟨h0, h1⟩ | ⟨T, t1, t2, t3, t4, t5⟩
    · rw [none_x (n := 0) h0 (by omega), Option.bind_some, if_neg (fun q => ((b01z (0 = 0)).mp q) rfl), if_pos h1]
      exact ⟨_, _, rfl, rfl, rfl, inv_t h⟩
    · have h24 := t1.2.2.1
      rw [none_x t3.1 (by omega), Option.bind_some, if_pos ((b01z (T.2.length = 0)).mpr (by omega)), if_neg (show ¬ U 14 k = 0 by rw [t5]; decide)]
      obtain ⟨V', x1, x2, x3, x4, x5⟩ := sbecome_x (V := V) (z := 4) (r := 115 + 31 * k) (by omega) h24 t3
      have hl := restore_loop (U := st U 0 0 0) (a := k) (by omega) 76 4096 0 (by omega) (by omega)
      rw [cp_zero] at hl
      have hl' : f_X7_restore_32 4096 (nI k) 0 (st U 0 0 0) = _ := hl
      dsimp only
      rw [x1, Option.bind_some, f_X0_forgetAll, Option.bind_some, hl']
      refine ⟨_, _, rfl, rfl, rfl, ?_⟩
      dsimp only
      refine inv_new h (S' := T) (A' := []) ⟨t1, ?_, ?_, ?_, ?_, ?_, trivial⟩ (fun i q1 q2 => ?_) (fun i q1 q2 q3 => ?_) (fun j q1 q2 => ?_)
      · exact x2.cg (by rw [st_ne1 (by omega), st_ne1 (by omega)]) (fun j q1 q2 => by rw [st_id (by omega), st_id (by omega)])
      · exact ci_new hC (by rw [st_ne1 (by omega), st_ne1 (by omega)]; exact x3) (by rw [st_id (by omega), st_id (by omega), x4 10 (by omega)])
      · refine ShM_cg h24 (fun j hj => ?_) t4
        rw [st_ne1 (by omega), cp_in (by omega), st_ne1 (by omega)]
        exact congrArg (U 15) (by omega)
      · exact ⟨by simp, by rw [st_same]; rfl, 0, by omega, by rw [st_ne2 (by omega), st_same]; rfl, fun k hk => absurd hk (by simp)⟩
      · rw [st_same]; rfl
      · rw [st_id (by omega), st_id (by omega), x4 i (by omega)]
      · rw [st_id q1, cp_id q2, st_id q1]
      · rw [st_ne2 q2, cp_ne (by omega), st_ne2 q1]
  · rw [if_pos ((b01z _).mpr hp), if_pos ((b01z _).mpr hp)]
    exact ⟨_, _, rfl, rfl, rfl, inv_t h⟩
end
section
/-! register. -/
def cmpA (L M : List Nat) : Nat → Nat → Int32
  | 0, _ => nI L.length - nI M.length
  | d + 1, j => if nI (L.getD j 0) = nI (M.getD j 0) then cmpA L M d (j + 1) else nI (L.getD j 0) - nI (M.getD j 0)
def mn (a b : Nat) : Nat := if b < a then b else a
def cmpL (L M : List Nat) : Int32 := cmpA L M (mn L.length M.length) 0
theorem WL.cg {r : Nat} {V V' : Mem} {L : List Nat} (h : WL r V L) (h1 : V' r = V r) (h2 : V' (r + 1) = V (r + 1)) : WL r V' L := by
  unfold WL at h ⊢
  rw [h1, h2]
  exact h
theorem order_loop {z r : Nat} {V : Mem} {L M : List Nat} (hz : WL z V L) (hr : WL r V M) (hL : L.length ≤ 23) (hM : M.length ≤ 23) : ∀ (d n k : Nat), k + d = mn L.length M.length → d < n → f_X4_order_14 z n r (nI (mn L.length M.length)) (nI k) V = some (cmpA L M d k, V) := by
  have hm : mn L.length M.length ≤ L.length ∧ mn L.length M.length ≤ M.length := by unfold mn; split <;> omega
  intro d
  induction d with
  | zero =>
    intro n k hk hn
    obtain ⟨n, rfl⟩ : ∃ n', n = n' + 1 := ⟨n - 1, by omega⟩
    rw [f_X4_order_14, if_pos (by rw [nle (by omega) (by omega)]; omega), hz.1, hr.1]
    rfl
  | succ d ih =>
    intro n k hk hn
    obtain ⟨n, rfl⟩ : ∃ n', n = n' + 1 := ⟨n - 1, by omega⟩
    have e1 : nI k + 1 = nI (k + 1) := nI_1 k
    have i23 : ib (nI k) 23 = true := ibt (by omega) (by omega)
    have ck : (nI k).toNatClampNeg = k := ncl (by omega)
    rw [f_X4_order_14, if_neg (by rw [nle (by omega) (by omega)]; omega), if_pos i23, if_pos i23, if_pos i23, if_pos i23, ck, hz.2 k (by omega), hr.2 k (by omega), e1, ih n (k + 1) (by omega) (by omega), cmpA]
    by_cases c : nI (L.getD k 0) = nI (M.getD k 0)
    · rw [if_pos c, if_pos c]
    · rw [if_neg c, if_neg c]
theorem order_x {z r : Nat} {V : Mem} {L M : List Nat} (hz : WL z V L) (hr : WL r V M) (hL : L.length ≤ 23) (hM : M.length ≤ 23) : f_X4_order z r V = some (cmpL L M, V) := by
  have hm : mn L.length M.length ≤ L.length := by unfold mn; split <;> omega
  unfold f_X4_order
  have e : (if V r 1 < V z 1 then V r 1 else V z 1) = nI (mn L.length M.length) := by
    rw [hz.1, hr.1]
    unfold mn
    exact minI (by omega) (by omega)
  rw [e]
  exact order_loop hz hr hL hM (mn L.length M.length) 4096 0 (by omega) (by omega)
/-- the label that is written, the one that is held -/
def WS (U : Mem) (L : List Nat) : Prop := U 0 23 = nI L.length ∧ ∀ j, j < L.length → U 12 j = nI (L.getD j 0)
def WH (U : Mem) (L : List Nat) : Prop := U 0 25 = nI L.length ∧ ∀ j, j < L.length → U 13 j = nI (L.getD j 0)
theorem comp_loop {U : Mem} {L M : List Nat} (hz : WS U L) (hr : WH U M) (hL : L.length ≤ 23) (hM : M.length ≤ 23) : ∀ (d n k : Nat), k + d = mn L.length M.length → d < n → f_X7_compared_2 n (nI k) U = some (cmpA L M d k, U) := by
  have hm : (mn L.length M.length = L.length ∨ mn L.length M.length = M.length) ∧ mn L.length M.length ≤ L.length ∧ mn L.length M.length ≤ M.length := by unfold mn; split <;> omega
  intro d
  induction d with
  | zero =>
    intro n k hk hn
    obtain ⟨n, rfl⟩ : ∃ n', n = n' + 1 := ⟨n - 1, by omega⟩
    rw [f_X7_compared_2, f_X7_compared_53, hz.1, hr.1]
    by_cases c : L.length ≤ k
    · rw [if_pos (by rw [nle (by omega) (by omega)]; omega)]
      rfl
    · rw [if_neg (by rw [nle (by omega) (by omega)]; omega), if_pos (by rw [nle (by omega) (by omega)]; omega)]
      rfl
  | succ d ih =>
    intro n k hk hn
    obtain ⟨n, rfl⟩ : ∃ n', n = n' + 1 := ⟨n - 1, by omega⟩
    have e1 : nI k + 1 = nI (k + 1) := nI_1 k
    have i40 : ib (nI k) 40 = true := ibt (by omega) (by omega)
    have ck : (nI k).toNatClampNeg = k := ncl (by omega)
    rw [f_X7_compared_2, hz.1, hr.1, if_neg (by rw [nle (by omega) (by omega)]; omega), if_neg (by rw [nle (by omega) (by omega)]; omega), if_pos i40, if_pos i40, if_pos i40, if_pos i40, ck, hz.2 k (by omega), hr.2 k (by omega), e1, ih n (k + 1) (by omega) (by omega), cmpA]
    by_cases c : nI (L.getD k 0) = nI (M.getD k 0)
    · rw [if_pos c, if_pos c]
    · rw [if_neg c, if_neg c]
theorem comp_m {U : Mem} {L M : List Nat} (hz : WS U L) (hr : WH U M) (hL : L.length ≤ 23) (hM : M.length ≤ 23) : f_X7_compared U = some (cmpL L M, U) := by
  have hm : mn L.length M.length ≤ L.length := by unfold mn; split <;> omega
  unfold f_X7_compared
  exact comp_loop hz hr hL hM (mn L.length M.length) 4096 0 (by omega) (by omega)
theorem hold_loop {U : Mem} {m : Nat} (hm : m ≤ 40) (h : U 0 23 = nI m) : ∀ (d n k : Nat), k + d = m → d < n → f_X7_holdLabel_10 n (nI k) (cp U 12 13 0 0 k) = some (cp U 12 13 0 0 m) := by
  have z : ∀ k, cp U 12 13 0 0 k 0 23 = nI m := fun k => by rw [cp_ne (by omega)]; exact h
  intro d
  induction d with
  | zero =>
    intro n k hk hn
    obtain ⟨n, rfl⟩ : ∃ n', n = n' + 1 := ⟨n - 1, by omega⟩
    have e : k = m := by omega
    subst e
    rw [f_X7_holdLabel_10, z, if_pos (by rw [nle (by omega) (by omega)]; omega)]
  | succ d ih =>
    intro n k hk hn
    obtain ⟨n, rfl⟩ : ∃ n', n = n' + 1 := ⟨n - 1, by omega⟩
    have e1 : nI k + 1 = nI (k + 1) := nI_1 k
    have hs := cp_step (V := U) (s := 12) (d := 13) (sp := 0) (dp := 0) (k := k) (Or.inl (by omega))
    rw [Nat.zero_add] at hs
    rw [f_X7_holdLabel_10, z, if_neg (by rw [nle (by omega) (by omega)]; omega), if_pos (ibt (by omega) (by omega)), if_pos (ibt (by omega) (by omega)), ncl (by omega), e1, hs]
    exact ih n (k + 1) (by omega) (by omega)
theorem hold_m {U : Mem} {L : List Nat} (hL : L.length ≤ 23) (h : WS U L) : ∃ U', f_X7_holdLabel U = some U' ∧ WH U' L ∧ (∀ a, a ≠ 0 → a ≠ 13 → U' a = U a) ∧ ∀ k, k ≠ 25 → U' 0 k = U 0 k := by
  unfold f_X7_holdLabel
  rw [h.1]
  have hl := hold_loop (U := st U 0 25 (nI L.length)) (m := L.length) (by omega) (by rw [st_ne2 (by omega)]; exact h.1) L.length 4096 0 (by omega) (by omega)
  rw [cp_zero] at hl
  refine ⟨_, hl, ⟨?_, fun j hj => ?_⟩, fun a q1 q2 => ?_, fun k q => ?_⟩
  · rw [cp_ne (by omega), st_same]
  · rw [cp_in (by omega), Nat.zero_add, Nat.sub_zero, st_ne1 (by omega)]
    exact h.2 j hj
  · rw [cp_id q2, st_id q1]
  · rw [cp_ne (by omega), st_ne2 q]
theorem wm_WS {M : Mem} {L : List Nat} : WS (wm M L) L := ⟨wm_23, fun _ hj => wm_12 hj⟩
theorem mw_fr {U M M' : Mem} {S : Sh} (h : MW U M S) (h1 : ∀ a, a ≠ 0 → a ≠ 12 → a ≠ 13 → M' a = M a) (h2 : ∀ k, k ≠ 23 → k ≠ 25 → M' 0 k = M 0 k) : MW U M' S := by
  obtain ⟨⟨g1, g2, g3, g4⟩, g5, g6, g7, g8⟩ := h
  exact ⟨⟨fun a q1 q2 q3 q4 => by rw [h1 a q1 (by omega) (by omega)]; exact g1 a q1 q2 q3 q4, by rw [h2 9 (by omega) (by omega)]; exact g2, by rw [h2 11 (by omega) (by omega)]; exact g3, by rw [h2 29 (by omega) (by omega)]; exact g4⟩, by rw [h2 1 (by omega) (by omega)]; exact g5, by rw [h2 18 (by omega) (by omega)]; exact g6, by rw [h1 4 (by omega) (by omega) (by omega)]; exact g7, fun k l hk hl => by rw [h1 11 (by omega) (by omega) (by omega)]; exact g8 k l hk hl⟩
def raF (S : Sh) (p : Nat) : Nat → Nat → Int32 → Int32
  | 0, _, acc => acc
  | d + 1, k, acc => raF S p d (k + 1) (if (pg S.2 k).1 ≤ 3 ∧ (cmpL (lab S k 0) (lab S p 0) < 0 ∨ (cmpL (lab S k 0) (lab S p 0) = 0 ∧ ¬ nI p ≤ nI k)) then acc + 1 else acc)
def rgF (S : Sh) (x : Int32) : Nat → Nat → Int32
  | 0, _ => -1000000
  | d + 1, k => if (pg S.2 k).1 ≤ 3 ∧ raF S k S.2.length 0 0 = x then nI k else rgF S x d (k + 1)
theorem ra_x {S : Sh} {V : Mem} {p : Nat} (hok : okS S) (hX : ShX V 4 S) (hp : p < S.2.length) (hW : ∀ k, k < S.2.length → WL (177 + 2 * k) V (lab S k 0)) : ∀ (d n k : Nat) (acc : Int32), k + d = S.2.length → d < n → f_X6_registeredAhead_4 n (nI p) acc (nI k) V = some (raF S p d k acc, V) := by
  have h24 := hok.2.2.1
  intro d
  induction d with
  | zero =>
    intro n k acc hk hn
    obtain ⟨n, rfl⟩ : ∃ n', n = n' + 1 := ⟨n - 1, by omega⟩
    rw [f_X6_registeredAhead_4, hX.1, if_pos (by rw [nle (by omega) (by omega)]; omega)]
    rfl
  | succ d ih =>
    intro n k acc hk hn
    obtain ⟨n, rfl⟩ : ∃ n', n = n' + 1 := ⟨n - 1, by omega⟩
    have e1 : nI k + 1 = nI (k + 1) := nI_1 k
    have hk2 : k < S.2.length := by omega
    rw [f_X6_registeredAhead_4, hX.1, if_neg (by rw [nle (by omega) (by omega)]; omega), if_pos (ibt (by omega) (by omega)), if_pos (ibt (by omega) (by omega)), ncl (by omega), ncl (by omega), order_x (hW k hk2) (hW p hp) (lab_len hok hk2).1 (lab_len hok hp).1, Option.bind_some]
    dsimp only
    rw [lbl_x hok hX hk2, Option.bind_some]
    unfold f_X6_registeredAhead_58 f_X6_registeredAhead_61
    dsimp only
    rw [e1, ih n (k + 1) acc (by omega) (by omega), ih n (k + 1) (acc + 1) (by omega) (by omega), raF]
    by_cases a : (pg S.2 k).1 ≤ 3
    · rw [if_neg (fun q => ((b01z _).mp q) a)]
      by_cases b : cmpL (lab S k 0) (lab S p 0) < 0
      · rw [if_pos b, if_pos ⟨a, Or.inl b⟩]
      · rw [if_neg b]
        by_cases c : cmpL (lab S k 0) (lab S p 0) = 0
        · rw [if_pos c]
          by_cases f : nI p ≤ nI k
          · rw [if_pos f, if_neg (fun q => q.2.elim b (fun q => q.2 f))]
          · rw [if_neg f, if_pos ⟨a, Or.inr ⟨c, f⟩⟩]
        · rw [if_neg c, if_neg (fun q => q.2.elim b (fun q => c q.1))]
    · rw [if_pos ((b01z _).mpr a), if_neg (fun q => a q.1)]
theorem rg_x {S : Sh} {V : Mem} {x : Int32} (hok : okS S) (hX : ShX V 4 S) (hW : ∀ k, k < S.2.length → WL (177 + 2 * k) V (lab S k 0)) : ∀ (d n k : Nat), k + d = S.2.length → d < n → f_X6_register_56 n x (nI k) V = some (rgF S x d k, V) := by
  have h24 := hok.2.2.1
  intro d
  induction d with
  | zero =>
    intro n k hk hn
    obtain ⟨n, rfl⟩ : ∃ n', n = n' + 1 := ⟨n - 1, by omega⟩
    rw [f_X6_register_56, hX.1, if_pos (by rw [nle (by omega) (by omega)]; omega)]
    rfl
  | succ d ih =>
    intro n k hk hn
    obtain ⟨n, rfl⟩ : ∃ n', n = n' + 1 := ⟨n - 1, by omega⟩
    have e1 : nI k + 1 = nI (k + 1) := nI_1 k
    have hk2 : k < S.2.length := by omega
    rw [f_X6_register_56, hX.1, if_neg (by rw [nle (by omega) (by omega)]; omega), lbl_x hok hX hk2, Option.bind_some]
    unfold f_X6_register_89 f_X6_registeredAhead
    dsimp only
    rw [e1, ih n (k + 1) (by omega) (by omega), rgF]
    by_cases a : (pg S.2 k).1 ≤ 3
    · rw [if_neg (fun q => ((b01z _).mp q) a)]
      have hr : f_X6_registeredAhead_4 4096 (nI k) 0 0 V = _ := ra_x hok hX hk2 hW S.2.length 4096 0 0 (by omega) (by omega)
      rw [hr, Option.bind_some]
      dsimp only
      by_cases b : raF S k S.2.length 0 0 = x
      · rw [if_pos b, if_pos ⟨a, b⟩]
      · rw [if_neg b, if_neg (fun q => b q.2), ih n (k + 1) (by omega) (by omega)]
    · rw [if_pos ((b01z _).mpr a), if_neg (fun q => a q.1)]
theorem rw_x {V0 : Mem} {S : Sh} {x : Int32} (hok : okS S) : ∀ (d n k : Nat) (V : Mem), k + d = S.2.length → d < n → XQ V0 V S → (∀ j, j < k → WL (177 + 2 * j) V (lab S j 0)) → ∃ V', f_X6_register_22 n x (nI k) V = some (rgF S x S.2.length 0, V') ∧ XQ V0 V' S := by
  have h24 := hok.2.2.1
  intro d
  induction d with
  | zero =>
    intro n k V hk hn hx hW
    obtain ⟨n, rfl⟩ : ∃ n', n = n' + 1 := ⟨n - 1, by omega⟩
    have hr : f_X6_register_56 4096 x 0 V = _ := rg_x hok hx.2.2.1 (fun j hj => hW j (by omega)) S.2.length 4096 0 (by omega) (by omega)
    rw [f_X6_register_22, hx.2.2.1.1, if_pos (by rw [nle (by omega) (by omega)]; omega), hr]
    exact ⟨V, rfl, hx⟩
  | succ d ih =>
    intro n k V hk hn hx hW
    obtain ⟨n, rfl⟩ : ∃ n', n = n' + 1 := ⟨n - 1, by omega⟩
    have e1 : nI k + 1 = nI (k + 1) := nI_1 k
    have hk2 : k < S.2.length := by omega
    obtain ⟨F, f1, f2, f3, f4⟩ := lab_x (z := 4) (r := 177 + 2 * k) (f := 0) (Or.inl rfl) (by omega) hok hx.2.2.1 hx.2.2.2.1 hk2 (by omega)
    have f1' : f_X3_writeLabel 4 (nI k) 0 (177 + 2 * k) V = some F := f1
    rw [f_X6_register_22, hx.2.2.1.1, if_neg (by rw [nle (by omega) (by omega)]; omega), if_pos (ibt (by omega) (by omega)), ncl (by omega), f1', Option.bind_some, e1]
    refine ih n (k + 1) F (by omega) (by omega) (xq_lab hx (Or.inr (by omega)) f2 f3) (fun j hj => ?_)
    by_cases c : j = k
    · subst c; exact f4
    · exact (hW j (by omega)).cg (f2.1 _ (by omega) (by omega) (by omega) (by omega)) (f2.1 _ (by omega) (by omega) (by omega) (by omega))
theorem ra_m {U : Mem} {S : Sh} {x : Int32} {p : Nat} {K : Int32 → Int32 → Mem → Option (Int32 × Mem)} (hok : okS S) (hp : p < S.2.length) : ∀ (d n k : Nat) (acc : Int32) (M : Mem), k + d = S.2.length → d < n → MW U M S → WH M (lab S p 0) → ∃ M', f_X7_register_72 K n x (nI p) acc (nI k) M = (if raF S p d k acc = x then some (nI p, M') else f_X7_register_149 K x (nI p) M') ∧ MW U M' S := by
  have h24 := hok.2.2.1
  intro d
  induction d with
  | zero =>
    intro n k acc M hk hn hm hW
    obtain ⟨n, rfl⟩ : ∃ n', n = n' + 1 := ⟨n - 1, by omega⟩
    have e0 : M 4 ((0 : Int32)).toNatClampNeg = nI S.2.length := hm.2.2.2.1.1
    refine ⟨M, ?_, hm⟩
    rw [f_X7_register_72, if_pos ib076, e0, if_pos (by rw [nle (by omega) (by omega)]; omega)]
    rfl
  | succ d ih =>
    intro n k acc M hk hn hm hW
    obtain ⟨n, rfl⟩ : ∃ n', n = n' + 1 := ⟨n - 1, by omega⟩
    have e0 : M 4 ((0 : Int32)).toNatClampNeg = nI S.2.length := hm.2.2.2.1.1
    have e1 : nI k + 1 = nI (k + 1) := nI_1 k
    have hk2 : k < S.2.length := by omega
    rw [f_X7_register_72, if_pos ib076, e0, if_neg (by rw [nle (by omega) (by omega)]; omega), lbl_m hok hm.2.2.2.1 hk2, Option.bind_some]
    unfold f_X7_register_134 f_X7_register_136
    dsimp only
    rw [e1, raF]
    by_cases a : (pg S.2 k).1 ≤ 3
    · rw [if_neg (fun q => ((b01z _).mp q) a)]
      have w : f_X7_writeLabel 4 (nI k) 0 M = some (wm M (lab S k 0)) := lab_m (f := 0) (by omega) hok hm.2.2.2.1 hk2 (by omega) (fun l hl => hm.2.2.2.2 k l hk2 hl)
      have hW' : WH (wm M (lab S k 0)) (lab S p 0) := by
        unfold WH
        rw [wm_0 (by omega), wm_id (by omega) (by omega)]
        exact hW
      rw [w, Option.bind_some, comp_m wm_WS hW' (lab_len hok hk2).1 (lab_len hok hp).1, Option.bind_some, add0]
      dsimp only
      by_cases b : cmpL (lab S k 0) (lab S p 0) < 0
      · rw [if_pos b, if_pos ⟨a, Or.inl b⟩]
        exact ih n (k + 1) (acc + 1) _ (by omega) (by omega) (mw_wm hm) hW'
      · rw [if_neg b]
        by_cases c : cmpL (lab S k 0) (lab S p 0) = 0
        · rw [if_pos c]
          by_cases f : nI p ≤ nI k
          · rw [if_pos f, if_neg (fun q => q.2.elim b (fun q => q.2 f))]
            exact ih n (k + 1) acc _ (by omega) (by omega) (mw_wm hm) hW'
          · rw [if_neg f, if_pos ⟨a, Or.inr ⟨c, f⟩⟩]
            exact ih n (k + 1) (acc + 1) _ (by omega) (by omega) (mw_wm hm) hW'
        · rw [if_neg c, if_neg (fun q => q.2.elim b (fun q => c q.1))]
          exact ih n (k + 1) acc _ (by omega) (by omega) (mw_wm hm) hW'
    · rw [if_pos ((b01z _).mpr a), if_neg (fun q => a q.1)]
      exact ih n (k + 1) acc M (by omega) (by omega) hm hW
theorem rg_m {U : Mem} {S : Sh} {x : Int32} (hok : okS S) : ∀ (d n k : Nat) (M : Mem), k + d = S.2.length → d < n → MW U M S → ∃ M', f_X7_register_32 n x (nI k) M = some (rgF S x d k, M') ∧ MW U M' S := by
  have h24 := hok.2.2.1
  intro d
  induction d with
  | zero =>
    intro n k M hk hn hm
    obtain ⟨n, rfl⟩ : ∃ n', n = n' + 1 := ⟨n - 1, by omega⟩
    have e0 : M 4 ((0 : Int32)).toNatClampNeg = nI S.2.length := hm.2.2.2.1.1
    refine ⟨M, ?_, hm⟩
    rw [f_X7_register_32, if_pos ib076, e0, if_pos (by rw [nle (by omega) (by omega)]; omega)]
    rfl
  | succ d ih =>
    intro n k M hk hn hm
    obtain ⟨n, rfl⟩ : ∃ n', n = n' + 1 := ⟨n - 1, by omega⟩
    have e0 : M 4 ((0 : Int32)).toNatClampNeg = nI S.2.length := hm.2.2.2.1.1
    have e1 : nI k + 1 = nI (k + 1) := nI_1 k
    have hk2 : k < S.2.length := by omega
    rw [f_X7_register_32, if_pos ib076, e0, if_neg (by rw [nle (by omega) (by omega)]; omega), lbl_m hok hm.2.2.2.1 hk2, Option.bind_some, rgF]
    by_cases a : (pg S.2 k).1 ≤ 3
    · rw [if_neg (fun q => ((b01z _).mp q) a)]
      have w : f_X7_writeLabel 4 (nI k) 0 M = some (wm M (lab S k 0)) := lab_m (f := 0) (by omega) hok hm.2.2.2.1 hk2 (by omega) (fun l hl => hm.2.2.2.2 k l hk2 hl)
      obtain ⟨M1, h1, h2, h3, h4⟩ := hold_m (lab_len hok hk2).1 (wm_WS (M := M) (L := lab S k 0))
      have hm1 : MW U M1 S := mw_fr (mw_wm hm) (fun a q1 q2 q3 => h3 a q1 q3) (fun j q1 q2 => h4 j q2)
      dsimp only
      rw [w, Option.bind_some, h1, Option.bind_some]
      obtain ⟨M2, g1, g2⟩ := ra_m (x := x) (K := f_X7_register_32 n) hok hk2 S.2.length 4096 0 0 M1 (by omega) (by omega) hm1 h2
      have g1' : f_X7_register_72 (f_X7_register_32 n) 4096 x (nI k) 0 0 M1 = _ := g1
      rw [g1']
      by_cases b : raF S k S.2.length 0 0 = x
      · rw [if_pos b, if_pos ⟨a, b⟩]
        exact ⟨M2, rfl, g2⟩
      · rw [if_neg b, if_neg (fun q => b q.2), f_X7_register_149, e1]
        exact ih n (k + 1) M2 (by omega) (by omega) g2
    · rw [if_pos ((b01z _).mpr a), if_neg (show ¬ ((pg S.2 k).1 ≤ 3 ∧ raF S k S.2.length 0 0 = x) from fun q => a q.1), f_X7_register_149, e1]
      exact ih n (k + 1) M (by omega) (by omega) hm
theorem s_register : S_register Inv := by
  intro a V U h
  obtain ⟨S, A, hSS⟩ := h.2.2.2.2.1
  obtain ⟨hok, hX, hC, hM, -⟩ := id hSS
  have h24 := hok.2.2.1
  have hM' : ShM (st U 0 0 0 4) S := by rw [st_id (by omega)]; exact hM
  unfold f_X6_register f_X7_register
  rw [none_x hX.1 (by omega), there_m hM'.1 (by omega), Option.bind_some, Option.bind_some]
  by_cases hn : S.2.length = 0
  · rw [if_neg (fun q => ((b01z _).mp q) hn), if_pos ((b01z _).mpr (by omega))]
    exact ⟨_, _, rfl, rfl, rfl, inv_t h⟩
  · rw [if_pos ((b01z _).mpr hn), if_neg (fun q => ((b01z _).mp q) (by omega))]
    by_cases h1 : 0 ≤ a
    · rw [if_pos h1, if_pos h1]
      dsimp only
      obtain ⟨V', x1, x2⟩ := rw_x (x := a) hok S.2.length 4096 0 V (by omega) (by omega) (xq_rf h hSS) (fun j hj => absurd hj (by omega))
      have x1' : f_X6_register_22 4096 a 0 V = _ := x1
      obtain ⟨M', y1, y2⟩ := rg_m (x := a) hok S.2.length 4096 0 _ (by omega) (by omega) (mw_mk hM)
      have y1' : f_X7_register_32 4096 a 0 (mk (st U 0 0 0) S.2 S.2.length) = _ := y1
      rw [x1', countAll_eq (by omega) hM' hok, Option.bind_some, y1']
      exact ⟨_, _, rfl, rfl, rfl, inv_xm h hSS x2 y2⟩
    · rw [if_neg h1, if_neg h1]
      exact ⟨_, _, rfl, rfl, rfl, inv_t h⟩
end
section
/-! What is found of a row; bears. -/
theorem inv_xv {V U V' U' : Mem} {S : Sh} {A : List Act} (h : Inv V U) (hSS : SS V U S A) (hx : XQ V V' S) (hm : QM U U') (h1 : U' 0 1 = U 0 1) (h18 : U' 0 18 = U 0 18) : Inv V' U' := inv_q h hSS hx.1 (by rw [hx.2.1]) (h.2.1.cg (by rw [hx.2.1]) (by rw [hx.2.1]) h1 h18) hx.2.2.2.1 hx.2.2.2.2 hm
theorem inv_xs {V U V' U' : Mem} {S : Sh} {A : List Act} {x : Int32} (h : Inv V U) (hSS : SS V U S A) (hx : XQ V V' S) (hm : QM U U') (h1 : U' 0 1 = x) (h18 : U' 0 18 = U 0 18) : Inv (st V' 0 12 x) U' := by
  refine inv_q h hSS ⟨fun a q => by rw [st_id (by omega)]; exact hx.1.1 a q, fun k hk => by rw [st_ne1 (by omega)]; exact hx.1.2 k hk⟩ (by rw [st_ne2 (by omega), hx.2.1]) ⟨by rw [st_same, h1], by rw [st_ne2 (by omega), hx.2.1, h18]; exact h.2.1.2⟩ (hx.2.2.2.1.cg hSS.1.2.2.1 (by rw [st_ne1 (by omega)]) (fun k _ => st_id (by omega))) (fun y hy => ?_) hm
  rw [st_ne1 (by omega)]
  exact hx.2.2.2.2 y hy
theorem row_both {V U M : Mem} {r n : Nat} {x : Int32} (h : RR V U) (hr : r < 8) (hn : n ≤ 40) (h1 : M 1 = U 1) (h2 : M 2 = U 2) :
    (∃ c : Int32, c ≠ 0 ∧ f_X2_findingAt (99 + 2 * r) x (nI n) V = some (c, V) ∧ f_X7_rowFound (nI r) x (nI n) M = some (-1000010 - c, st M 0 1 c) ∧ ¬ ((-1000010 : Int32) - c = 0)) ∨
    (∃ i, x = nI i ∧ i + n ≤ 40 ∧ (∀ j, j < n → V (99 + 2 * r + 1) (i + j) = U 3 (40 * r + i + j)) ∧ f_X2_findingAt (99 + 2 * r) x (nI n) V = some (0, V) ∧ f_X7_rowFound (nI r) x (nI n) M = some (0, st M 0 1 0)) := by
  have i8 : ib (nI r) 8 = true := ibt (by omega) (by omega)
  have cr : (nI r).toNatClampNeg = r := ncl (by omega)
  rw [findingAt_eq]
  unfold f_X7_rowFound f_X7_rowFound_35 f_X7_finding
  rw [if_pos i8, if_pos i8, cr, h1, h2]
  obtain ⟨g1, g2⟩ := h r hr
  rcases g2 with g2 | ⟨l, m, p1, p2, p3, p4, p5, p6⟩
  · refine Or.inl ⟨1, by decide, ?_, ?_, by decide⟩
    · rw [g1, if_pos g2]
    · rw [g2, if_neg (by decide)]
      rfl
  · have z1 : ¬ V (99 + 2 * r) 1 = -1 := by rw [g1, p3]; exact nm1 (by omega)
    rw [if_neg z1, p4, p3, if_pos (nI_pos' (by omega)), p5]
    by_cases c : 0 ≤ x ∧ 0 ≤ nI n ∧ x ≤ nI m - nI n
    · obtain ⟨i, k, rfl, e2, e3⟩ := (hold_iff (by omega)).mp c
      have e4 : k = n ∨ ¬ k < 2147483648 := by
        by_cases q : k < 2147483648
        · exact Or.inl ((neq q (by omega)).mp e2.symm)
        · exact Or.inr q
      have e5 : k = n := by omega
      refine Or.inr ⟨i, rfl, by omega, fun j hj => ?_, ?_, ?_⟩
      · rw [p6 (i + j) (by omega)]
        congr 1
        omega
      · rw [if_pos c]
      · rw [if_neg (nI_pos (by omega)), l64 (by omega) (by omega), nI_l (by omega), if_pos ((cmp_le (by omega) (by omega)).mpr (by omega))]
    · refine Or.inl ⟨2, by decide, ?_, ?_, by decide⟩
      · rw [if_neg c]
      · by_cases q : x < 0
        · rw [if_pos q]
          rfl
        · obtain ⟨i, i1, rfl⟩ := nI_of q
          have e6 : ¬ i + n ≤ m := fun e => c ((hold_iff (by omega)).mpr ⟨i, n, rfl, rfl, e⟩)
          rw [if_neg q, l64 (by omega) (by omega), nI_l (by omega), if_neg (fun e => e6 ((cmp_le (by omega) (by omega)).mp e))]
          rfl
def arF (g : Nat → Int32) (L : List Nat) : Nat → Nat → Bool
  | 0, _ => true
  | d + 1, j => if g j = nI (L.getD j 0) then arF g L d (j + 1) else false
theorem ar_loop {V : Mem} {r i n : Nat} {g : Nat → Int32} {L : List Nat} (hz : WL 94 V L) (hL : L.length ≤ 23) (hn : n = L.length) (hi : i + n ≤ 40) (hg : ∀ j, j < n → V (r + 1) (i + j) = g j) : ∀ (d m j : Nat), j + d = n → d < m → f_X4_areItems_13 94 m r (nI i) (nI n) (nI j) V = some (if arF g L d j = true then 1 else 0, V) := by
  intro d
  induction d with
  | zero =>
    intro m j hj hm
    obtain ⟨m, rfl⟩ : ∃ n', m = n' + 1 := ⟨m - 1, by omega⟩
    rw [f_X4_areItems_13, if_pos (by rw [nle (by omega) (by omega)]; omega)]
    rfl
  | succ d ih =>
    intro m j hj hm
    obtain ⟨m, rfl⟩ : ∃ n', m = n' + 1 := ⟨m - 1, by omega⟩
    have e1 : nI j + 1 = nI (j + 1) := nI_1 j
    rw [f_X4_areItems_13, if_neg (by rw [nle (by omega) (by omega)]; omega), nad, if_pos (ibt (by omega) (by omega)), if_pos (ibt (by omega) (by omega)), ncl (by omega), ncl (by omega), hg j (by omega), hz.2 j (by omega), e1, arF]
    by_cases c : g j = nI (L.getD j 0)
    · rw [if_pos c, if_pos c, ih m (j + 1) (by omega) (by omega)]
    · rw [if_neg c, if_neg c]
      rfl
def brF (S : Sh) (g : Nat → Int32) (n : Nat) : Nat → Nat → Int32
  | 0, _ => -1000000
  | d + 1, k => if (lab S k 0).length = n ∧ arF g (lab S k 0) n 0 = true then nI k else brF S g n d (k + 1)
theorem bears_x {V0 : Mem} {S : Sh} {r i n : Nat} {g : Nat → Int32} (hok : okS S) (hr : 99 ≤ r ∧ r < 114) (hi : i + n ≤ 40) (hg : ∀ j, j < n → V0 (r + 1) (i + j) = g j) : ∀ (d m k : Nat) (V : Mem), k + d = S.2.length → d < m → XQ V0 V S → ∃ V', f_X6_bears_65 m (nI i) (nI n) r (nI k) V = some (brF S g n d k, st V' 0 12 0) ∧ XQ V0 V' S := by
  have h24 := hok.2.2.1
  intro d
  induction d with
  | zero =>
    intro m k V hk hm hx
    obtain ⟨m, rfl⟩ : ∃ n', m = n' + 1 := ⟨m - 1, by omega⟩
    rw [f_X6_bears_65, hx.2.2.1.1, if_pos (by rw [nle (by omega) (by omega)]; omega)]
    exact ⟨V, rfl, hx⟩
  | succ d ih =>
    intro m k V hk hm hx
    obtain ⟨m, rfl⟩ : ∃ n', m = n' + 1 := ⟨m - 1, by omega⟩
    have e1 : nI k + 1 = nI (k + 1) := nI_1 k
    have hk2 : k < S.2.length := by omega
    obtain ⟨F, f1, f2, f3, f4⟩ := lab_x (z := 4) (r := 94) (f := 0) (Or.inl rfl) (by omega) hok hx.2.2.1 hx.2.2.2.1 hk2 (by omega)
    have f1' : f_X3_writeLabel 4 (nI k) 0 94 V = some F := f1
    have hxF := xq_lab hx (Or.inl rfl) f2 f3
    have hlen := (lab_len hok hk2 (f := 0)).1
    have hgF : ∀ j, j < n → F (r + 1) (i + j) = g j := fun j hj => by rw [hxF.1.1 (r + 1) (by omega)]; exact hg j hj
    rw [f_X6_bears_65, hx.2.2.1.1, if_neg (by rw [nle (by omega) (by omega)]; omega), f1', Option.bind_some, f_X4_areItems, f4.1, brF]
    by_cases c : (lab S k 0).length = n
    · have ha : f_X4_areItems_13 94 4096 r (nI i) (nI n) 0 F = _ := ar_loop (g := g) f4 hlen c.symm hi hgF n 4096 0 (by omega) (by omega)
      rw [if_pos (by rw [c]), ha, Option.bind_some]
      by_cases b : arF g (lab S k 0) n 0 = true
      · rw [if_neg (fun q => ((b01z _).mp q) b), if_pos (show _ ∧ _ from ⟨c, b⟩)]
        exact ⟨F, rfl, hxF⟩
      · rw [if_pos ((b01z _).mpr b), if_neg (show ¬ ((lab S k 0).length = n ∧ arF g (lab S k 0) n 0 = true) from fun q => b q.2), e1]
        exact ih m (k + 1) F (by omega) (by omega) hxF
    · rw [if_neg (fun q => c ((neq (by omega) (by omega)).mp q).symm), Option.bind_some, if_pos rfl, if_neg (fun q => c q.1), e1]
      exact ih m (k + 1) F (by omega) (by omega) hxF
theorem br_loop {M : Mem} {r i n k : Nat} {g : Nat → Int32} {L : List Nat} {K : Int32 → Int32 → Int32 → Int32 → Mem → Option (Int32 × Mem)} (hr : r < 8) (hz : WS M L) (hn : n = L.length) (hi : i + n ≤ 40) (hg : ∀ j, j < n → M 3 (40 * r + i + j) = g j) : ∀ (d m j : Nat), j + d = n → d < m → f_X7_bears_105 K m (nI r) (nI i) (nI n) (nI k) 1 (nI j) M = if arF g L d j = true then some (nI k, M) else K (nI r) (nI i) (nI n) (nI k + 1) M := by
  intro d
  induction d with
  | zero =>
    intro m j hj hm
    obtain ⟨m, rfl⟩ : ∃ n', m = n' + 1 := ⟨m - 1, by omega⟩
    rw [f_X7_bears_105, if_pos (by rw [nle (by omega) (by omega)]; omega)]
    rfl
  | succ d ih =>
    intro m j hj hm
    obtain ⟨m, rfl⟩ : ∃ n', m = n' + 1 := ⟨m - 1, by omega⟩
    have e1 : nI j + 1 = nI (j + 1) := nI_1 j
    have e2 : (40 : Int32) * nI r + nI i + nI j = nI (40 * r + i + j) := by rw [li, pk_mul, nad, nad]
    rw [f_X7_bears_105, if_neg (by rw [nle (by omega) (by omega)]; omega), if_neg (by decide), if_pos (ibt (by omega) (by omega)), e2, if_pos (ibt (by omega) (by omega)), ncl (by omega), ncl (by omega), hg j (by omega), hz.2 j (by omega), f_X7_bears_145, f_X7_bears_145, e1, arF]
    by_cases c : g j = nI (L.getD j 0)
    · rw [if_pos c.symm, if_pos c, ih m (j + 1) (by omega) (by omega)]
    · rw [if_neg (fun q => c q.symm), if_neg c, if_neg (by decide)]
      obtain ⟨m, rfl⟩ : ∃ n', m = n' + 1 := ⟨m - 1, by omega⟩
      rw [f_X7_bears_105, f_X7_bears_153]
      by_cases c2 : nI n ≤ nI (j + 1)
      · rw [if_pos c2, if_pos rfl]
      · rw [if_neg c2, if_pos rfl, if_pos rfl]
theorem bears_m {U : Mem} {S : Sh} {r i n : Nat} {g : Nat → Int32} (hok : okS S) (hr : r < 8) (hi : i + n ≤ 40) (h1 : 1 ≤ n) (hg : ∀ j, j < n → U 3 (40 * r + i + j) = g j) : ∀ (d m k : Nat) (M : Mem), k + d = S.2.length → d < m → MW U M S → ∃ M', f_X7_bears_65 m (nI r) (nI i) (nI n) (nI k) M = some (brF S g n d k, M') ∧ MW U M' S := by
  have h24 := hok.2.2.1
  intro d
  induction d with
  | zero =>
    intro m k M hk hm hx
    obtain ⟨m, rfl⟩ : ∃ n', m = n' + 1 := ⟨m - 1, by omega⟩
    have e0 : M 4 ((0 : Int32)).toNatClampNeg = nI S.2.length := hx.2.2.2.1.1
    rw [f_X7_bears_65, if_pos ib076, e0, if_pos (by rw [nle (by omega) (by omega)]; omega)]
    exact ⟨M, rfl, hx⟩
  | succ d ih =>
    intro m k M hk hm hx
    obtain ⟨m, rfl⟩ : ∃ n', m = n' + 1 := ⟨m - 1, by omega⟩
    have e0 : M 4 ((0 : Int32)).toNatClampNeg = nI S.2.length := hx.2.2.2.1.1
    have e1 : nI k + 1 = nI (k + 1) := nI_1 k
    have hk2 : k < S.2.length := by omega
    have w : f_X7_writeLabel 4 (nI k) 0 M = some (wm M (lab S k 0)) := lab_m (f := 0) (by omega) hok hx.2.2.2.1 hk2 (by omega) (fun l hl => hx.2.2.2.2 k l hk2 hl)
    have hx' := mw_wm (L := lab S k 0) hx
    have hlen := (lab_len hok hk2 (f := 0)).1
    have hgM : ∀ j, j < n → wm M (lab S k 0) 3 (40 * r + i + j) = g j := fun j hj => by rw [hx'.1.1 3 (by omega) (by omega) (by omega) (by omega)]; exact hg j hj
    rw [f_X7_bears_65, if_pos ib076, e0, if_neg (by rw [nle (by omega) (by omega)]; omega), w, Option.bind_some, wm_23, f_X7_bears_100, f_X7_bears_100, brF]
    by_cases c : (lab S k 0).length = n
    · have ha : f_X7_bears_105 (f_X7_bears_65 m) 4096 (nI r) (nI i) (nI n) (nI k) 1 0 (wm M (lab S k 0)) = _ := br_loop (g := g) (K := f_X7_bears_65 m) hr wm_WS c.symm hi hgM n 4096 0 (by omega) (by omega)
      rw [if_pos (by rw [c]), ha]
      by_cases b : arF g (lab S k 0) n 0 = true
      · rw [if_pos b, if_pos (show _ ∧ _ from ⟨c, b⟩)]
        exact ⟨_, rfl, hx'⟩
      · rw [if_neg b, if_neg (fun q => b q.2), e1]
        exact ih m (k + 1) _ (by omega) (by omega) hx'
    · have ha : ∀ n', f_X7_bears_105 (f_X7_bears_65 m) (n' + 1) (nI r) (nI i) (nI n) (nI k) 0 0 (wm M (lab S k 0)) = f_X7_bears_65 m (nI r) (nI i) (nI n) (nI k + 1) (wm M (lab S k 0)) := by
        intro n'
        rw [f_X7_bears_105, f_X7_bears_153]
        by_cases c2 : nI n ≤ 0
        · rw [if_pos c2, if_pos rfl]
        · rw [if_neg c2, if_pos rfl, if_pos rfl]
      rw [if_neg (fun q => c ((neq (by omega) (by omega)).mp q)), ha 4095, if_neg (fun q => c q.1), e1]
      exact ih m (k + 1) _ (by omega) (by omega) hx'
theorem mw_1 {U : Mem} {S : Sh} (hS : ShM (U 4) S) : MW (st U 0 1 0) (mk (st U 0 1 0) S.2 S.2.length) S := by
  have hS' : ShM (st U 0 1 0 4) S := by rw [st_id (by omega)]; exact hS
  exact ⟨qm_mk, by rw [mk_id (by omega)], by rw [mk_id (by omega)], by rw [mk_id (by omega)]; exact hS', fun k l hk hl => mk_11 hk hl⟩
theorem qm_1 {U : Mem} {x : Int32} : QM U (st U 0 1 x) := ⟨fun a q1 _ _ _ => st_id q1, st_ne2 (by omega), st_ne2 (by omega), st_ne2 (by omega)⟩
theorem s_bears : S_bears Inv := by
  intro a b c V U h
  obtain ⟨S, A, hSS⟩ := h.2.2.2.2.1
  obtain ⟨hok, hX, hC, hM, -⟩ := id hSS
  have h24 := hok.2.2.1
  have hM' : ShM (st U 0 0 0 4) S := by rw [st_id (by omega)]; exact hM
  unfold f_X6_bears f_X7_bears
  rw [none_x hX.1 (by omega), there_m hM'.1 (by omega), Option.bind_some, Option.bind_some]
  by_cases hn : S.2.length = 0
  · rw [if_neg (fun q => ((b01z _).mp q) hn), if_pos ((b01z _).mpr (by omega))]
    exact ⟨_, _, rfl, rfl, rfl, inv_t h⟩
  · rw [if_pos ((b01z _).mpr hn), if_neg (fun q => ((b01z _).mp q) (by omega))]
    dsimp only
    rw [isRow_eq, mRow_eq, Option.bind_some, Option.bind_some]
    by_cases h1 : 0 ≤ a ∧ a ≤ 7
    · rw [if_neg (fun q => ((b01z _).mp q) h1), if_neg (fun q => ((b01z _).mp q) h1)]
      dsimp only
      rw [isBetween_eq, show (1 : Int64) = (1 : Int32).toInt64 from rfl, show (40 : Int64) = (40 : Int32).toInt64 from rfl, inw, Option.bind_some, Option.bind_some]
      by_cases h2 : 1 ≤ c ∧ c ≤ 40
      · rw [if_neg (fun q => ((b01z _).mp q) h2), if_neg (fun q => ((b01z _).mp q) h2)]
        obtain ⟨r, r1, rfl⟩ := btw (n := 7) (by omega) h1
        obtain ⟨n, n1, rfl⟩ := btw (n := 40) (by omega) ⟨Int32.le_trans (by decide) h2.1, h2.2⟩
        have n0 : 1 ≤ n := by
          have := h2.1
          rw [show (1 : Int32) = nI 1 from rfl, nle (by omega) (by omega)] at this
          exact this
        dsimp only
        rw [if_pos (ibt (show r < 8 by omega) (by omega)), ncl (show r < 2147483648 by omega)]
        rcases row_both (M := st U 0 0 0) (x := b) (n := n) h.1 (show r < 8 by omega) n1 (st_id (by omega)) (st_id (by omega)) with ⟨e, e0, e1, e2, e3⟩ | ⟨i, rfl, i1, i2, e1, e2⟩
        · rw [e1, e2, Option.bind_some, Option.bind_some, if_neg e0, if_neg e3, f_X6_found, Option.bind_some]
          refine ⟨_, _, rfl, rfl, rfl, ?_⟩
          dsimp only
          exact inv_f h (fun a q => by rw [st_id q, st_id q]) (fun k q1 q2 => by rw [st_ne2 q2, st_ne2 q1]) st_same
        · rw [e1, e2, Option.bind_some, Option.bind_some, if_pos rfl, if_pos rfl]
          dsimp only
          have hM2 : ShM (st (st U 0 0 0) 0 1 0 4) S := by rw [st_id (by omega)]; exact hM'
          obtain ⟨V', x1, x2⟩ := bears_x (r := 99 + 2 * r) hok (by omega) i1 i2 S.2.length 4096 0 V (by omega) (by omega) (xq_rf h hSS)
          have x1' : f_X6_bears_65 4096 (nI i) (nI n) (99 + 2 * r) 0 V = _ := x1
          obtain ⟨M', y1, y2⟩ := bears_m (U := st (st U 0 0 0) 0 1 0) (r := r) (g := fun j => U 3 (40 * r + i + j)) hok (by omega) i1 n0 (fun j hj => by rw [st_ne1 (by omega), st_ne1 (by omega)]) S.2.length 4096 0 _ (by omega) (by omega) (mw_1 hM')
          have y1' : f_X7_bears_65 4096 (nI r) (nI i) (nI n) 0 (mk (st (st U 0 0 0) 0 1 0) S.2 S.2.length) = _ := y1
          rw [x1', countAll_eq (by omega) hM2 hok, Option.bind_some, y1']
          refine ⟨_, _, rfl, rfl, rfl, ?_⟩
          dsimp only
          exact inv_xs h hSS x2 (qm_t.tr (qm_1.tr y2.1)) (by rw [y2.2.1, st_same]) (by rw [y2.2.2.1, st_ne2 (by omega), st_ne2 (by omega)])
      · rw [if_pos ((b01z _).mpr h2), if_pos ((b01z _).mpr h2)]
        exact ⟨_, _, rfl, rfl, rfl, inv_t h⟩
    · rw [if_pos ((b01z _).mpr h1), if_pos ((b01z _).mpr h1)]
      exact ⟨_, _, rfl, rfl, rfl, inv_t h⟩
end
section
/-! What is foretold: the class's trial, the reference's 'then'; changed. -/
def XT (V0 V : Mem) (S T : Sh) : Prop := XQ V0 V S ∧ ShX V 35 T ∧ CI V 35 T.2
def MV (U M : Mem) (S : Sh) : Prop := QM U M ∧ M 0 1 = U 0 1 ∧ M 0 18 = U 0 18 ∧ ShM (M 4) S
def MT (U M : Mem) (S T : Sh) : Prop := MV U M S ∧ ShM (M 6) T
theorem z0_ci {V : Mem} {P : List Pg} (h : CI V 35 P) : Z0 V := by
  obtain ⟨m, h1, h2, h3⟩ := h
  intro x hx
  exact h3 0 (by omega) x hx
theorem xt_fx {V0 V V' : Mem} {S T T' : Sh} (hok : okS S) (h : XT V0 V S T) (hf : FX 35 V V') (hS : ShX V' 35 T') (hC : CI V' 35 T'.2) : XT V0 V' S T' := by
  obtain ⟨⟨⟨a1, a2⟩, a3, a4, a5, a6⟩, b1, b2⟩ := h
  have fr : ∀ a, a < 35 ∨ 39 < a → V' a = V a := fun a q => hf.1 a (by omega) (by omega) (by omega) (by omega)
  refine ⟨⟨⟨fun a q => by rw [fr a (by omega)]; exact a1 a q, fun k q => by rw [fr 4 (by omega)]; exact a2 k q⟩, by rw [fr 0 (by omega)]; exact a3, a4.cg (by rw [fr 4 (by omega)]) (fun k q1 q2 => fr _ (by omega)), a5.cg hok.2.2.1 (by rw [fr 4 (by omega)]) (fun k q => fr _ (by omega)), z0_ci hC⟩, hS, hC⟩
theorem xt_fs {V0 V V' : Mem} {S T : Sh} (hok : okS S) (h : XT V0 V S T) (hf : FS 35 V V') (hC : CI V' 35 T.2) : XT V0 V' S T := by
  obtain ⟨⟨⟨a1, a2⟩, a3, a4, a5, a6⟩, b1, b2⟩ := h
  have fr : ∀ a, a < 35 ∨ 65 < a → V' a = V a := fun a q => hf.1 a (by omega) (by omega)
  refine ⟨⟨⟨fun a q => by rw [fr a (by omega)]; exact a1 a q, fun k q => by rw [fr 4 (by omega)]; exact a2 k q⟩, by rw [fr 0 (by omega)]; exact a3, a4.cg (by rw [fr 4 (by omega)]) (fun k q1 q2 => fr _ (by omega)), a5.cg hok.2.2.1 (by rw [fr 4 (by omega)]) (fun k q => fr _ (by omega)), z0_ci hC⟩, b1.fs hf, hC⟩
theorem xt_fl {V0 V F : Mem} {S T : Sh} (hok : okS S) (h : XT V0 V S T) (hf : FL 35 94 V F) (hC : CI F 35 T.2) : XT V0 F S T := by
  obtain ⟨⟨⟨a1, a2⟩, a3, a4, a5, a6⟩, b1, b2⟩ := h
  have fr : ∀ a, a < 35 ∨ 65 < a → a ≠ 94 → a ≠ 95 → F a = V a := fun a q q1 q2 => hf.1 a (by omega) (by omega) (by omega) (by omega)
  refine ⟨⟨⟨fun a q => by rw [fr a (by omega) (by omega) (by omega)]; exact a1 a q, fun k q => by rw [fr 4 (by omega) (by omega) (by omega)]; exact a2 k q⟩, by rw [fr 0 (by omega) (by omega) (by omega)]; exact a3, a4.cg (by rw [fr 4 (by omega) (by omega) (by omega)]) (fun k q1 q2 => fr _ (by omega) (by omega) (by omega)), a5.cg hok.2.2.1 (by rw [fr 4 (by omega) (by omega) (by omega)]) (fun k q => fr _ (by omega) (by omega) (by omega)), z0_ci hC⟩, b1.cg (hf.2 4 (by omega)) (fun k q1 q2 => hf.1 _ (by omega) (by omega) (by omega) (by omega)), hC⟩
theorem xt_fl4 {V0 V F : Mem} {S T : Sh} {r : Nat} (hokT : okS T) (h : XT V0 V S T) (hr : r = 94 ∨ 177 ≤ r) (hf : FL 4 r V F) (hC : CI F 4 S.2) : XT V0 F S T := by
  refine ⟨xq_lab h.1 hr hf hC, h.2.1.cg (by rw [hf.1 35 (by omega) (by omega) (by omega) (by omega)]) (fun k q1 q2 => hf.1 _ (by omega) (by omega) (by omega) (by omega)), h.2.2.cg hokT.2.2.1 (by rw [hf.1 35 (by omega) (by omega) (by omega) (by omega)]) (fun k q => hf.1 _ (by omega) (by omega) (by omega) (by omega))⟩
theorem xt_new {V0 V : Mem} {S : Sh} (hok : okS S) (h : XQ V0 V S) : ∃ V', f_X3_become 35 4 V = some V' ∧ XT V0 V' S S := by
  obtain ⟨V', x1, x2, x3, x4, x5⟩ := sbecome_x (V := V) (z := 35) (r := 4) (by omega) hok.2.2.1 h.2.2.1
  refine ⟨V', x1, ?_, x2, ?_⟩
  · obtain ⟨⟨a1, a2⟩, a3, a4, a5, a6⟩ := h
    refine ⟨⟨fun a q => by rw [x4 a (by omega)]; exact a1 a q, fun k q => by rw [x4 4 (by omega)]; exact a2 k q⟩, by rw [x4 0 (by omega)]; exact a3, a4.cg (by rw [x4 4 (by omega)]) (fun k q1 q2 => x4 _ (by omega)), a5.cg hok.2.2.1 (by rw [x4 4 (by omega)]) (fun k q => x4 _ (by omega)), fun x hx => ?_⟩
    rw [x4 41 (by omega)]
    exact a6 x hx
  · refine ⟨0, by omega, x3, fun p hp x hx => ?_⟩
    have e : p = 0 := by omega
    subst e
    show V' 41 x = _
    rw [x4 41 (by omega)]
    exact h.2.2.2.2 x hx
theorem mv_fr {U M M' : Mem} {S : Sh} (h : MV U M S) (h1 : ∀ a, a ≠ 0 → a ≠ 5 → a ≠ 6 → a < 9 ∨ 13 < a → M' a = M a) (h2 : ∀ k, k ≠ 23 → k ≠ 25 → M' 0 k = M 0 k) : MV U M' S := by
  obtain ⟨⟨g1, g2, g3, g4⟩, g5, g6, g7⟩ := h
  exact ⟨⟨fun a q1 q2 q3 q4 => by rw [h1 a q1 q2 q3 q4]; exact g1 a q1 q2 q3 q4, by rw [h2 9 (by omega) (by omega)]; exact g2, by rw [h2 11 (by omega) (by omega)]; exact g3, by rw [h2 29 (by omega) (by omega)]; exact g4⟩, by rw [h2 1 (by omega) (by omega)]; exact g5, by rw [h2 18 (by omega) (by omega)]; exact g6, by rw [h1 4 (by omega) (by omega) (by omega) (by omega)]; exact g7⟩
theorem mt_fr {U M M' : Mem} {S T : Sh} (h : MT U M S T) (h1 : ∀ a, a ≠ 0 → a < 9 ∨ 13 < a → M' a = M a) (h2 : ∀ k, k ≠ 23 → k ≠ 25 → M' 0 k = M 0 k) : MT U M' S T := ⟨mv_fr h.1 (fun a q1 _ _ q4 => h1 a q1 q4) h2, by rw [h1 6 (by omega) (by omega)]; exact h.2⟩
theorem mt_mk {U M : Mem} {S T : Sh} {P : List Pg} {n : Nat} (h : MT U M S T) : MT U (mk M P n) S T := mt_fr h (fun a q1 q2 => mk_id (by omega)) (fun k _ _ => by rw [mk_id (by omega)])
theorem mt_wm {U M : Mem} {S T : Sh} {L : List Nat} (h : MT U M S T) : MT U (wm M L) S T := mt_fr h (fun a q1 q2 => wm_id q1 (by omega)) (fun k q1 _ => wm_0 q1)
theorem mt_ms {U M : Mem} {S T T' : Sh} {g : Nat → Int32} (h : MT U M S T) (hg : ShM g T') : MT U (ms M 6 g) S T' := ⟨mv_fr h.1 (fun a q1 q2 q3 q4 => ms_id q3) (fun k _ _ => ms_ne (by omega)), by rw [ms_eq]; exact hg⟩
theorem mt_lay {U M : Mem} {S : Sh} (h24 : S.2.length ≤ 24) (h : MV U M S) : MT U (cp M 4 6 0 0 76) S S := by
  refine ⟨mv_fr h (fun a q1 q2 q3 q4 => cp_id q3) (fun k _ _ => cp_ne (by omega)), ShM_cg h24 (fun j hj => ?_) h.2.2.2⟩
  rw [cp_in (by omega)]
  exact congrArg (M 4) (by omega)
theorem mv_t {U : Mem} {S : Sh} (h : ShM (U 4) S) : MV U (st U 0 0 0) S := ⟨qm_t, st_ne2 (by omega), st_ne2 (by omega), by rw [st_id (by omega)]; exact h⟩
theorem inv_xt {V U V' U' : Mem} {S T T' : Sh} {A : List Act} (h : Inv V U) (hSS : SS V U S A) (hx : XT V V' S T) (hm : MT U U' S T') : Inv V' U' := inv_xv h hSS hx.1 hm.1.1 hm.1.2.1 hm.1.2.2.1
theorem sub0 {x y : Int32} : x - y = 0 ↔ x = y := by
  constructor
  · intro h
    have e : x - y + y = 0 + y := by rw [h]
    rw [Int32.sub_add_cancel, Int32.zero_add] at e
    exact e
  · intro h
    rw [h]
    exact Int32.sub_self y
theorem cmpA_z {L M : List Nat} : ∀ (d j : Nat), (cmpA L M d j = 0) ↔ (cmpA M L d j = 0) := by
  intro d
  induction d with
  | zero =>
    intro j
    unfold cmpA
    rw [sub0, sub0]
    exact eq_comm
  | succ d ih =>
    intro j
    unfold cmpA
    by_cases c : nI (L.getD j 0) = nI (M.getD j 0)
    · rw [if_pos c, if_pos c.symm]
      exact ih (j + 1)
    · rw [if_neg c, if_neg (fun q => c q.symm), sub0, sub0]
      exact eq_comm
theorem cmpL_z {L M : List Nat} : (cmpL L M = 0) ↔ (cmpL M L = 0) := by
  have e : mn L.length M.length = mn M.length L.length := by
    unfold mn
    by_cases c : M.length < L.length
    · rw [if_pos c, if_neg (by omega)]
    · rw [if_neg c]
      by_cases c2 : L.length < M.length
      · rw [if_pos c2]
      · rw [if_neg c2]; omega
  unfold cmpL
  rw [e]
  exact cmpA_z _ _
def qn (p q : Nat) : Nat := if q < p then q else q + 1
def chF (S T : Sh) (p : Nat) : Nat → Nat → Int32 → Int32
  | 0, _, acc => acc
  | d + 1, q, acc => chF S T p d (q + 1) (if cmpL (lab S (qn p q) 0) (lab T q 0) = 0 then acc else acc + 1)
theorem ch_x {V0 : Mem} {S T : Sh} {p : Nat} (hok : okS S) (hokT : okS T) (hT : T.2.length + 1 = S.2.length) (hp : p < S.2.length) : ∀ (d n q : Nat) (acc : Int32) (V : Mem), q + d = T.2.length → d < n → XT V0 V S T → ∃ V', f_X6_changed_51 n (nI p) acc (nI q) V = some (chF S T p d q acc, V') ∧ XT V0 V' S T := by
  have h24 := hok.2.2.1
  intro d
  induction d with
  | zero =>
    intro n q acc V hq hn hx
    obtain ⟨n, rfl⟩ : ∃ n', n = n' + 1 := ⟨n - 1, by omega⟩
    rw [f_X6_changed_51, hx.2.1.1, if_pos (by rw [nle (by omega) (by omega)]; omega)]
    exact ⟨V, rfl, hx⟩
  | succ d ih =>
    intro n q acc V hq hn hx
    obtain ⟨n, rfl⟩ : ∃ n', n = n' + 1 := ⟨n - 1, by omega⟩
    have e1 : nI q + 1 = nI (q + 1) := nI_1 q
    have hq2 : q < T.2.length := by omega
    have hqn : qn p q < S.2.length := by unfold qn; split <;> omega
    have es : (if nI p ≤ nI q then f_X6_changed_78_c4 (f_X6_changed_51 n) (nI p) acc (nI q) (nI q + 1) V else f_X6_changed_78_c4 (f_X6_changed_51 n) (nI p) acc (nI q) (nI q) V) = f_X6_changed_78_c4 (f_X6_changed_51 n) (nI p) acc (nI q) (nI (qn p q)) V := by
      unfold qn
      by_cases c : q < p
      · rw [if_neg (by rw [nle (by omega) (by omega)]; omega), if_pos c]
      · rw [if_pos (by rw [nle (by omega) (by omega)]; omega), if_neg c, e1]
    obtain ⟨F, f1, f2, f3, f4⟩ := lab_x (z := 4) (r := 177 + 2 * q) (f := 0) (Or.inl rfl) (by omega) hok hx.1.2.2.1 hx.1.2.2.2.1 hqn (by omega)
    have f1' : f_X3_writeLabel 4 (nI (qn p q)) 0 (177 + 2 * q) V = some F := f1
    have hxF := xt_fl4 hokT hx (Or.inr (by omega)) f2 f3
    obtain ⟨G, g1, g2, g3, g4⟩ := lab_x (z := 35) (r := 94) (f := 0) (Or.inr rfl) (by omega) hokT hxF.2.1 hxF.2.2 hq2 (by omega)
    have g1' : f_X3_writeLabel 35 (nI q) 0 94 F = some G := g1
    have hxG := xt_fl hok hxF g2 g3
    have f4' : WL (177 + 2 * q) G (lab S (qn p q) 0) := f4.cg (g2.1 _ (by omega) (by omega) (by omega) (by omega)) (g2.1 _ (by omega) (by omega) (by omega) (by omega))
    have i24 : ib (nI q) 24 = true := ibt (by omega) (by omega)
    have cq : (nI q).toNatClampNeg = q := ncl (by omega)
    rw [f_X6_changed_51, hx.2.1.1, if_neg (by rw [nle (by omega) (by omega)]; omega), es, f_X6_changed_78_c4, if_pos i24, cq, f1', Option.bind_some, g1', Option.bind_some, if_pos i24, order_x f4' g4 (lab_len hok hqn).1 (lab_len hokT hq2).1, Option.bind_some, f_X6_changed_120, f_X6_changed_120, e1, chF]
    by_cases c : cmpL (lab S (qn p q) 0) (lab T q 0) = 0
    · rw [if_pos c, if_pos c]
      exact ih n (q + 1) acc G (by omega) (by omega) hxG
    · rw [if_neg c, if_neg c]
      exact ih n (q + 1) (acc + 1) G (by omega) (by omega) hxG
theorem other_m {U M : Mem} {S T : Sh} {p q : Nat} (hok : okS S) (hokT : okS T) (hT : T.2.length + 1 = S.2.length) (hp : p < S.2.length) (hq : q < T.2.length) (hm : MT U M S T) : ∃ M', f_X7_isOther (nI (qn p q)) (nI p) M = some (if cmpL (lab S (qn p q) 0) (lab T q 0) = 0 then 0 else 1, M') ∧ MT U M' S T := by
  have h24 := hok.2.2.1
  have hqn : qn p q < S.2.length := by unfold qn; split <;> omega
  have h4 : ShM (M 4) S := hm.1.2.2.2
  have hA : MT U (mk M S.2 S.2.length) S T := mt_mk hm
  have w1 : f_X7_writeLabel 4 (nI (qn p q)) 0 (mk M S.2 S.2.length) = some (wm (mk M S.2 S.2.length) (lab S (qn p q) 0)) := lab_m (f := 0) (by omega) hok hA.1.2.2.2 hqn (by omega) (fun l hl => mk_11 hqn hl)
  have hB : MT U (wm (mk M S.2 S.2.length) (lab S (qn p q) 0)) S T := mt_wm hA
  obtain ⟨M1, h1, h2, h3, h5⟩ := hold_m (lab_len hok hqn).1 (wm_WS (M := mk M S.2 S.2.length) (L := lab S (qn p q) 0))
  have hC : MT U M1 S T := mt_fr hB (fun a q1 q2 => h3 a q1 (by omega)) (fun k q1 q2 => h5 k q2)
  have hD : MT U (mk M1 T.2 T.2.length) S T := mt_mk hC
  have w2 : f_X7_writeLabel 6 (nI q) 0 (mk M1 T.2 T.2.length) = some (wm (mk M1 T.2 T.2.length) (lab T q 0)) := lab_m (f := 0) (by omega) hokT hD.2 hq (by omega) (fun l hl => mk_11 hq hl)
  have hE : MT U (wm (mk M1 T.2 T.2.length) (lab T q 0)) S T := mt_wm hD
  have hW : WH (wm (mk M1 T.2 T.2.length) (lab T q 0)) (lab S (qn p q) 0) := by
    unfold WH
    rw [wm_0 (by omega), wm_id (by omega) (by omega), mk_id (by omega), mk_id (by omega)]
    exact h2
  have es : (if nI p ≤ nI (qn p q) then f_X7_isOther_47_c0_c6 (nI (qn p q) - 1) (mk M1 T.2 T.2.length) else f_X7_isOther_47_c0_c6 (nI (qn p q)) (mk M1 T.2 T.2.length)) = f_X7_isOther_47_c0_c6 (nI q) (mk M1 T.2 T.2.length) := by
    unfold qn
    by_cases c : q < p
    · rw [if_pos c, if_neg (by rw [nle (by omega) (by omega)]; omega)]
    · rw [if_neg c, if_pos (by rw [nle (by omega) (by omega)]; omega), show nI (q + 1) - 1 = nI q from nsb (a := q + 1) (b := 1) (by omega)]
  unfold f_X7_isOther
  rw [countAll_eq (by omega) h4 hok, Option.bind_some, w1, Option.bind_some, h1, Option.bind_some, countAll_eq (by omega) hC.2 hokT, Option.bind_some, es, f_X7_isOther_47_c0_c6, w2, Option.bind_some, comp_m wm_WS hW (lab_len hokT hq).1 (lab_len hok hqn).1, Option.bind_some]
  refine ⟨_, ?_, hE⟩
  dsimp only
  by_cases c : cmpL (lab S (qn p q) 0) (lab T q 0) = 0
  · rw [if_pos (cmpL_z.mp c), if_pos c]
  · rw [if_neg (fun e => c (cmpL_z.mp e)), if_neg c]
def qq (p k : Nat) : Nat := if k ≤ p then k else k - 1
theorem ch_m {U : Mem} {S T : Sh} {p : Nat} (hok : okS S) (hokT : okS T) (hT : T.2.length + 1 = S.2.length) (hp : p < S.2.length) : ∀ (d n k : Nat) (acc : Int32) (M : Mem), k + d = S.2.length → d < n → MT U M S T → ∃ M', f_X7_changed_45 n (nI p) acc (nI k) M = some (chF S T p (T.2.length - qq p k) (qq p k) acc, M') ∧ MT U M' S T := by
  have h24 := hok.2.2.1
  intro d
  induction d with
  | zero =>
    intro n k acc M hk hn hm
    obtain ⟨n, rfl⟩ : ∃ n', n = n' + 1 := ⟨n - 1, by omega⟩
    have e0 : M 4 ((0 : Int32)).toNatClampNeg = nI S.2.length := hm.1.2.2.2.1
    have e2 : T.2.length - qq p k = 0 := by unfold qq; rw [if_neg (by omega)]; omega
    rw [f_X7_changed_45, if_pos ib076, e0, if_pos (by rw [nle (by omega) (by omega)]; omega), e2]
    exact ⟨M, rfl, hm⟩
  | succ d ih =>
    intro n k acc M hk hn hm
    obtain ⟨n, rfl⟩ : ∃ n', n = n' + 1 := ⟨n - 1, by omega⟩
    have e0 : M 4 ((0 : Int32)).toNatClampNeg = nI S.2.length := hm.1.2.2.2.1
    have e1 : nI k + 1 = nI (k + 1) := nI_1 k
    rw [f_X7_changed_45, if_pos ib076, e0, if_neg (by rw [nle (by omega) (by omega)]; omega)]
    unfold f_X7_changed_75
    rw [e1, add0]
    by_cases c : k = p
    · subst c
      have e3 : qq k (k + 1) = qq k k := by unfold qq; rw [if_neg (by omega), if_pos (by omega)]; omega
      rw [if_pos rfl, ← e3]
      exact ih n (k + 1) acc M (by omega) (by omega) hm
    · rw [if_neg (by rw [neq (by omega) (by omega)]; exact c)]
      have e3 : qn p (qq p k) = k := by
        unfold qn qq
        by_cases c2 : k ≤ p
        · rw [if_pos c2, if_pos (by omega)]
        · rw [if_neg c2, if_neg (by omega)]; omega
      have e4 : qq p (k + 1) = qq p k + 1 := by
        unfold qq
        by_cases c2 : k ≤ p
        · rw [if_pos c2, if_pos (by omega)]
        · rw [if_neg c2, if_neg (by omega)]; omega
      have e5 : qq p k < T.2.length := by unfold qq; split <;> omega
      obtain ⟨M1, o1, o2⟩ := other_m hok hokT hT hp e5 hm
      rw [e3] at o1
      by_cases c3 : cmpL (lab S k 0) (lab T (qq p k) 0) = 0
      · rw [if_pos c3] at o1
        rw [o1, Option.bind_some, if_pos rfl, show T.2.length - qq p k = (T.2.length - qq p (k + 1)) + 1 by omega, chF, e3, ← e4, if_pos c3]
        exact ih n (k + 1) acc M1 (by omega) (by omega) o2
      · rw [if_neg c3] at o1
        rw [o1, Option.bind_some, if_neg i10, show T.2.length - qq p k = (T.2.length - qq p (k + 1)) + 1 by omega, chF, e3, ← e4, if_neg c3]
        exact ih n (k + 1) (acc + 1) M1 (by omega) (by omega) o2
theorem s_changed : S_changed Inv := by
  intro a V U h
  obtain ⟨S, A, hSS⟩ := h.2.2.2.2.1
  obtain ⟨hok, hX, hC, hM, -⟩ := id hSS
  have h24 := hok.2.2.1
  have hM' : ShM (st U 0 0 0 4) S := by rw [st_id (by omega)]; exact hM
  have e0 : st U 0 0 0 4 ((0 : Int32)).toNatClampNeg = nI S.2.length := hM'.1
  unfold f_X6_changed f_X7_changed
  rcases dich a S.2.length with ⟨p, hp, rfl⟩ | hk
  · rw [has_yes hX.1 (by omega) hp, par_yes hM'.1 (by omega) hp, Option.bind_some, Option.bind_some, if_neg i10, if_neg i10, if_pos ib076]
    simp only [hX.1, e0]
    by_cases hf : S.2.length = 1
    · rw [if_pos (by rw [hf]; rfl), if_pos (by rw [hf]; rfl)]
      exact ⟨_, _, rfl, rfl, rfl, inv_t h⟩
    · rw [if_neg (by rw [li, neq (by omega) (by omega)]; exact hf), if_neg (by rw [li, neq (by omega) (by omega)]; exact hf)]
      have hlen : (rmvS S p).2.length = S.2.length - 1 := len_rmv hp
      obtain ⟨V1, x1, x2⟩ := xt_new hok (xq_rf h hSS)
      obtain ⟨m, hm⟩ := x2.2.2
      obtain ⟨V2, y1, y2, y3, y4⟩ := rmv_x hok x2.2.1 hm hp
      have hokT := ok_rmv hok hp
      obtain ⟨V3, z1, z2⟩ := ch_x (V0 := V) hok hokT (by omega) hp (rmvS S p).2.length 4096 0 0 V2 (by omega) (by omega) (xt_fx hok x2 y4 y2 y3)
      have z1' : f_X6_changed_51 4096 (nI p) 0 0 V2 = _ := z1
      have hl := mt_lay h24 (mv_t hM)
      obtain ⟨g, t1, t2⟩ := takeOut_m (U := cp (st U 0 0 0) 4 6 0 0 76) (r := 6) hl.2 h24 hp
      obtain ⟨M3, u1, u2⟩ := ch_m (U := U) hok hokT (by omega) hp S.2.length 4096 0 0 _ (by omega) (by omega) (mt_ms hl t2)
      have u1' : f_X7_changed_45 4096 (nI p) 0 0 (ms (cp (st U 0 0 0) 4 6 0 0 76) 6 g) = _ := u1
      rw [x1, Option.bind_some, y1, Option.bind_some, z1', layThen_m, Option.bind_some, t1, Option.bind_some, u1']
      refine ⟨_, _, rfl, rfl, ?_, inv_xt h hSS z2 u2⟩
      have e6 : qq p 0 = 0 := by unfold qq; rw [if_pos (by omega)]
      dsimp only
      rw [e6, Nat.sub_zero]
  · rw [has_no hX.1 (by omega) hk, par_no hM'.1 (by omega) hk, Option.bind_some, Option.bind_some, if_pos rfl, if_pos rfl]
    exact ⟨_, _, rfl, rfl, rfl, inv_t h⟩
end
section
/-! nearest. -/
def nv (S : Sh) (p t : Nat) : Nat := own (mvS S p t) t
def gq (S : Sh) (p : Nat) (v : Int32) (t : Nat) : Prop := nI (nv S p t) = v
def ds (p t : Nat) : Nat := if t < p then p - t else t - p
def RS (S : Sh) (p : Nat) (v : Int32) (k : Nat) (x : Int32) : Prop := (x = -1000000 ∧ ∀ t, t < k → ¬ gq S p v t) ∨ ∃ t, t < k ∧ x = nI t ∧ gq S p v t ∧ ∀ t', t' < k → gq S p v t' → ds p t < ds p t' ∨ (ds p t = ds p t' ∧ t ≤ t')
theorem RS_one {S : Sh} {p k : Nat} {v x y : Int32} (hx : RS S p v k x) (hy : RS S p v k y) : x = y := by
  rcases hx with ⟨x1, x2⟩ | ⟨t, t1, t2, t3, t4⟩
  · rcases hy with ⟨y1, y2⟩ | ⟨s, s1, s2, s3, s4⟩
    · rw [x1, y1]
    · exact absurd s3 (x2 s s1)
  · rcases hy with ⟨y1, y2⟩ | ⟨s, s1, s2, s3, s4⟩
    · exact absurd t3 (y2 t t1)
    · have a := t4 s s1 s3
      have b := s4 t t1 t3
      have e : t = s := by omega
      rw [t2, s2, e]
theorem nv_eq {S : Sh} {p t : Nat} (hp : p < S.2.length) (ht : t < S.2.length) : nv S p t = ov (cnt (rmvS S p).2 t) (pg S.2 p) (pg S.2 p).2.1 := by
  have hl : (rmvS S p).2.length = S.2.length - 1 := len_rmv hp
  unfold nv own
  rw [pg_mv hp ht, cnt_succ (by rw [len_mv hp ht]; exact ht), pg_mv hp ht]
  have e : cnt (mvS S p t).2 t = cnt (rmvS S p).2 t := by
    apply cnt_take
    unfold mvS insS
    exact take_ins (by omega) (Nat.le_refl t)
  rw [e]
theorem xt_96 {V0 V V' : Mem} {S T : Sh} (hok : okS S) (hokT : okS T) (h : XT V0 V S T) (fr : ∀ a, a ≠ 96 → V' a = V a) : XT V0 V' S T := by
  obtain ⟨⟨⟨a1, a2⟩, a3, a4, a5, a6⟩, b1, b2⟩ := h
  have hc : CI V' 35 T.2 := b2.cg hokT.2.2.1 (by rw [fr 35 (by omega)]) (fun k q => fr _ (by omega))
  exact ⟨⟨⟨fun a q => by rw [fr a (by omega)]; exact a1 a q, fun k q => by rw [fr 4 (by omega)]; exact a2 k q⟩, by rw [fr 0 (by omega)]; exact a3, a4.cg (by rw [fr 4 (by omega)]) (fun k q1 q2 => fr _ (by omega)), a5.cg hok.2.2.1 (by rw [fr 4 (by omega)]) (fun k q => fr _ (by omega)), z0_ci hc⟩, b1.cg (by rw [fr 35 (by omega)]) (fun k q1 q2 => fr _ (by omega)), hc⟩
theorem countAt_x {V0 V : Mem} {S : Sh} {p t : Nat} (hok : okS S) (hp : p < S.2.length) (ht : t < S.2.length) (hx : XT V0 V S (rmvS S p)) : ∃ V', f_X6_countAt (nI p) (nI t) V = some (nI (nv S p t), V') ∧ XT V0 V' S (rmvS S p) := by
  have h24 := hok.2.2.1
  have hl : (rmvS S p).2.length = S.2.length - 1 := len_rmv hp
  have hokT := ok_rmv hok hp
  obtain ⟨V1, x1, x2, x3, x4⟩ := ahead_eq hokT hx.2.1 hx.2.2 (t := t) (by omega)
  have hx1 := xt_fs hok hx x2 x3
  have hpp := pg_ok hok.2.2.2 hp
  generalize hW : cp V1 (35 + 5 + 1 + t) 96 0 0 6 = W
  have w0 : ∀ a, a ≠ 96 → W a = V1 a := fun a q => by rw [← hW, cp_id q]
  have w96 : ∀ x, x < 6 → W 96 x = nI (cnt (rmvS S p).2 t x) := fun x hxx => by
    rw [← hW, cp_in (by omega), Nat.zero_add, Nat.sub_zero]
    exact x4 x hxx
  obtain ⟨s1, s2, s3⟩ := hx1.1.2.2.1.2.2 p hp
  have s1' : W (4 + 2) p = nI (pg S.2 p).1 := by rw [w0 _ (by omega)]; exact s1
  have s2' : W (4 + 3) p = nI (pg S.2 p).2.1 := by rw [w0 _ (by omega)]; exact s2
  have s3' : W (4 + 4) p = nI (pg S.2 p).2.2 := by rw [w0 _ (by omega)]; exact s3
  have ho := over_eq (r := 96) (V := W) (C := cnt (rmvS S p).2 t) (f := W 96) (k := (pg S.2 p).1) (l := (pg S.2 p).2.1) (s := (pg S.2 p).2.2) ⟨hpp.1, hpp.2.1⟩ (by have := hpp.2.2.1; omega) (by have := hpp.2.2.2; omega) (cf_of w96)
  have i24 : ib (nI p) 24 = true := ibt (by omega) (by omega)
  have cp' : (nI p).toNatClampNeg = p := ncl (by omega)
  have ck : cok 0 0 6 6 6 = true := by decide
  have hlv := hpp.2.2.1
  have bt : 0 ≤ nI t ∧ nI t ≤ nI (rmvS S p).2.length := ⟨nI_pos' (by omega), by rw [nle (by omega) (by omega)]; omega⟩
  have hW' : cp V1 (35 + 5 + 1 + t) 96 (Int32.toNatClampNeg 0) (Int32.toNatClampNeg 0) (Int32.toNatClampNeg 6) = W := hW
  refine ⟨ms W 96 (cf (ov (cnt (rmvS S p).2 t) (pg S.2 p)) (W 96)), ?_, xt_96 hok hokT hx1 (fun a q => by rw [ms_id q, w0 a q])⟩
  unfold f_X6_countAt
  rw [isBetween_eq, hx.2.1.1, Option.bind_some, if_neg (fun q => ((b01z _).mp q) bt)]
  dsimp only
  rw [x1, Option.bind_some]
  dsimp only
  rw [if_pos (kb35 (by omega)), if_pos ck, hW']
  unfold f_X3_countOver
  rw [if_pos i24, if_pos i24, if_pos i24, cp', s1', s2', s3', ho, Option.bind_some, Option.bind_some, if_pos i24]
  have e7 : ms W 96 (cf (ov (cnt (rmvS S p).2 t) (pg S.2 p)) (W 96)) 7 p = nI (pg S.2 p).2.1 := by rw [ms_ne (by omega)]; exact s2'
  have e7' : ms W 96 (cf (ov (cnt (rmvS S p).2 t) ((pg S.2 p).1, (pg S.2 p).2.1, (pg S.2 p).2.2)) (W 96)) 7 p = nI (pg S.2 p).2.1 := e7
  rw [e7', if_pos (ibt (by omega) (by omega)), ncl (by omega), ms_eq, nv_eq hp ht]
  have e8 : cf (ov (cnt (rmvS S p).2 t) ((pg S.2 p).1, (pg S.2 p).2.1, (pg S.2 p).2.2)) (W 96) (pg S.2 p).2.1 = nI (ov (cnt (rmvS S p).2 t) (pg S.2 p) (pg S.2 p).2.1) := if_pos (by omega)
  rw [e8]
theorem countAt_no {V : Mem} {n : Nat} {x y : Int32} (h4 : V 35 4 = nI n) (h : ¬ (0 ≤ y ∧ y ≤ nI n)) : f_X6_countAt x y V = some (-1000000, V) := by
  unfold f_X6_countAt
  rw [isBetween_eq, h4, Option.bind_some, if_pos ((b01z _).mpr h)]
theorem sub_neg' {a b : Nat} (h : a < b) (hb : b < 2147483648) : ¬ (0 : Int32) ≤ nI a - nI b := by
  intro q
  rw [Int32.le_iff_toInt_le] at q
  have e : (nI a - nI b).toInt = (a : Int) - b := by
    rw [Int32.toInt_sub, nI_toInt (by omega), nI_toInt (by omega)]
    exact Int.bmod_eq_of_le (by omega) (by omega)
  rw [e] at q
  have z : (0 : Int32).toInt = 0 := by decide
  rw [z] at q
  omega
theorem near_x {V0 : Mem} {S : Sh} {p : Nat} {v : Int32} (hok : okS S) (hp : p < S.2.length) (hv : 0 ≤ v) : ∀ (d m far : Nat) (V : Mem), far + d = S.2.length → d < m → XT V0 V S (rmvS S p) → (∀ t, t < S.2.length → gq S p v t → far ≤ ds p t) → ∃ x V', f_X6_nearest_59 m (nI p) v (nI far) V = some (x, V') ∧ XT V0 V' S (rmvS S p) ∧ RS S p v S.2.length x := by
  have h24 := hok.2.2.1
  have hl : (rmvS S p).2.length = S.2.length - 1 := len_rmv hp
  have vn : ¬ (-1000000 : Int32) = v := fun e => absurd (e ▸ hv) (by decide)
  intro d
  induction d with
  | zero =>
    intro m far V hf hm hx hg
    obtain ⟨m, rfl⟩ : ∃ n', m = n' + 1 := ⟨m - 1, by omega⟩
    rw [f_X6_nearest_59, hx.1.2.2.1.1, if_pos (by rw [nle (by omega) (by omega)]; omega)]
    refine ⟨_, V, rfl, hx, Or.inl ⟨rfl, fun t ht q => ?_⟩⟩
    have := hg t ht q
    unfold ds at this
    split at this <;> omega
  | succ d ih =>
    intro m far V hf hm hx hg
    obtain ⟨m, rfl⟩ : ∃ n', m = n' + 1 := ⟨m - 1, by omega⟩
    have e1 : nI far + 1 = nI (far + 1) := nI_1 far
    rw [f_X6_nearest_59, hx.1.2.2.1.1, if_neg (by rw [nle (by omega) (by omega)]; omega), e1, nad]
    have low : ∃ V1 y, f_X6_countAt (nI p) (nI p - nI far) V = some (y, V1) ∧ XT V0 V1 S (rmvS S p) ∧ ((far ≤ p ∧ y = nI (nv S p (p - far))) ∨ (p < far ∧ y = -1000000)) := by
      by_cases c : far ≤ p
      · rw [nsb c]
        obtain ⟨V1, a1, a2⟩ := countAt_x hok hp (t := p - far) (by omega) hx
        exact ⟨V1, _, a1, a2, Or.inl ⟨c, rfl⟩⟩
      · exact ⟨V, _, countAt_no hx.2.1.1 (fun q => sub_neg' (show p < far by omega) (by omega) q.1), hx, Or.inr ⟨by omega, rfl⟩⟩
    obtain ⟨V1, y, a1, a2, a3⟩ := low
    rw [a1, Option.bind_some]
    by_cases c1 : y = v
    · rcases a3 with ⟨b1, b2⟩ | ⟨b1, b2⟩
      · rw [if_pos c1, nsb b1]
        refine ⟨_, V1, rfl, a2, Or.inr ⟨p - far, by omega, rfl, by rw [← c1, b2]; rfl, fun t' ht' q => ?_⟩⟩
        have := hg t' ht' q
        unfold ds at this ⊢
        split at this <;> split <;> omega
      · exact absurd (b2 ▸ c1) vn
    · rw [if_neg c1]
      dsimp only
      have high : ∃ V2 y, f_X6_countAt (nI p) (nI (p + far)) V1 = some (y, V2) ∧ XT V0 V2 S (rmvS S p) ∧ ((p + far < S.2.length ∧ y = nI (nv S p (p + far))) ∨ (S.2.length ≤ p + far ∧ y = -1000000)) := by
        by_cases c : p + far < S.2.length
        · obtain ⟨V2, a1, a2⟩ := countAt_x hok hp (t := p + far) c a2
          exact ⟨V2, _, a1, a2, Or.inl ⟨c, rfl⟩⟩
        · exact ⟨V1, _, countAt_no a2.2.1.1 (fun q => by have := q.2; rw [nle (by omega) (by omega)] at this; omega), a2, Or.inr ⟨by omega, rfl⟩⟩
      obtain ⟨V2, w, d1, d2, d3⟩ := high
      have nolow : ∀ t, t < S.2.length → gq S p v t → t = p - far → far ≤ p → False := by
        intro t ht q e1 e2
        rcases a3 with ⟨b1, b2⟩ | ⟨b1, b2⟩
        · apply c1
          rw [b2, ← e1]
          exact q
        · omega
      rw [d1, Option.bind_some]
      by_cases c2 : w = v
      · rcases d3 with ⟨b1, b2⟩ | ⟨b1, b2⟩
        · rw [if_pos c2]
          refine ⟨_, V2, rfl, d2, Or.inr ⟨p + far, b1, rfl, by rw [← c2, b2]; rfl, fun t' ht' q => ?_⟩⟩
          have g1 := hg t' ht' q
          have g2 := nolow t' ht' q
          by_cases e : far ≤ p ∧ t' = p - far
          · exact absurd (g2 e.2 e.1) (fun x => x)
          · unfold ds at g1 ⊢
            split at g1 <;> split <;> omega
        · exact absurd (b2 ▸ c2) vn
      · rw [if_neg c2]
        refine ih m (far + 1) V2 (by omega) (by omega) d2 (fun t ht q => ?_)
        have g1 := hg t ht q
        have g2 := nolow t ht q
        have g3 : ¬ t = p + far := by
          intro e
          rcases d3 with ⟨b1, b2⟩ | ⟨b1, b2⟩
          · apply c2
            rw [b2, ← e]
            exact q
          · omega
        by_cases e : far ≤ p ∧ t = p - far
        · exact absurd (g2 e.2 e.1) (fun x => x)
        · unfold ds at g1 ⊢
          split at g1 <;> split <;> omega
theorem far_m {a b : Nat} {M : Mem} (ha : a < 2147483648) (hb : b < 2147483648) : f_X7_farOf (nI a) (nI b) M = some (nI (ds b a), M) := by
  unfold f_X7_farOf ds
  by_cases c : a < b
  · rw [if_neg (by rw [nle hb ha]; omega), if_pos c, nsb (by omega)]
  · rw [if_pos (by rw [nle hb ha]; omega), if_neg c, nsb (by omega)]
theorem near_m {U : Mem} {S : Sh} {p : Nat} {v : Int32} (hok : okS S) (hp : p < S.2.length) (hlb : (pg S.2 p).1 ≤ 3) : ∀ (d m k : Nat) (x : Int32) (M : Mem), k + d = S.2.length → d < m → MV U M S → RS S p v k x → ∃ x' M', f_X7_nearest_34 m (nI p) v x (nI k) M = some (x', M') ∧ MV U M' S ∧ RS S p v S.2.length x' := by
  have h24 := hok.2.2.1
  intro d
  induction d with
  | zero =>
    intro m k x M hk hm hM hR
    obtain ⟨m, rfl⟩ : ∃ n', m = n' + 1 := ⟨m - 1, by omega⟩
    have e0 : M 4 ((0 : Int32)).toNatClampNeg = nI S.2.length := hM.2.2.2.1
    rw [f_X7_nearest_34, if_pos ib076, e0, if_pos (by rw [nle (by omega) (by omega)]; omega)]
    exact ⟨_, M, rfl, hM, by rw [← show k = S.2.length by omega]; exact hR⟩
  | succ d ih =>
    intro m k x M hk hm hM hR
    obtain ⟨m, rfl⟩ : ∃ n', m = n' + 1 := ⟨m - 1, by omega⟩
    have e0 : M 4 ((0 : Int32)).toNatClampNeg = nI S.2.length := hM.2.2.2.1
    have e1 : nI k + 1 = nI (k + 1) := nI_1 k
    have hk2 : k < S.2.length := by omega
    have hl := mt_lay h24 hM
    obtain ⟨g, t1, t2⟩ := moveTo_m (U := cp M 4 6 0 0 76) (r := 6) hl.2 hok hp hk2
    have hokT := ok_mv hok hp hk2
    have hlen := len_mv hp hk2
    have hm1 := mt_ms hl t2
    have hm2 : MT U (mk (ms (cp M 4 6 0 0 76) 6 g) (mvS S p k).2 (mvS S p k).2.length) S (mvS S p k) := mt_mk hm1
    have ow := own_m (r := 6) (by omega) hokT hm1.2 (k := k) (by omega)
    rw [f_X7_nearest_34, if_pos ib076, e0, if_neg (by rw [nle (by omega) (by omega)]; omega), lbl_m hok hM.2.2.2 hp, Option.bind_some, if_neg (fun q => ((b01z _).mp q) hlb)]
    dsimp only
    rw [layThen_m, Option.bind_some, t1, Option.bind_some, countAll_eq (by omega) hm1.2 hokT, Option.bind_some]
    generalize hMM : mk (ms (cp M 4 6 0 0 76) 6 g) (mvS S p k).2 (mvS S p k).2.length = MM at *
    unfold f_X7_nearest_103 f_X7_nearest_130
    rw [ow, Option.bind_some, e1]
    dsimp only
    have keep : ¬ (gq S p v k ∧ (x = -1000000 ∨ ∃ t, t < k ∧ x = nI t ∧ ds p k < ds p t)) → RS S p v (k + 1) x := by
      intro hno
      rcases hR with ⟨r1, r2⟩ | ⟨t, w1, w2, t3, t4⟩
      · refine Or.inl ⟨r1, fun t ht q => ?_⟩
        by_cases c : t = k
        · subst c
          exact hno ⟨q, Or.inl r1⟩
        · exact r2 t (by omega) q
      · refine Or.inr ⟨t, by omega, w2, t3, fun t' ht' q => ?_⟩
        by_cases c : t' = k
        · subst c
          have : ¬ ds p t' < ds p t := fun e => hno ⟨q, Or.inr ⟨t, w1, w2, e⟩⟩
          omega
        · exact t4 t' (by omega) q
    have swap : gq S p v k → (x = -1000000 ∨ ∃ t, t < k ∧ x = nI t ∧ ds p k < ds p t) → RS S p v (k + 1) (nI k) := by
      intro hq hne
      refine Or.inr ⟨k, by omega, rfl, hq, fun t' ht' q => ?_⟩
      by_cases c : t' = k
      · subst c; omega
      · rcases hR with ⟨r1, r2⟩ | ⟨t, t1, t2, t3, t4⟩
        · exact absurd q (r2 t' (by omega))
        · rcases hne with e | ⟨s, s1, s2, s3⟩
          · have := t2.symm.trans e
            exact absurd this (fun z => absurd (z ▸ nI_pos' (show t < 2147483648 by omega)) (by decide))
          · have e : s = t := by
              have := s2.symm.trans t2
              rw [neq (by omega) (by omega)] at this
              exact this
            subst e
            have := t4 t' (by omega) q
            omega
    by_cases c : x = -1000000
    · rw [if_pos c]
      by_cases b : nI (nv S p k) = v
      · have b' : nI (own (mvS S p k) k) = v := b
        rw [if_pos b', if_neg (by decide)]
        exact ih m (k + 1) (nI k) MM (by omega) (by omega) hm2.1 (swap b (Or.inl c))
      · have b' : ¬ nI (own (mvS S p k) k) = v := b
        rw [if_neg b']
        exact ih m (k + 1) x MM (by omega) (by omega) hm2.1 (keep (fun q => b q.1))
    · rw [if_neg c]
      obtain ⟨t, s1, rfl, s3, s4⟩ : ∃ t, t < k ∧ x = nI t ∧ gq S p v t ∧ ∀ t', t' < k → gq S p v t' → ds p t < ds p t' ∨ (ds p t = ds p t' ∧ t ≤ t') := by
        rcases hR with ⟨r1, r2⟩ | r
        · exact absurd r1 c
        · exact r
      have d1 : ds p t < 2147483648 := by unfold ds; split <;> omega
      have d2 : ds p k < 2147483648 := by unfold ds; split <;> omega
      rw [far_m (by omega) (by omega), Option.bind_some]
      dsimp only
      rw [far_m (by omega) (by omega), Option.bind_some]
      dsimp only
      by_cases f : nI (ds p t) ≤ nI (ds p k)
      · rw [if_pos f, ow, Option.bind_some, if_pos (show (0 : Int32) = 0 from rfl)]
        dsimp only
        have hk3 := keep (fun q => by
          rcases q.2 with e | ⟨s, s1', s2', s3'⟩
          · exact c e
          · have e : s = t := by
              have := s2'
              rw [neq (by omega) (by omega)] at this
              exact this.symm
            subst e
            rw [nle d1 d2] at f
            omega)
        by_cases b : nI (own (mvS S p k) k) = v
        · rw [if_pos b]
          exact ih m (k + 1) _ MM (by omega) (by omega) hm2.1 hk3
        · rw [if_neg b]
          exact ih m (k + 1) _ MM (by omega) (by omega) hm2.1 hk3
      · rw [if_neg f, ow, Option.bind_some, if_neg (show ¬ (1 : Int32) = 0 by decide)]
        dsimp only
        have f' : ds p k < ds p t := by
          rw [nle d1 d2] at f
          omega
        by_cases b : nI (nv S p k) = v
        · have b' : nI (own (mvS S p k) k) = v := b
          rw [if_pos b']
          exact ih m (k + 1) (nI k) MM (by omega) (by omega) hm2.1 (swap b (Or.inr ⟨t, s1, rfl, f'⟩))
        · have b' : ¬ nI (own (mvS S p k) k) = v := b
          rw [if_neg b']
          exact ih m (k + 1) _ MM (by omega) (by omega) hm2.1 (keep (fun q => b q.1))
theorem s_nearest : S_nearest Inv := by
  intro a v V U h
  obtain ⟨S, A, hSS⟩ := h.2.2.2.2.1
  obtain ⟨hok, hX, hC, hM, -⟩ := id hSS
  have h24 := hok.2.2.1
  have hM' : ShM (st U 0 0 0 4) S := by rw [st_id (by omega)]; exact hM
  have e0 : st U 0 0 0 4 ((0 : Int32)).toNatClampNeg = nI S.2.length := hM'.1
  unfold f_X6_nearest f_X7_nearest
  rcases dich a S.2.length with ⟨p, hp, rfl⟩ | hk
  · rw [has_yes hX.1 (by omega) hp, par_yes hM'.1 (by omega) hp, Option.bind_some, Option.bind_some, if_neg i10, if_neg i10]
    dsimp only
    rw [isBetween_eq, show (0 : Int64) = (0 : Int32).toInt64 from rfl, show (99 : Int64) = (99 : Int32).toInt64 from rfl, inw, Option.bind_some, Option.bind_some]
    by_cases h1 : 0 ≤ v ∧ v ≤ 99
    · rw [if_neg (fun q => ((b01z _).mp q) h1), if_neg (fun q => ((b01z _).mp q) h1)]
      dsimp only
      rw [lbl_x hok hX hp, Option.bind_some]
      by_cases hlb : (pg S.2 p).1 ≤ 3
      · rw [if_neg (fun q => ((b01z _).mp q) hlb)]
        dsimp only
        have hlen : (rmvS S p).2.length = S.2.length - 1 := len_rmv hp
        obtain ⟨V1, x1, x2⟩ := xt_new hok (xq_rf h hSS)
        obtain ⟨m, hm⟩ := x2.2.2
        obtain ⟨V2, y1, y2, y3, y4⟩ := rmv_x hok x2.2.1 hm hp
        obtain ⟨x, V3, z1, z2, z3⟩ := near_x (V0 := V) (v := v) hok hp h1.1 S.2.length 4096 0 V2 (by omega) (by omega) (xt_fx hok x2 y4 y2 y3) (fun _ _ _ => Nat.zero_le _)
        have z1' : f_X6_nearest_59 4096 (nI p) v 0 V2 = _ := z1
        obtain ⟨x', M3, u1, u2, u3⟩ := near_m (U := U) (v := v) hok hp hlb S.2.length 4096 0 (-1000000) _ (by omega) (by omega) (mv_t hM) (Or.inl ⟨rfl, fun t ht => absurd ht (by omega)⟩)
        have u1' : f_X7_nearest_34 4096 (nI p) v (-1000000) 0 (st U 0 0 0) = _ := u1
        rw [x1, Option.bind_some, y1, Option.bind_some, z1', u1']
        exact ⟨_, _, rfl, rfl, RS_one z3 u3, inv_xv h hSS z2.1 u2.1 u2.2.1 u2.2.2.1⟩
      · rw [if_pos ((b01z _).mpr hlb)]
        have un : ∀ n, f_X7_nearest_34 (n + 1) (nI p) v (-1000000) 0 (st U 0 0 0) = some (-1000000, st U 0 0 0) := by
          intro n
          rw [f_X7_nearest_34, if_pos ib076, e0, lbl_m hok hM' hp, Option.bind_some, if_pos ((b01z _).mpr hlb)]
          by_cases c : nI S.2.length ≤ 0
          · rw [if_pos c]
          · rw [if_neg c]
        rw [un 4095]
        exact ⟨_, _, rfl, rfl, rfl, inv_t h⟩
    · rw [if_pos ((b01z _).mpr h1), if_pos ((b01z _).mpr h1)]
      exact ⟨_, _, rfl, rfl, rfl, inv_t h⟩
  · rw [has_no hX.1 (by omega) hk, par_no hM'.1 (by omega) hk, Option.bind_some, Option.bind_some, if_pos rfl, if_pos rfl]
    exact ⟨_, _, rfl, rfl, rfl, inv_t h⟩
end
section
/-! who. -/
def qv (S : Sh) (p w v : Nat) : Pg := if w = 0 then (v, (pg S.2 p).2.1, (pg S.2 p).2.2) else if w = 1 then ((pg S.2 p).1, v, (pg S.2 p).2.2) else ((pg S.2 p).1, (pg S.2 p).2.1, v)
def tb (T : Sh) (g : Nat → Int32) : Nat → Nat → Bool
  | 0, _ => true
  | d + 1, k => if g k = (if (pg T.2 k).1 ≤ 3 then nI (own T k) else 0) then tb T g d (k + 1) else false
theorem set_set2 {S : Sh} {p : Nat} {q q' : Pg} : setS (setS S p q') p q = setS S p q := by
  unfold setS
  refine Prod.ext rfl ?_
  dsimp only
  rw [List.set_set]
theorem tb_x {V0 : Mem} {S T : Sh} {r i n : Nat} {g : Nat → Int32} (hok : okS S) (hokT : okS T) (hr : 99 ≤ r ∧ r < 114) (hi : i + n ≤ 40) (hn : n ≤ T.2.length) (hg : ∀ j, j < n → V0 (r + 1) (i + j) = g j) : ∀ (d m k : Nat) (V : Mem), k + d = n → d < m → XT V0 V S T → ∃ V', f_X3_isToldBy_3 35 m r (nI i) (nI n) (nI k) V = some (if tb T g d k = true then 1 else 0, V') ∧ XT V0 V' S T := by
  have h24 := hokT.2.2.1
  intro d
  induction d with
  | zero =>
    intro m k V hk hm hx
    obtain ⟨m, rfl⟩ : ∃ n', m = n' + 1 := ⟨m - 1, by omega⟩
    rw [f_X3_isToldBy_3, if_pos (by rw [nle (by omega) (by omega)]; omega)]
    exact ⟨V, rfl, hx⟩
  | succ d ih =>
    intro m k V hk hm hx
    obtain ⟨m, rfl⟩ : ∃ n', m = n' + 1 := ⟨m - 1, by omega⟩
    have e1 : nI k + 1 = nI (k + 1) := nI_1 k
    have hk2 : k < T.2.length := by omega
    rw [f_X3_isToldBy_3, if_neg (by rw [nle (by omega) (by omega)]; omega), lbl_x hokT hx.2.1 hk2, Option.bind_some]
    unfold f_X3_isToldBy_28
    rw [nad, if_pos (ibt (show i + k < 40 by omega) (by omega)), ncl (show i + k < _ by omega), e1, tb]
    by_cases c : (pg T.2 k).1 ≤ 3
    · obtain ⟨V1, o1, o2, o3⟩ := own_x (Or.inr rfl) hokT hx.2.1 hx.2.2 hk2
      have hx1 := xt_fs hok hx o2 o3
      have hgV : V1 (r + 1) (i + k) = g k := by rw [hx1.1.1.1 (r + 1) (by omega)]; exact hg k (by omega)
      rw [if_neg (fun q => ((b01z _).mp q) c)]
      dsimp only
      rw [o1, Option.bind_some, if_pos c, if_pos (ibt (show i + k < 40 by omega) (by omega))]
      dsimp only
      simp only [hgV]
      by_cases f : g k = nI (own T k)
      · rw [if_pos f, if_pos f]
        exact ih m (k + 1) V1 (by omega) (by omega) hx1
      · rw [if_neg f, if_neg f]
        exact ⟨V1, rfl, hx1⟩
    · have hgV : V (r + 1) (i + k) = g k := by rw [hx.1.1.1 (r + 1) (by omega)]; exact hg k (by omega)
      rw [if_pos ((b01z _).mpr c)]
      dsimp only
      simp only [if_neg c, hgV]
      by_cases f : g k = 0
      · rw [if_pos f, if_pos f]
        exact ih m (k + 1) V (by omega) (by omega) hx
      · rw [if_neg f, if_neg f]
        exact ⟨V, rfl, hx⟩
theorem tb_no {T : Sh} {a n : Nat} : ∀ (d m k : Nat) (M : Mem), k + d = n → d < m → n < 2147483648 → f_X7_isCountedSo_13 m (nI a) (nI n) 0 (nI k) M = some (0, M) := by
  intro d
  induction d with
  | zero =>
    intro m k M hk hm hn
    obtain ⟨m, rfl⟩ : ∃ n', m = n' + 1 := ⟨m - 1, by omega⟩
    rw [f_X7_isCountedSo_13, if_pos (by rw [nle (by omega) (by omega)]; omega), if_pos (by decide)]
  | succ d ih =>
    intro m k M hk hm hn
    obtain ⟨m, rfl⟩ : ∃ n', m = n' + 1 := ⟨m - 1, by omega⟩
    have e1 : nI k + 1 = nI (k + 1) := nI_1 k
    rw [f_X7_isCountedSo_13, if_neg (by rw [nle (by omega) (by omega)]; omega), if_pos rfl, f_X7_isCountedSo_66, e1]
    exact ih m (k + 1) M (by omega) (by omega) hn
theorem tb_m {M : Mem} {T : Sh} {a n : Nat} {g : Nat → Int32} (hokT : okS T) (hT : ShM (M 6) T) (ha : a + n ≤ 320) (hn : n ≤ T.2.length) (hg : ∀ j, j < n → M 3 (a + j) = g j) : ∀ (d m k : Nat), k + d = n → d < m → f_X7_isCountedSo_13 m (nI a) (nI n) 1 (nI k) (mk M T.2 T.2.length) = some (if tb T g d k = true then 1 else 0, mk M T.2 T.2.length) := by
  have h24 := hokT.2.2.1
  have hT' : ShM (mk M T.2 T.2.length 6) T := by rw [mk_id (by omega)]; exact hT
  intro d
  induction d with
  | zero =>
    intro m k hk hm
    obtain ⟨m, rfl⟩ : ∃ n', m = n' + 1 := ⟨m - 1, by omega⟩
    rw [f_X7_isCountedSo_13, if_pos (by rw [nle (by omega) (by omega)]; omega), if_pos (by decide)]
    rfl
  | succ d ih =>
    intro m k hk hm
    obtain ⟨m, rfl⟩ : ∃ n', m = n' + 1 := ⟨m - 1, by omega⟩
    have e1 : nI k + 1 = nI (k + 1) := nI_1 k
    have hk2 : k < T.2.length := by omega
    have hgM : mk M T.2 T.2.length 3 (a + k) = g k := by rw [mk_id (by omega)]; exact hg k (by omega)
    rw [f_X7_isCountedSo_13, if_neg (by rw [nle (by omega) (by omega)]; omega), if_neg (by decide), lbl_m hokT hT' hk2, Option.bind_some]
    unfold f_X7_isCountedSo_49 f_X7_isCountedSo_66
    rw [nad, e1, tb]
    by_cases c : (pg T.2 k).1 ≤ 3
    · rw [if_neg (fun q => ((b01z _).mp q) c)]
      dsimp only
      rw [own_m (r := 6) (by omega) hokT hT hk2, Option.bind_some, if_pos c, if_pos (ibt (show a + k < 320 by omega) (by omega)), ncl (show a + k < _ by omega)]
      dsimp only
      simp only [hgM]
      by_cases f : g k = nI (own T k)
      · rw [if_pos f.symm, if_pos f]
        exact ih m (k + 1) (by omega) (by omega)
      · rw [if_neg (fun q => f q.symm), if_neg f]
        exact tb_no (T := T) d m (k + 1) _ (by omega) (by omega) (by omega)
    · rw [if_pos ((b01z _).mpr c)]
      dsimp only
      rw [if_pos (ibt (show a + k < 320 by omega) (by omega)), ncl (show a + k < _ by omega)]
      simp only [if_neg c, hgM]
      by_cases f : g k = 0
      · rw [if_pos f.symm, if_pos f]
        exact ih m (k + 1) (by omega) (by omega)
      · rw [if_neg (fun q => f q.symm), if_neg f]
        exact tb_no (T := T) d m (k + 1) _ (by omega) (by omega) (by omega)
def whF (S : Sh) (p w n : Nat) (g : Nat → Int32) : Nat → Nat → Int32 → Int32
  | 0, _, acc => acc
  | d + 1, v, acc => whF S p w n g d (v + 1) (if tb (setS S p (qv S p w v)) g n 0 = true then acc ||| ((1 : Int32) <<< (nI v &&& 31)) else acc)
def lo (w : Nat) : Nat := if w = 0 then 1 else 0
def hi (w : Nat) : Nat := if w = 0 then 5 else if w = 1 then 2 else 20
theorem qv_ok {S : Sh} {p w v : Nat} (hok : okS S) (hp : p < S.2.length) (h1 : lo w ≤ v) (h2 : v ≤ hi w) : okP (qv S p w v) := by
  have hq := pg_ok hok.2.2.2 hp
  unfold lo at h1
  unfold hi at h2
  unfold qv
  by_cases c0 : w = 0
  · rw [if_pos c0] at h1 h2 ⊢
    exact ⟨h1, h2, hq.2.2.1, hq.2.2.2⟩
  · rw [if_neg c0] at h1 h2 ⊢
    by_cases c1 : w = 1
    · rw [if_pos c1] at h2 ⊢
      exact ⟨hq.1, hq.2.1, h2, hq.2.2.2⟩
    · rw [if_neg c1] at h2 ⊢
      exact ⟨hq.1, hq.2.1, hq.2.2.1, h2⟩
theorem wh_x {V0 : Mem} {S : Sh} {p w r i n : Nat} {g : Nat → Int32} (hok : okS S) (hp : p < S.2.length) (hw : w ≤ 2) (hr : 99 ≤ r ∧ r < 114) (hi' : i + n ≤ 40) (hn : n ≤ S.2.length) (hg : ∀ j, j < n → V0 (r + 1) (i + j) = g j) : ∀ (d m v : Nat) (acc : Int32) (V : Mem) (q : Pg), v + d = hi w + 1 → d < m → lo w ≤ v → okP q → XT V0 V S (setS S p q) → ∃ V' q', f_X6_who_160 m (nI p) (nI w) (nI i) (nI n) r (nI (pg S.2 p).1) (nI (pg S.2 p).2.1) (nI (pg S.2 p).2.2) (nI (hi w)) acc (nI v) V = some (whF S p w n g d v acc, st V' 0 12 0) ∧ XT V0 V' S (setS S p q') := by
  have h24 := hok.2.2.1
  have h20 : hi w ≤ 20 := by unfold hi; split <;> (try split) <;> omega
  intro d
  induction d with
  | zero =>
    intro m v acc V q hv hm hl hq hx
    obtain ⟨m, rfl⟩ : ∃ n', m = n' + 1 := ⟨m - 1, by omega⟩
    rw [f_X6_who_160, if_pos (by rw [nlt (by omega) (by omega)]; omega)]
    exact ⟨V, q, rfl, hx⟩
  | succ d ih =>
    intro m v acc V q hv hm hl hq hx
    obtain ⟨m, rfl⟩ : ∃ n', m = n' + 1 := ⟨m - 1, by omega⟩
    have e1 : nI v + 1 = nI (v + 1) := nI_1 v
    have hqv := qv_ok hok hp hl (show v ≤ hi w by omega)
    have hokq := ok_set (k := p) hok hq
    have hlq : (setS S p q).2.length = S.2.length := List.length_set
    obtain ⟨mm, hmm⟩ := hx.2.2
    obtain ⟨V1, x1, x2, x3, x4⟩ := alt_x (p := p) (q := qv S p w v) hokq hx.2.1 hmm (by omega)
    have hx1 := xt_fx hok hx x4 x2 x3
    rw [set_set2] at hx1
    have hokv := ok_set (k := p) hok hqv
    have hlv : (setS S p (qv S p w v)).2.length = S.2.length := List.length_set
    obtain ⟨V2, y1, y2⟩ := tb_x hok hokv hr hi' (by omega) hg n 4096 0 V1 (by omega) (by omega) hx1
    have y1' : f_X3_isToldBy_3 35 4096 r (nI i) (nI n) 0 V1 = _ := y1
    have ea : f_X6_who_160 (m + 1) (nI p) (nI w) (nI i) (nI n) r (nI (pg S.2 p).1) (nI (pg S.2 p).2.1) (nI (pg S.2 p).2.2) (nI (hi w)) acc (nI v) V = f_X6_who_207_c35 (f_X6_who_160 m) (nI p) (nI w) (nI i) (nI n) r (nI (pg S.2 p).1) (nI (pg S.2 p).2.1) (nI (pg S.2 p).2.2) (nI (hi w)) acc (nI v) (nI p) (nI (qv S p w v).1) (nI (qv S p w v).2.1) (nI (qv S p w v).2.2) V := by
      rw [f_X6_who_160, if_neg (by rw [nlt (by omega) (by omega)]; omega)]
      unfold f_X6_who_183_c35 f_X6_who_195_c35
      rcases (show w = 0 ∨ w = 1 ∨ w = 2 by omega) with rfl | rfl | rfl
      · rw [if_pos (show nI 0 = (0 : Int32) from rfl), if_neg (show ¬ nI 0 = (1 : Int32) by decide), if_neg (show ¬ nI 0 = (2 : Int32) by decide)]
        rfl
      · rw [if_neg (show ¬ nI 1 = (0 : Int32) by decide), if_pos (show nI 1 = (1 : Int32) from rfl), if_neg (show ¬ nI 1 = (2 : Int32) by decide)]
        rfl
      · rw [if_neg (show ¬ nI 2 = (0 : Int32) by decide), if_neg (show ¬ nI 2 = (1 : Int32) by decide), if_pos (show nI 2 = (2 : Int32) from rfl)]
        rfl
    rw [ea]
    unfold f_X6_who_207_c35 f_X6_who_235 f_X3_isToldBy
    rw [x1, Option.bind_some, y1', Option.bind_some, e1, whF]
    by_cases c : tb (setS S p (qv S p w v)) g n 0 = true
    · rw [if_neg (fun q => ((b01z _).mp q) c)]
      dsimp only
      rw [if_pos c]
      exact ih m (v + 1) _ V2 (qv S p w v) (by omega) (by omega) (by omega) hqv y2
    · rw [if_pos ((b01z _).mpr c)]
      dsimp only
      rw [if_neg c]
      exact ih m (v + 1) _ V2 (qv S p w v) (by omega) (by omega) (by omega) hqv y2
theorem lay_qv {f : Nat → Int32} {S : Sh} {p w v : Nat} (hS : ShM f S) (hp : p < S.2.length) (hw : w ≤ 2) : ShM (upd f (4 + 3 * p + w) (nI v)) (setS S p (qv S p w v)) := by
  have hl : (setS S p (qv S p w v)).2.length = S.2.length := List.length_set
  have hu : ∀ y, upd f (4 + 3 * p + w) (nI v) y = if y = 4 + 3 * p + w then nI v else f y := fun _ => rfl
  refine ⟨?_, fun l hl2 => ?_, fun k hk => ?_⟩
  · rw [hl, hu, if_neg (by omega)]
    exact hS.1
  · rw [hu, if_neg (by omega)]
    exact hS.2.1 l hl2
  · rw [hl] at hk
    have e : pg (setS S p (qv S p w v)).2 k = if k = p then qv S p w v else pg S.2 k := pg_set hp k
    obtain ⟨s1, s2, s3⟩ := hS.2.2 k hk
    rw [e, hu, hu, hu]
    by_cases c : k = p
    · subst c
      rw [if_pos rfl]
      unfold qv
      rcases (show w = 0 ∨ w = 1 ∨ w = 2 by omega) with rfl | rfl | rfl
      · simp (disch := omega) only [if_pos, if_neg, if_true]
        exact ⟨trivial, s2, s3⟩
      · simp (disch := omega) only [if_pos, if_neg, if_true]
        exact ⟨s1, trivial, s3⟩
      · simp (disch := omega) only [if_pos, if_neg, if_true]
        exact ⟨s1, s2, trivial⟩
    · rw [if_neg c, if_neg (by omega), if_neg (by omega), if_neg (by omega)]
      exact ⟨s1, s2, s3⟩
theorem wh_m {U : Mem} {S : Sh} {p w r i n : Nat} {g : Nat → Int32} (hok : okS S) (hp : p < S.2.length) (hw : w ≤ 2) (hr : r < 8) (hi' : i + n ≤ 40) (hn : n ≤ S.2.length) (hg : ∀ j, j < n → U 3 (40 * r + i + j) = g j) : ∀ (d m v : Nat) (acc : Int32) (M : Mem), v + d = hi w + 1 → d < m → lo w ≤ v → MV U M S → ∃ M', f_X7_who_106 m (nI p) (nI w) (nI r) (nI i) (nI n) acc (nI (hi w)) (nI v) M = some (whF S p w n g d v acc, M') ∧ MV U M' S := by
  have h24 := hok.2.2.1
  have h20 : hi w ≤ 20 := by unfold hi; split <;> (try split) <;> omega
  intro d
  induction d with
  | zero =>
    intro m v acc M hv hm hl hx
    obtain ⟨m, rfl⟩ : ∃ n', m = n' + 1 := ⟨m - 1, by omega⟩
    rw [f_X7_who_106, if_pos (by rw [nlt (by omega) (by omega)]; omega)]
    exact ⟨M, rfl, hx⟩
  | succ d ih =>
    intro m v acc M hv hm hl hx
    obtain ⟨m, rfl⟩ : ∃ n', m = n' + 1 := ⟨m - 1, by omega⟩
    have e1 : nI v + 1 = nI (v + 1) := nI_1 v
    have hqv := qv_ok hok hp hl (show v ≤ hi w by omega)
    have hokv := ok_set (k := p) hok hqv
    have hlv : (setS S p (qv S p w v)).2.length = S.2.length := List.length_set
    have hl := mt_lay h24 hx
    have hm1 : MT U (st (cp M 4 6 0 0 76) 6 (4 + 3 * p + w) (nI v)) S (setS S p (qv S p w v)) := mt_ms hl (lay_qv hl.2 hp hw)
    have hm2 : MT U (mk (st (cp M 4 6 0 0 76) 6 (4 + 3 * p + w) (nI v)) (setS S p (qv S p w v)).2 (setS S p (qv S p w v)).2.length) S (setS S p (qv S p w v)) := mt_mk hm1
    have e2 : (4 : Int32) + (3 : Int32) * nI p + nI w = nI (4 + 3 * p + w) := by rw [li, li, pk_mul, nad, nad]
    have e3 : (40 : Int32) * nI r + nI i = nI (40 * r + i) := by rw [li, pk_mul, nad]
    have y1 := tb_m (M := st (cp M 4 6 0 0 76) 6 (4 + 3 * p + w) (nI v)) (a := 40 * r + i) (n := n) (g := g) hokv hm1.2 (by omega) (by omega) (fun j hj => by rw [hm1.1.1.1 3 (by omega) (by omega) (by omega) (by omega)]; exact hg j hj) n 4096 0 (by omega) (by omega)
    have y1' : f_X7_isCountedSo_13 4096 (nI (40 * r + i)) (nI n) 1 0 (mk (st (cp M 4 6 0 0 76) 6 (4 + 3 * p + w) (nI v)) (setS S p (qv S p w v)).2 (setS S p (qv S p w v)).2.length) = _ := y1
    rw [f_X7_who_106, if_neg (by rw [nlt (by omega) (by omega)]; omega), layThen_m, Option.bind_some, e2, if_pos (ibt (by omega) (by omega)), ncl (by omega), e3]
    unfold f_X7_isCountedSo f_X7_who_157
    rw [countAll_eq (by omega) hm1.2 hokv, Option.bind_some, y1', Option.bind_some, e1, or0, whF]
    by_cases c : tb (setS S p (qv S p w v)) g n 0 = true
    · rw [if_neg (fun q => ((b01z _).mp q) c)]
      dsimp only
      rw [if_pos c]
      exact ih m (v + 1) _ _ (by omega) (by omega) (by omega) hm2.1
    · rw [if_pos ((b01z _).mpr c)]
      dsimp only
      rw [if_neg c]
      exact ih m (v + 1) _ _ (by omega) (by omega) (by omega) hm2.1
theorem set_self {S : Sh} {p : Nat} (hp : p < S.2.length) : setS S p (pg S.2 p) = S := by
  have := set_set (S := S) (p := p) (q := pg S.2 p) hp
  rw [set_set2] at this
  exact this
theorem s_who : S_who Inv := by
  intro a b c d e V U h
  obtain ⟨S, A, hSS⟩ := h.2.2.2.2.1
  obtain ⟨hok, hX, hC, hM, -⟩ := id hSS
  have h24 := hok.2.2.1
  have hM' : ShM (st U 0 0 0 4) S := by rw [st_id (by omega)]; exact hM
  have e0 : st U 0 0 0 4 ((0 : Int32)).toNatClampNeg = nI S.2.length := hM'.1
  unfold f_X6_who f_X7_who
  rcases dich a S.2.length with ⟨p, hp, rfl⟩ | hk
  · rw [has_yes hX.1 (by omega) hp, par_yes hM'.1 (by omega) hp, Option.bind_some, Option.bind_some, if_neg i10, if_neg i10]
    dsimp only
    rw [isBetween_eq, show (0 : Int64) = (0 : Int32).toInt64 from rfl, show (2 : Int64) = (2 : Int32).toInt64 from rfl, inw, Option.bind_some, Option.bind_some]
    by_cases h1 : 0 ≤ b ∧ b ≤ 2
    · rw [if_neg (fun q => ((b01z _).mp q) h1), if_neg (fun q => ((b01z _).mp q) h1)]
      dsimp only
      rw [isRow_eq, mRow_eq, Option.bind_some, Option.bind_some]
      by_cases h2 : 0 ≤ c ∧ c ≤ 7
      · rw [if_neg (fun q => ((b01z _).mp q) h2), if_neg (fun q => ((b01z _).mp q) h2)]
        dsimp only
        rw [isBetween_eq, if_pos ib076, e0, show (1 : Int64) = (1 : Int32).toInt64 from rfl, inw, hX.1, Option.bind_some, Option.bind_some]
        by_cases h3 : 1 ≤ e ∧ e ≤ nI S.2.length
        · rw [if_neg (fun q => ((b01z _).mp q) h3), if_neg (fun q => ((b01z _).mp q) h3)]
          obtain ⟨w, w1, rfl⟩ := btw (n := 2) (by omega) h1
          obtain ⟨r, r1, rfl⟩ := btw (n := 7) (by omega) h2
          obtain ⟨n, n1, rfl⟩ := btw (by omega) ⟨Int32.le_trans (by decide) h3.1, h3.2⟩
          dsimp only
          rw [if_pos (ibt (show r < 8 by omega) (by omega)), ncl (show r < 2147483648 by omega)]
          rcases row_both (M := st U 0 0 0) (x := d) (n := n) h.1 (show r < 8 by omega) (by omega) (st_id (by omega)) (st_id (by omega)) with ⟨e, e0, e1, e2, e3⟩ | ⟨i, rfl, i1, i2, e1, e2⟩
          · rw [e1, e2, Option.bind_some, Option.bind_some, if_neg e0, if_neg e3, f_X6_found, Option.bind_some]
            refine ⟨_, _, rfl, rfl, rfl, ?_⟩
            dsimp only
            exact inv_f h (fun a q => by rw [st_id q, st_id q]) (fun k q1 q2 => by rw [st_ne2 q2, st_ne2 q1]) st_same
          · rw [e1, e2, Option.bind_some, Option.bind_some, if_pos rfl, if_pos rfl]
            have i24 : ib (nI p) 24 = true := ibt (by omega) (by omega)
            have cp' : (nI p).toNatClampNeg = p := ncl (by omega)
            obtain ⟨s1, s2, s3⟩ := hX.2.2 p hp
            have s1' : V 6 p = nI (pg S.2 p).1 := s1
            have s2' : V 7 p = nI (pg S.2 p).2.1 := s2
            have s3' : V 8 p = nI (pg S.2 p).2.2 := s3
            dsimp only
            rw [if_pos i24, if_pos i24, if_pos i24, cp', s1', s2', s3']
            obtain ⟨V1, x1, x2⟩ := xt_new hok (xq_rf h hSS)
            have x2' : XT V V1 S (setS S p (pg S.2 p)) := by rw [set_self hp]; exact x2
            have hlo : lo w ≤ hi w := by unfold lo hi; split <;> (try split) <;> omega
            obtain ⟨V2, q', y1, y2⟩ := wh_x (w := w) (r := 99 + 2 * r) hok hp w1 (by omega) i1 n1 i2 (hi w + 1 - lo w) 4096 (lo w) 0 V1 (pg S.2 p) (by omega) (by unfold hi; split <;> (try split) <;> omega) (Nat.le_refl _) (pg_ok hok.2.2.2 hp) x2'
            have hM1 : MV (st (st U 0 0 0) 0 1 0) (st (st U 0 0 0) 0 1 0) S := ⟨QM.rf, rfl, rfl, by rw [st_id (by omega)]; exact hM'⟩
            obtain ⟨M2, z1, z2⟩ := wh_m (U := st (st U 0 0 0) 0 1 0) (w := w) (r := r) (g := fun j => U 3 (40 * r + i + j)) hok hp w1 (by omega) i1 n1 (fun j hj => by rw [st_ne1 (by omega), st_ne1 (by omega)]) (hi w + 1 - lo w) 4096 (lo w) 0 _ (by omega) (by unfold hi; split <;> (try split) <;> omega) (Nat.le_refl _) hM1
            have cls : (if nI w = 0 then f_X6_who_119 (nI p) (nI w) (nI i) (nI n) (99 + 2 * r) (nI (pg S.2 p).1) (nI (pg S.2 p).2.1) (nI (pg S.2 p).2.2) 1 V else f_X6_who_119 (nI p) (nI w) (nI i) (nI n) (99 + 2 * r) (nI (pg S.2 p).1) (nI (pg S.2 p).2.1) (nI (pg S.2 p).2.2) 0 V) = (f_X3_become 35 4 V).bind fun q153 => f_X6_who_160 4096 (nI p) (nI w) (nI i) (nI n) (99 + 2 * r) (nI (pg S.2 p).1) (nI (pg S.2 p).2.1) (nI (pg S.2 p).2.2) (nI (hi w)) 0 (nI (lo w)) q153 := by
              unfold f_X6_who_119 f_X6_who_140
              rcases (show w = 0 ∨ w = 1 ∨ w = 2 by omega) with rfl | rfl | rfl
              · rw [if_pos (show nI 0 = (0 : Int32) from rfl), if_pos (show nI 0 = (0 : Int32) from rfl)]
                rfl
              · rw [if_neg (show ¬ nI 1 = (0 : Int32) by decide), if_neg (show ¬ nI 1 = (0 : Int32) by decide), if_pos (show nI 1 = (1 : Int32) from rfl)]
                rfl
              · rw [if_neg (show ¬ nI 2 = (0 : Int32) by decide), if_neg (show ¬ nI 2 = (0 : Int32) by decide), if_neg (show ¬ nI 2 = (1 : Int32) by decide)]
                rfl
            have mdl : (if nI w = 0 then f_X7_who_93 (nI p) (nI w) (nI r) (nI i) (nI n) 0 5 (st (st U 0 0 0) 0 1 0) else if nI w = 1 then f_X7_who_93 (nI p) (nI w) (nI r) (nI i) (nI n) 0 2 (st (st U 0 0 0) 0 1 0) else f_X7_who_93 (nI p) (nI w) (nI r) (nI i) (nI n) 0 20 (st (st U 0 0 0) 0 1 0)) = f_X7_who_106 4096 (nI p) (nI w) (nI r) (nI i) (nI n) 0 (nI (hi w)) (nI (lo w)) (st (st U 0 0 0) 0 1 0) := by
              unfold f_X7_who_93 f_X7_who_104
              rcases (show w = 0 ∨ w = 1 ∨ w = 2 by omega) with rfl | rfl | rfl
              · rw [if_pos (show nI 0 = (0 : Int32) from rfl), if_pos (show nI 0 = (0 : Int32) from rfl)]
                rfl
              · rw [if_neg (show ¬ nI 1 = (0 : Int32) by decide), if_neg (show ¬ nI 1 = (0 : Int32) by decide), if_pos (show nI 1 = (1 : Int32) from rfl)]
                rfl
              · rw [if_neg (show ¬ nI 2 = (0 : Int32) by decide), if_neg (show ¬ nI 2 = (0 : Int32) by decide), if_neg (show ¬ nI 2 = (1 : Int32) by decide), if_neg (show ¬ nI 2 = (0 : Int32) by decide)]
                rfl
            rw [cls, mdl, x1, Option.bind_some, y1, z1]
            refine ⟨_, _, rfl, rfl, rfl, ?_⟩
            dsimp only
            exact inv_xs h hSS y2.1 (qm_t.tr (qm_1.tr z2.1)) (by rw [z2.2.1, st_same]) (by rw [z2.2.2.1, st_ne2 (by omega), st_ne2 (by omega)])
        · rw [if_pos ((b01z _).mpr h3), if_pos ((b01z _).mpr h3)]
          exact ⟨_, _, rfl, rfl, rfl, inv_t h⟩
      · rw [if_pos ((b01z _).mpr h2), if_pos ((b01z _).mpr h2)]
        exact ⟨_, _, rfl, rfl, rfl, inv_t h⟩
    · rw [if_pos ((b01z _).mpr h1), if_pos ((b01z _).mpr h1)]
      exact ⟨_, _, rfl, rfl, rfl, inv_t h⟩
  · rw [has_no hX.1 (by omega) hk, par_no hM'.1 (by omega) hk, Option.bind_some, Option.bind_some, if_pos rfl, if_pos rfl]
    exact ⟨_, _, rfl, rfl, rfl, inv_t h⟩
end
section
/-! drawn. -/
def ed (T : Sh) (y : Nat) : Sh := if y % 2 = 0 ∧ T.2.length < 24 then insS T (y / 8 % T.2.length) (1 + y / 64 % 5, y / 512 % 3, y / 4096 % 21) else if 1 < T.2.length then rmvS T (y / 8 % T.2.length) else T
def nx (x : Nat) : Nat := x * 16807 % 2147483647
def drF : Nat → Sh → Nat → Sh
  | 0, T, _ => T
  | d + 1, T, x => drF d (ed T (nx x)) (nx x)
def res (T : Sh) (w : Int32) : Int32 := if w = 0 then nI T.2.length else nI (cnt T.2 T.2.length 0 + cnt T.2 T.2.length 1 + cnt T.2 T.2.length 2)
theorem ed_ok {T : Sh} {y : Nat} (hok : okS T) (h0 : 0 < T.2.length) : okS (ed T y) ∧ 0 < (ed T y).2.length := by
  have hm : y / 8 % T.2.length < T.2.length := Nat.mod_lt _ h0
  have h24 := hok.2.2.1
  unfold ed
  by_cases c : y % 2 = 0 ∧ T.2.length < 24
  · rw [if_pos c]
    refine ⟨ok_ins hok c.2 (by omega) ⟨by dsimp only; omega, by dsimp only; omega, by dsimp only; omega, by dsimp only; omega⟩, ?_⟩
    unfold insS
    rw [len_ins (by omega)]
    omega
  · rw [if_neg c]
    by_cases c1 : 1 < T.2.length
    · rw [if_pos c1]
      refine ⟨ok_rmv hok hm, ?_⟩
      unfold rmvS
      rw [len_rmv hm]
      omega
    · rw [if_neg c1]
      exact ⟨hok, h0⟩
theorem lmod {y d n : Nat} (hy : y < 2147483647) (hd : 0 < d) (hd2 : d < 2147483648) (hn : 0 < n) (hn2 : n < 2147483648) : (lN y / lN d - lN y / lN d / lN n * lN n).toInt32 = nI (y / d % n) := by
  have hq : y / d ≤ y := Nat.div_le_self y d
  rw [pk_lDiv (by omega) hd (by omega), pk_lRem (by omega) hn (by omega), lN_i]
theorem lnx {x : Nat} (hx : x < 2147483647) : lN x * (16807 : Int64) - lN x * (16807 : Int64) / (2147483647 : Int64) * (2147483647 : Int64) = lN (nx x) := by
  rw [show (16807 : Int64) = lN 16807 from rfl, show (2147483647 : Int64) = lN 2147483647 from rfl, lN_mul, pk_lRem (by omega) (by omega) (by omega)]
  rfl
theorem nx_lt {x : Nat} : nx x < 2147483647 := Nat.mod_lt _ (by omega)
theorem cmp0 {y : Nat} : (lg_cmp (lN (y % 2)) (0 : Int64) = 0) ↔ y % 2 = 0 := by
  rcases (show y % 2 = 0 ∨ y % 2 = 1 by omega) with h | h
  · rw [h]
    exact ⟨fun _ => rfl, fun _ => by decide⟩
  · rw [h]
    exact ⟨fun q => absurd q (by decide), fun q => absurd q (by decide)⟩
theorem edit_x {V0 V : Mem} {S T : Sh} {y : Nat} (hok : okS S) (hokT : okS T) (h0 : 0 < T.2.length) (hy : y < 2147483647) (hx : XT V0 V S T) : ∃ V', f_X3_editBy 35 (lN y) V = some V' ∧ XT V0 V' S (ed T y) := by
  have h24 := hokT.2.2.1
  have hm : y / 8 % T.2.length < T.2.length := Nat.mod_lt _ h0
  have e2 : lN y - lN y / (2 : Int64) * (2 : Int64) = lN (y % 2) := pk_lRem (b := 2) (by omega) (by omega) (by omega)
  have e8 : (lN y / (8 : Int64) - lN y / (8 : Int64) / lN T.2.length * lN T.2.length).toInt32 = nI (y / 8 % T.2.length) := lmod hy (d := 8) (by omega) (by omega) h0 (by omega)
  have e64 : (1 : Int32) + (lN y / (64 : Int64) - lN y / (64 : Int64) / (5 : Int64) * (5 : Int64)).toInt32 = nI (1 + y / 64 % 5) := by
    have := lmod hy (d := 64) (n := 5) (by omega) (by omega) (by omega) (by omega)
    have t : (lN y / (64 : Int64) - lN y / (64 : Int64) / (5 : Int64) * (5 : Int64)).toInt32 = nI (y / 64 % 5) := this
    rw [t, li, nad]
  have e512 : (lN y / (512 : Int64) - lN y / (512 : Int64) / (3 : Int64) * (3 : Int64)).toInt32 = nI (y / 512 % 3) := lmod hy (d := 512) (n := 3) (by omega) (by omega) (by omega) (by omega)
  have e4096 : (lN y / (4096 : Int64) - lN y / (4096 : Int64) / (21 : Int64) * (21 : Int64)).toInt32 = nI (y / 4096 % 21) := lmod hy (d := 4096) (n := 21) (by omega) (by omega) (by omega) (by omega)
  have el : (nI T.2.length).toInt64 = lN T.2.length := nI_l (by omega)
  obtain ⟨m, hmm⟩ := hx.2.2
  have e93 : ∃ V', f_X3_editBy_93 35 (nI (y / 8 % T.2.length)) V = some V' ∧ XT V0 V' S (if 1 < T.2.length then rmvS T (y / 8 % T.2.length) else T) := by
    unfold f_X3_editBy_93
    rw [hx.2.1.1]
    by_cases c : 1 < T.2.length
    · obtain ⟨V1, x1, x2, x3, x4⟩ := rmv_x hokT hx.2.1 hmm hm
      rw [if_neg (by rw [li, nle (by omega) (by omega)]; omega), if_pos c, x1, Option.bind_some]
      exact ⟨V1, rfl, xt_fx hok hx x4 x2 x3⟩
    · rw [if_pos (by rw [li, nle (by omega) (by omega)]; omega), if_neg c]
      exact ⟨V, rfl, hx⟩
  unfold f_X3_editBy
  rw [hx.2.1.1, if_pos (by rw [li, nle (by omega) (by omega)]; omega), el, if_neg (by rw [show (0 : Int64) = lN 0 from rfl, pk_lEQ (by omega) (by omega)]; omega), e2, e8, e64, e512, e4096]
  unfold ed
  by_cases c : y % 2 = 0
  · rw [if_pos (cmp0.mpr c)]
    by_cases c2 : T.2.length < 24
    · obtain ⟨V1, x1, x2, x3, x4⟩ := ins_x (q := (1 + y / 64 % 5, y / 512 % 3, y / 4096 % 21)) hokT hx.2.1 hmm (p := y / 8 % T.2.length) (by omega) c2 ⟨by dsimp only; omega, by dsimp only; omega, by dsimp only; omega, by dsimp only; omega⟩
      have x1' : f_X3_insert 35 (nI (y / 8 % T.2.length)) (nI (1 + y / 64 % 5)) (nI (y / 512 % 3)) (nI (y / 4096 % 21)) V = some V1 := x1
      rw [if_neg (by rw [li, nle (by omega) (by omega)]; omega), x1', Option.bind_some, if_pos ⟨c, c2⟩]
      exact ⟨V1, rfl, xt_fx hok hx x4 x2 x3⟩
    · rw [if_pos (by rw [li, nle (by omega) (by omega)]; omega), if_neg (fun q => c2 q.2)]
      exact e93
  · rw [if_neg (fun q => c (cmp0.mp q)), if_neg (fun q => c q.1)]
    exact e93
theorem dr_x {V0 : Mem} {S : Sh} {c : Nat} {w : Int32} (hok : okS S) (hc : c ≤ 60) : ∀ (d m k x : Nat) (T : Sh) (V : Mem), k + d = c → d < m → x < 2147483647 → okS T → 0 < T.2.length → XT V0 V S T → ∃ V' T', f_X6_drawn_64 m (nI c) w (lN x) (nI k) V = some (res (drF d T x) w, V') ∧ XT V0 V' S T' := by
  intro d
  induction d with
  | zero =>
    intro m k x T V hk hm hx hokT h0 hX
    obtain ⟨m, rfl⟩ : ∃ n', m = n' + 1 := ⟨m - 1, by omega⟩
    rw [f_X6_drawn_64, if_pos (by rw [nle (by omega) (by omega)]; omega), hX.2.1.1, drF, res]
    by_cases c0 : w = 0
    · rw [if_pos c0, if_pos c0]
      exact ⟨V, T, rfl, hX⟩
    · obtain ⟨V1, i1, i2, i3⟩ := last_x (Or.inr rfl) hokT hX.2.1 hX.2.2
      rw [if_neg c0, if_neg c0, i1, Option.bind_some]
      exact ⟨V1, T, rfl, xt_fs hok hX i2 i3⟩
  | succ d ih =>
    intro m k x T V hk hm hx hokT h0 hX
    obtain ⟨m, rfl⟩ : ∃ n', m = n' + 1 := ⟨m - 1, by omega⟩
    have e1 : nI k + 1 = nI (k + 1) := nI_1 k
    obtain ⟨V1, x1, x2⟩ := edit_x (y := nx x) hok hokT h0 nx_lt hX
    have ho := ed_ok (y := nx x) hokT h0
    rw [f_X6_drawn_64, if_neg (by rw [nle (by omega) (by omega)]; omega), lnx hx, x1, Option.bind_some, e1, drF]
    exact ih m (k + 1) (nx x) (ed T (nx x)) V1 (by omega) (by omega) nx_lt ho.1 ho.2 x2
theorem dr_m {U : Mem} {S : Sh} {c : Nat} {w : Int32} (hc : c ≤ 60) : ∀ (d m k x : Nat) (T : Sh) (M : Mem), k + d = c → d < m → x < 2147483647 → okS T → 0 < T.2.length → MT U M S T → ∃ M' T', f_X7_drawn_63 m (nI c) w (lN x) (nI k) M = some (res (drF d T x) w, M') ∧ MT U M' S T' := by
  intro d
  induction d with
  | zero =>
    intro m k x T M hk hm hx hokT h0 hX
    obtain ⟨m, rfl⟩ : ∃ n', m = n' + 1 := ⟨m - 1, by omega⟩
    have hX2 : MT U (mk M T.2 T.2.length) S T := mt_mk hX
    have e0 : mk M T.2 T.2.length 6 ((0 : Int32)).toNatClampNeg = nI T.2.length := hX2.2.1
    rw [f_X7_drawn_63, if_pos (by rw [nle (by omega) (by omega)]; omega), countAll_eq (by omega) hX.2 hokT, Option.bind_some, if_pos ib076, e0, drF, res, last_m (by omega) hokT hX.2, Option.bind_some]
    by_cases c0 : w = 0
    · rw [if_pos c0, if_pos c0]
      exact ⟨_, T, rfl, hX2⟩
    · rw [if_neg c0, if_neg c0]
      exact ⟨_, T, rfl, hX2⟩
  | succ d ih =>
    intro m k x T M hk hm hx hokT h0 hX
    obtain ⟨m, rfl⟩ : ∃ n', m = n' + 1 := ⟨m - 1, by omega⟩
    have e1 : nI k + 1 = nI (k + 1) := nI_1 k
    have ho := ed_ok (y := nx x) hokT h0
    have h24 := hokT.2.2.1
    have hy := nx_lt (x := x)
    have e0 : M 6 ((0 : Int32)).toNatClampNeg = nI T.2.length := hX.2.1
    have el : (nI T.2.length).toInt64 = lN T.2.length := nI_l (by omega)
    rw [f_X7_drawn_63, if_neg (by rw [nle (by omega) (by omega)]; omega), if_pos ib076, if_pos ib076, e0, el, if_neg (by rw [show (0 : Int64) = lN 0 from rfl, pk_lEQ (by omega) (by omega)]; omega), lnx hx, drF]
    unfold f_X7_drawn_167 f_X7_drawn_186
    rw [e0, if_pos ib076, e1]
    generalize nx x = y at *
    have hm' : y / 8 % T.2.length < T.2.length := Nat.mod_lt _ h0
    have e2 : lN y - lN y / (2 : Int64) * (2 : Int64) = lN (y % 2) := pk_lRem (b := 2) (by omega) (by omega) (by omega)
    have e8 : (lN y / (8 : Int64) - lN y / (8 : Int64) / lN T.2.length * lN T.2.length).toInt32 = nI (y / 8 % T.2.length) := lmod hy (d := 8) (by omega) (by omega) h0 (by omega)
    have e64 : (1 : Int32) + (lN y / (64 : Int64) - lN y / (64 : Int64) / (5 : Int64) * (5 : Int64)).toInt32 = nI (1 + y / 64 % 5) := by
      have := lmod hy (d := 64) (n := 5) (by omega) (by omega) (by omega) (by omega)
      have t : (lN y / (64 : Int64) - lN y / (64 : Int64) / (5 : Int64) * (5 : Int64)).toInt32 = nI (y / 64 % 5) := this
      rw [t, li, nad]
    have e512 : (lN y / (512 : Int64) - lN y / (512 : Int64) / (3 : Int64) * (3 : Int64)).toInt32 = nI (y / 512 % 3) := lmod hy (d := 512) (n := 3) (by omega) (by omega) (by omega) (by omega)
    have e4096 : (lN y / (4096 : Int64) - lN y / (4096 : Int64) / (21 : Int64) * (21 : Int64)).toInt32 = nI (y / 4096 % 21) := lmod hy (d := 4096) (n := 21) (by omega) (by omega) (by omega) (by omega)
    rw [e2, e8, e64, e512, e4096]
    have e93 : ∃ M1, (if nI T.2.length ≤ 1 then f_X7_drawn_63 m (nI c) w (lN y) (nI (k + 1)) M else (f_X7_takeOut 6 (nI (y / 8 % T.2.length)) M).bind fun q183 => f_X7_drawn_63 m (nI c) w (lN y) (nI (k + 1)) q183) = f_X7_drawn_63 m (nI c) w (lN y) (nI (k + 1)) M1 ∧ MT U M1 S (if 1 < T.2.length then rmvS T (y / 8 % T.2.length) else T) := by
      by_cases c : 1 < T.2.length
      · obtain ⟨g, t1, t2⟩ := takeOut_m (U := M) (r := 6) hX.2 h24 hm'
        rw [if_neg (by rw [li, nle (by omega) (by omega)]; omega), if_pos c, t1, Option.bind_some]
        exact ⟨_, rfl, mt_ms hX t2⟩
      · rw [if_pos (by rw [li, nle (by omega) (by omega)]; omega), if_neg c]
        exact ⟨M, rfl, hX⟩
    by_cases c : y % 2 = 0
    · rw [if_pos (cmp0.mpr c)]
      by_cases c2 : T.2.length < 24
      · obtain ⟨g, t1, t2⟩ := putAt_m (U := M) (r := 6) (q := (1 + y / 64 % 5, y / 512 % 3, y / 4096 % 21)) hX.2 c2 (show y / 8 % T.2.length ≤ T.2.length by omega)
        have t1' : f_X7_putAt 6 (nI (y / 8 % T.2.length)) (nI (1 + y / 64 % 5)) (nI (y / 512 % 3)) (nI (y / 4096 % 21)) M = some (ms M 6 g) := t1
        have ed' : ed T y = insS T (y / 8 % T.2.length) (1 + y / 64 % 5, y / 512 % 3, y / 4096 % 21) := by
          unfold ed
          rw [if_pos ⟨c, c2⟩]
        rw [if_neg (by rw [li, nle (by omega) (by omega)]; omega), t1', Option.bind_some]
        exact ih m (k + 1) y (ed T y) _ (by omega) (by omega) hy ho.1 ho.2 (by rw [ed']; exact mt_ms hX t2)
      · obtain ⟨M1, f1, f2⟩ := e93
        have ed' : ed T y = if 1 < T.2.length then rmvS T (y / 8 % T.2.length) else T := by
          unfold ed
          rw [if_neg (fun q => c2 q.2)]
        rw [if_pos (by rw [li, nle (by omega) (by omega)]; omega), f1]
        exact ih m (k + 1) y (ed T y) _ (by omega) (by omega) hy ho.1 ho.2 (by rw [ed']; exact f2)
    · obtain ⟨M1, f1, f2⟩ := e93
      have ed' : ed T y = if 1 < T.2.length then rmvS T (y / 8 % T.2.length) else T := by
        unfold ed
        rw [if_neg (fun q => c q.1)]
      rw [if_neg (fun q => c (cmp0.mp q)), f1]
      exact ih m (k + 1) y (ed T y) _ (by omega) (by omega) hy ho.1 ho.2 (by rw [ed']; exact f2)
theorem s_drawn : S_drawn Inv := by
  intro a b c V U h
  obtain ⟨S, A, hSS⟩ := h.2.2.2.2.1
  obtain ⟨hok, hX, hC, hM, -⟩ := id hSS
  have h24 := hok.2.2.1
  have hM' : ShM (st U 0 0 0 4) S := by rw [st_id (by omega)]; exact hM
  unfold f_X6_drawn f_X7_drawn
  rw [none_x hX.1 (by omega), there_m hM'.1 (by omega), Option.bind_some, Option.bind_some]
  by_cases hn : S.2.length = 0
  · rw [if_neg (fun q => ((b01z _).mp q) hn), if_pos ((b01z _).mpr (by omega))]
    exact ⟨_, _, rfl, rfl, rfl, inv_t h⟩
  · rw [if_pos ((b01z _).mpr hn), if_neg (fun q => ((b01z _).mp q) (by omega))]
    dsimp only
    rw [isBetween_eq, show (0 : Int64) = (0 : Int32).toInt64 from rfl, show (60 : Int64) = (60 : Int32).toInt64 from rfl, inw, Option.bind_some, Option.bind_some]
    by_cases h1 : 0 ≤ a ∧ a ≤ 60
    · rw [if_neg (fun q => ((b01z _).mp q) h1), if_neg (fun q => ((b01z _).mp q) h1)]
      dsimp only
      rw [isBetween_eq, show (1 : Int64) = (1 : Int32).toInt64 from rfl, show (999999 : Int64) = (999999 : Int32).toInt64 from rfl, inw, Option.bind_some, Option.bind_some]
      by_cases h2 : 1 ≤ b ∧ b ≤ 999999
      · rw [if_neg (fun q => ((b01z _).mp q) h2), if_neg (fun q => ((b01z _).mp q) h2)]
        dsimp only
        rw [isBetween_eq, inw, Option.bind_some, Option.bind_some]
        by_cases h3 : 0 ≤ c ∧ c ≤ 1
        · rw [if_neg (fun q => ((b01z _).mp q) h3), if_neg (fun q => ((b01z _).mp q) h3)]
          dsimp only
          obtain ⟨n, n1, rfl⟩ := btw (n := 60) (by omega) h1
          obtain ⟨x, q1, rfl⟩ := btw (n := 999999) (by omega) ⟨Int32.le_trans (by decide) h2.1, h2.2⟩
          have ex : (nI x).toInt64 = lN x := nI_l (by omega)
          obtain ⟨V1, x1, x2⟩ := xt_new hok (xq_rf h hSS)
          obtain ⟨V2, T2, y1, y2⟩ := dr_x (V0 := V) (w := c) hok n1 n 4096 0 x S V1 (by omega) (by omega) (by omega) hok (by omega) x2
          have y1' : f_X6_drawn_64 4096 (nI n) c (lN x) 0 V1 = _ := y1
          obtain ⟨M2, T3, z1, z2⟩ := dr_m (U := U) (w := c) n1 n 4096 0 x S _ (by omega) (by omega) (by omega) hok (by omega) (mt_lay h24 (mv_t hM))
          have z1' : f_X7_drawn_63 4096 (nI n) c (lN x) 0 (cp (st U 0 0 0) 4 6 0 0 76) = _ := z1
          rw [x1, Option.bind_some, ex, y1', layThen_m, Option.bind_some, z1']
          exact ⟨_, _, rfl, rfl, rfl, inv_xt h hSS y2 z2⟩
        · rw [if_pos ((b01z _).mpr h3), if_pos ((b01z _).mpr h3)]
          exact ⟨_, _, rfl, rfl, rfl, inv_t h⟩
      · rw [if_pos ((b01z _).mpr h2), if_pos ((b01z _).mpr h2)]
        exact ⟨_, _, rfl, rfl, rfl, inv_t h⟩
    · rw [if_pos ((b01z _).mpr h1), if_pos ((b01z _).mpr h1)]
      exact ⟨_, _, rfl, rfl, rfl, inv_t h⟩
end
section
/-! ask. -/
def AX (V0 V : Mem) (S : Sh) (L : List Nat) : Prop := (∀ a, (1 ≤ a ∧ a < 10 ∧ a ≠ 4) ∨ (35 ≤ a ∧ a ≠ 98) → V a = V0 a) ∧ (∀ k, k ≠ 6 → V 4 k = V0 4 k) ∧ (∀ k, k ≠ 11 → V 0 k = V0 0 k) ∧ ShX V 4 S ∧ CI V 4 S.2 ∧ V 0 11 = nI L.length ∧ ∀ j, j < L.length → V 98 j = nI (L.getD j 0)
def AM (U0 M : Mem) (S : Sh) (L : List Nat) : Prop := (∀ a, a ≠ 0 → a ≠ 16 → a < 9 ∨ 11 < a → M a = U0 a) ∧ (∀ k, k ≠ 0 → k ≠ 29 → M 0 k = U0 0 k) ∧ ShM (M 4) S ∧ (∀ k l, k < S.2.length → l < 3 → M 11 (3 * k + l) = nI (cnt S.2 (k + 1) l)) ∧ M 0 29 = nI L.length ∧ ∀ j, j < L.length → M 16 j = nI (L.getD j 0)
theorem getD_snoc {L : List Nat} {b j : Nat} : (L ++ [b]).getD j 0 = if j = L.length then b else L.getD j 0 := by
  simp only [List.getD_eq_getElem?_getD]
  by_cases c : j < L.length
  · rw [List.getElem?_append_left c, if_neg (by omega)]
  · rw [List.getElem?_append_right (by omega)]
    by_cases c2 : j = L.length
    · rw [if_pos c2, c2, Nat.sub_self]
      rfl
    · rw [if_neg c2, List.getElem?_eq_none (by simp; omega), List.getElem?_eq_none (by omega)]
theorem ax_trace {V0 V : Mem} {S : Sh} {L : List Nat} {b : Nat} (hok : okS S) (h : AX V0 V S L) (hL : L.length < 16) : ∃ V', f_X6_leaveTrace (nI b) V = some V' ∧ AX V0 V' S (L ++ [b]) := by
  obtain ⟨h1, h2, h3, h4, h5, h6, h7⟩ := h
  have h24 := hok.2.2.1
  unfold f_X6_leaveTrace
  rw [h6, if_neg (by rw [li, nle (by omega) (by omega)]; omega), if_pos (ibt (by omega) (by omega)), ncl (by omega), st_ne1 (show (0 : Nat) ≠ 98 by omega), h6, nI_1]
  refine ⟨_, rfl, fun a q => ?_, fun k q => ?_, fun k q => ?_, h4.cg ?_ (fun k q1 q2 => ?_), h5.cg h24 ?_ (fun k q => ?_), ?_, fun j hj => ?_⟩
  · rw [st_id (by omega), st_id (by omega)]; exact h1 a q
  · rw [st_ne1 (by omega), st_ne1 (by omega)]; exact h2 k q
  · rw [st_ne2 q, st_ne1 (by omega)]; exact h3 k q
  · rw [st_ne1 (by omega), st_ne1 (by omega)]
  · rw [st_id (by omega), st_id (by omega)]
  · rw [st_ne1 (by omega), st_ne1 (by omega)]
  · rw [st_id (by omega), st_id (by omega)]
  · rw [st_same, List.length_append]; rfl
  · rw [st_ne1 (by omega), st_at, getD_snoc]
    by_cases c : j = L.length
    · rw [if_pos ⟨rfl, c⟩, if_pos c]
    · rw [if_neg (fun q => c q.2), if_neg c]
      rw [List.length_append, List.length_singleton] at hj
      exact h7 j (by omega)
theorem am_trace {U0 M : Mem} {S : Sh} {L : List Nat} {b : Nat} (h : AM U0 M S L) (hL : L.length < 16) : ∃ M', f_X7_began (nI b) M = some M' ∧ AM U0 M' S (L ++ [b]) := by
  obtain ⟨h1, h2, h3, h4, h5, h6⟩ := h
  unfold f_X7_began
  rw [h5, if_neg (by rw [li, nle (by omega) (by omega)]; omega), if_pos (ibt (by omega) (by omega)), ncl (by omega), st_ne1 (show (0 : Nat) ≠ 16 by omega), h5, nI_1]
  refine ⟨_, rfl, fun a q1 q2 q3 => ?_, fun k q1 q2 => ?_, ?_, fun k l hk hl => ?_, ?_, fun j hj => ?_⟩
  · rw [st_id q1, st_id q2]; exact h1 a q1 q2 q3
  · rw [st_ne2 q2, st_ne1 (by omega)]; exact h2 k q1 q2
  · rw [st_id (by omega), st_id (by omega)]; exact h3
  · rw [st_ne1 (by omega), st_ne1 (by omega)]; exact h4 k l hk hl
  · rw [st_same, List.length_append]; rfl
  · rw [st_ne1 (by omega), st_at, getD_snoc]
    by_cases c : j = L.length
    · rw [if_pos ⟨rfl, c⟩, if_pos c]
    · rw [if_neg (fun q => c q.2), if_neg c]
      rw [List.length_append, List.length_singleton] at hj
      exact h6 j (by omega)
theorem ax_own {V0 V : Mem} {S : Sh} {L : List Nat} {k : Nat} (hok : okS S) (hk : k < S.2.length) (h : AX V0 V S L) : ∃ V', f_X3_ownCount 4 (nI k) V = some (nI (own S k), V') ∧ AX V0 V' S L := by
  obtain ⟨h1, h2, h3, h4, h5, h6, h7⟩ := h
  obtain ⟨V1, o1, o2, o3⟩ := own_x (Or.inl rfl) hok h4 h5 hk
  have fr : ∀ a, a < 4 ∨ 5 ≤ a ∧ a ≤ 9 ∨ 34 < a → V1 a = V a := fun a q => o2.1 a (by omega) (by omega)
  exact ⟨V1, o1, fun a q => by rw [fr a (by omega)]; exact h1 a q, fun k q => by rw [o2.2 k q]; exact h2 k q, fun k q => by rw [fr 0 (by omega)]; exact h3 k q, h4.fs o2, o3, by rw [fr 0 (by omega)]; exact h6, fun j hj => by rw [fr 98 (by omega)]; exact h7 j hj⟩
theorem am_own {U0 M : Mem} {S : Sh} {L : List Nat} {k : Nat} (hok : okS S) (hk : k < S.2.length) (h : AM U0 M S L) : f_X7_ownOf 4 (nI k) M = some (nI (own S k), M) := by
  have h24 := hok.2.2.1
  have hp := pg_ok hok.2.2.2 hk
  have hl := hp.2.2.1
  have e0 : f_X7_of 4 (nI k) 1 M = _ := of_eq (w := 1) h.2.2.1 hk h24 (by omega)
  have e1 : M 4 (4 + 3 * k + 1) = nI (pg S.2 k).2.1 := (h.2.2.1.2.2 k hk).2.1
  unfold f_X7_ownOf
  rw [e0, Option.bind_some, e1]
  have e2 : (3 : Int32) * nI k + nI (pg S.2 k).2.1 = nI (3 * k + (pg S.2 k).2.1) := by rw [li, pk_mul, nad]
  dsimp only
  rw [e2, if_pos (ibt (by omega) (by omega)), ncl (by omega), h.2.2.2.1 k _ hk (by omega)]
  rfl
theorem am_of {U0 M : Mem} {S : Sh} {L : List Nat} {k : Nat} (hok : okS S) (hk : k < S.2.length) (h : AM U0 M S L) : f_X7_of 4 (nI k) 0 M = some (nI (pg S.2 k).1, M) ∧ f_X7_of 4 (nI k) 2 M = some (nI (pg S.2 k).2.2, M) := by
  have h24 := hok.2.2.1
  have e0 : f_X7_of 4 (nI k) 0 M = _ := of_eq (w := 0) h.2.2.1 hk h24 (by omega)
  have e2 : f_X7_of 4 (nI k) 2 M = _ := of_eq (w := 2) h.2.2.1 hk h24 (by omega)
  have s := h.2.2.1.2.2 k hk
  rw [Nat.add_zero, s.1] at e0
  rw [s.2.2] at e2
  exact ⟨e0, e2⟩
theorem dep {e : Nat} (h : e ≤ 20) : nI e ≤ (20 : Int32) := by rw [li, nle (by omega) (by omega)]; omega
theorem o10_5 {V0 V : Mem} {S : Sh} {L : List Nat} {k e : Nat} (hok : okS S) (hk : k < S.2.length) (h : AX V0 V S L) (hL : L.length + 1 ≤ 16) (he : e + 10 ≤ 20) : ∃ V', f_X6_answerOf_L5 10 (nI k) (nI e) V = some (nI (pg S.2 k).2.2, V') ∧ AX V0 V' S (L ++ [10]) := by
  have h24 := hok.2.2.1
  obtain ⟨V1, t1, a1⟩ := ax_trace (b := 10) hok h (by omega)
  have t1' : f_X6_leaveTrace 10 V = some V1 := t1
  have e1 : nI e + 1 = nI (e + 1) := nI_1 e
  have l1 : (L ++ [10]).length = L.length + 1 := by rw [List.length_append]; rfl
  rw [f_X6_answerOf_L5, if_pos (dep (by omega)), t1', Option.bind_some, if_pos (show (10 : Int32) = 10 from rfl)]
  rw [if_pos (ibt (by omega) (by omega)), ncl (by omega)]
  refine ⟨V1, ?_, a1⟩
  have s : V1 8 k = _ := (a1.2.2.2.1.2.2 k hk).2.2
  rw [s]
theorem o20_4 {V0 V : Mem} {S : Sh} {L : List Nat} {k e : Nat} (hok : okS S) (hk : k < S.2.length) (h : AX V0 V S L) (hL : L.length + 1 ≤ 16) (he : e + 8 ≤ 20) : ∃ V', f_X6_answerOf_L4 20 (nI k) (nI e) V = some (nI k, V') ∧ AX V0 V' S (L ++ [20]) := by
  have h24 := hok.2.2.1
  obtain ⟨V1, t1, a1⟩ := ax_trace (b := 20) hok h (by omega)
  have t1' : f_X6_leaveTrace 20 V = some V1 := t1
  have e1 : nI e + 1 = nI (e + 1) := nI_1 e
  have l1 : (L ++ [20]).length = L.length + 1 := by rw [List.length_append]; rfl
  rw [f_X6_answerOf_L4, if_pos (dep (by omega)), t1', Option.bind_some, if_neg (show ¬ (20 : Int32) = 10 by decide), if_neg (show ¬ (20 : Int32) = 11 by decide), if_neg (show ¬ (20 : Int32) = 12 by decide), if_neg (show ¬ (20 : Int32) = 13 by decide), if_neg (show ¬ (20 : Int32) = 14 by decide), if_neg (show ¬ (20 : Int32) = 15 by decide), if_neg (show ¬ (20 : Int32) = 16 by decide), if_neg (show ¬ (20 : Int32) = 17 by decide), if_neg (show ¬ (20 : Int32) = 18 by decide), if_neg (show ¬ (20 : Int32) = 19 by decide), if_pos (show (20 : Int32) = 20 from rfl)]
  exact ⟨V1, rfl, a1⟩
theorem o21_5 {V0 V : Mem} {S : Sh} {L : List Nat} {k e : Nat} (hok : okS S) (hk : k < S.2.length) (h : AX V0 V S L) (hL : L.length + 2 ≤ 16) (he : e + 10 ≤ 20) : ∃ V', f_X6_answerOf_L5 21 (nI k) (nI e) V = some ((nI k + nI (own S k)), V') ∧ AX V0 V' S ((L ++ [21]) ++ [20]) := by
  have h24 := hok.2.2.1
  obtain ⟨V1, t1, a1⟩ := ax_trace (b := 21) hok h (by omega)
  have t1' : f_X6_leaveTrace 21 V = some V1 := t1
  have e1 : nI e + 1 = nI (e + 1) := nI_1 e
  have l1 : (L ++ [21]).length = L.length + 1 := by rw [List.length_append]; rfl
  rw [f_X6_answerOf_L5, if_pos (dep (by omega)), t1', Option.bind_some, if_neg (show ¬ (21 : Int32) = 10 by decide), if_neg (show ¬ (21 : Int32) = 11 by decide), if_neg (show ¬ (21 : Int32) = 12 by decide), if_neg (show ¬ (21 : Int32) = 13 by decide), if_neg (show ¬ (21 : Int32) = 14 by decide), if_neg (show ¬ (21 : Int32) = 15 by decide), if_neg (show ¬ (21 : Int32) = 16 by decide), if_neg (show ¬ (21 : Int32) = 17 by decide), if_neg (show ¬ (21 : Int32) = 18 by decide), if_neg (show ¬ (21 : Int32) = 19 by decide), if_neg (show ¬ (21 : Int32) = 20 by decide), if_pos (show (21 : Int32) = 21 from rfl)]
  obtain ⟨V2, x1, x2⟩ := o20_4 (e := e + 1) hok hk a1 (by omega) (by omega)
  rw [e1, x1, Option.bind_some]
  obtain ⟨V3, y1, y2⟩ := ax_own hok hk x2
  dsimp only
  rw [y1, Option.bind_some]
  exact ⟨V3, rfl, y2⟩
theorem tm_5_1 {V0 V : Mem} {S : Sh} {L : List Nat} {k e : Nat} (hok : okS S) (hk : k < S.2.length) (h : AX V0 V S L) (hd : (pg S.2 k).1 = 1) (hL : L.length + 2 ≤ 16) (he : e + 1 + 10 ≤ 20) : ∃ V', f_X6_answerTo_L5 1 (nI k) (nI e) V = some ((nI k + nI (own S k)), V') ∧ AX V0 V' S ((L ++ [21]) ++ [20]) := by
  have h24 := hok.2.2.1
  have e1 : nI e + 1 = nI (e + 1) := nI_1 e
  have s : V 6 k = nI 1 := by rw [← hd]; exact (h.2.2.2.1.2.2 k hk).1
  obtain ⟨V2, x1, x2⟩ := o21_5 (e := e + 1) hok hk h (by omega) (by omega)
  refine ⟨V2, ?_, x2⟩
  have w : ∀ n, f_X6_answerTo_L5_29_t3 (n + 2) (nI k) (nI e) (nI 1) 0 V = some ((nI k + nI (own S k)), V2) := by
    intro n
    rw [f_X6_answerTo_L5_29_t3, if_neg (by decide), if_neg (by decide), if_pos (by decide)]
    rw [if_neg (by decide), f_X6_answerTo_L5_63_t3, if_pos (by decide)]
    have q : f_X6_answerOf_L5 (tba 3 (Int32.toNatClampNeg (nI 1))) (nI k) (nI e + 1) V = some ((nI k + nI (own S k)), V2) := by
      rw [e1]
      exact x1
    rw [q, Option.bind_some]
  rw [f_X6_answerTo_L5, if_neg (show ¬ (1 : Int32) = 0 by decide), f_X6_answerTo_L5_13_u3, if_pos (ibt (by omega) (by omega)), ncl (by omega), s]
  exact w 4094
theorem o11_6_1 {V0 V : Mem} {S : Sh} {L : List Nat} {k e : Nat} (hok : okS S) (hk : k < S.2.length) (h : AX V0 V S L) (hd : (pg S.2 k).1 = 1) (hL : L.length + 4 ≤ 16) (he : e + 12 ≤ 20) : ∃ V', f_X6_answerOf_L6 11 (nI k) (nI e) V = some ((nI (pg S.2 k).2.2 + (nI k + nI (own S k))), V') ∧ AX V0 V' S ((((L ++ [11]) ++ [10]) ++ [21]) ++ [20]) := by
  have h24 := hok.2.2.1
  obtain ⟨V1, t1, a1⟩ := ax_trace (b := 11) hok h (by omega)
  have t1' : f_X6_leaveTrace 11 V = some V1 := t1
  have e1 : nI e + 1 = nI (e + 1) := nI_1 e
  have l1 : (L ++ [11]).length = L.length + 1 := by rw [List.length_append]; rfl
  rw [f_X6_answerOf_L6, if_pos (dep (by omega)), t1', Option.bind_some, if_neg (show ¬ (11 : Int32) = 10 by decide), if_pos (show (11 : Int32) = 11 from rfl)]
  obtain ⟨V2, x1, x2⟩ := o10_5 (e := e + 1) hok hk a1 (by omega) (by omega)
  have l2 : (L ++ [11] ++ [10]).length = L.length + 2 := by rw [List.length_append, l1]; rfl
  obtain ⟨V3, y1, y2⟩ := tm_5_1 (e := e + 1) hok hk x2 hd (by omega) (by omega)
  rw [e1, x1, Option.bind_some]
  dsimp only
  rw [y1, Option.bind_some]
  exact ⟨V3, rfl, y2⟩
theorem zs_1 {V0 V : Mem} {S : Sh} {L : List Nat} {k e : Nat} (hok : okS S) (hk : k < S.2.length) (h : AX V0 V S L)(hd : (pg S.2 k).1 = 1) (hL : L.length + 4 ≤ 16) (he : e + 1 + 12 ≤ 20) : ∃ V', f_X6_answerTo_L6 0 (nI k) (nI e) V = some ((nI (pg S.2 k).2.2 + (nI k + nI (own S k))), V') ∧ AX V0 V' S ((((L ++ [11]) ++ [10]) ++ [21]) ++ [20]) := by
  have h24 := hok.2.2.1
  have e1 : nI e + 1 = nI (e + 1) := nI_1 e
  have s : V 6 k = nI 1 := by rw [← hd]; exact (h.2.2.2.1.2.2 k hk).1
  obtain ⟨V2, x1, x2⟩ := o11_6_1 (e := e + 1) hok hk h hd (by omega) (by omega)
  refine ⟨V2, ?_, x2⟩
  have w : ∀ n, f_X6_answerTo_L6_29_t2 (n + 2) (nI k) (nI e) (nI 1) 0 V = some ((nI (pg S.2 k).2.2 + (nI k + nI (own S k))), V2) := by
    intro n
    rw [f_X6_answerTo_L6_29_t2, if_neg (by decide), if_neg (by decide), if_pos (by decide)]
    rw [if_neg (by decide), f_X6_answerTo_L6_63_t2, if_pos (by decide)]
    have q : f_X6_answerOf_L6 (tba 2 (Int32.toNatClampNeg (nI 1))) (nI k) (nI e + 1) V = some ((nI (pg S.2 k).2.2 + (nI k + nI (own S k))), V2) := by
      rw [e1]
      exact x1
    rw [q, Option.bind_some]
  rw [f_X6_answerTo_L6, if_pos (show (0 : Int32) = 0 from rfl), f_X6_answerTo_L6_13_u2, if_pos (ibt (by omega) (by omega)), ncl (by omega), s]
  exact w 4094
theorem o20_3 {V0 V : Mem} {S : Sh} {L : List Nat} {k e : Nat} (hok : okS S) (hk : k < S.2.length) (h : AX V0 V S L) (hL : L.length + 1 ≤ 16) (he : e + 6 ≤ 20) : ∃ V', f_X6_answerOf_L3 20 (nI k) (nI e) V = some (nI k, V') ∧ AX V0 V' S (L ++ [20]) := by
  have h24 := hok.2.2.1
  obtain ⟨V1, t1, a1⟩ := ax_trace (b := 20) hok h (by omega)
  have t1' : f_X6_leaveTrace 20 V = some V1 := t1
  have e1 : nI e + 1 = nI (e + 1) := nI_1 e
  have l1 : (L ++ [20]).length = L.length + 1 := by rw [List.length_append]; rfl
  rw [f_X6_answerOf_L3, if_pos (dep (by omega)), t1', Option.bind_some, if_neg (show ¬ (20 : Int32) = 10 by decide), if_neg (show ¬ (20 : Int32) = 11 by decide), if_neg (show ¬ (20 : Int32) = 12 by decide), if_neg (show ¬ (20 : Int32) = 13 by decide), if_neg (show ¬ (20 : Int32) = 14 by decide), if_neg (show ¬ (20 : Int32) = 15 by decide), if_neg (show ¬ (20 : Int32) = 16 by decide), if_neg (show ¬ (20 : Int32) = 17 by decide), if_neg (show ¬ (20 : Int32) = 18 by decide), if_neg (show ¬ (20 : Int32) = 19 by decide), if_pos (show (20 : Int32) = 20 from rfl)]
  exact ⟨V1, rfl, a1⟩
theorem o21_4 {V0 V : Mem} {S : Sh} {L : List Nat} {k e : Nat} (hok : okS S) (hk : k < S.2.length) (h : AX V0 V S L) (hL : L.length + 2 ≤ 16) (he : e + 8 ≤ 20) : ∃ V', f_X6_answerOf_L4 21 (nI k) (nI e) V = some ((nI k + nI (own S k)), V') ∧ AX V0 V' S ((L ++ [21]) ++ [20]) := by
  have h24 := hok.2.2.1
  obtain ⟨V1, t1, a1⟩ := ax_trace (b := 21) hok h (by omega)
  have t1' : f_X6_leaveTrace 21 V = some V1 := t1
  have e1 : nI e + 1 = nI (e + 1) := nI_1 e
  have l1 : (L ++ [21]).length = L.length + 1 := by rw [List.length_append]; rfl
  rw [f_X6_answerOf_L4, if_pos (dep (by omega)), t1', Option.bind_some, if_neg (show ¬ (21 : Int32) = 10 by decide), if_neg (show ¬ (21 : Int32) = 11 by decide), if_neg (show ¬ (21 : Int32) = 12 by decide), if_neg (show ¬ (21 : Int32) = 13 by decide), if_neg (show ¬ (21 : Int32) = 14 by decide), if_neg (show ¬ (21 : Int32) = 15 by decide), if_neg (show ¬ (21 : Int32) = 16 by decide), if_neg (show ¬ (21 : Int32) = 17 by decide), if_neg (show ¬ (21 : Int32) = 18 by decide), if_neg (show ¬ (21 : Int32) = 19 by decide), if_neg (show ¬ (21 : Int32) = 20 by decide), if_pos (show (21 : Int32) = 21 from rfl)]
  obtain ⟨V2, x1, x2⟩ := o20_3 (e := e + 1) hok hk a1 (by omega) (by omega)
  rw [e1, x1, Option.bind_some]
  obtain ⟨V3, y1, y2⟩ := ax_own hok hk x2
  dsimp only
  rw [y1, Option.bind_some]
  exact ⟨V3, rfl, y2⟩
theorem o22_5 {V0 V : Mem} {S : Sh} {L : List Nat} {k e : Nat} (hok : okS S) (hk : k < S.2.length) (h : AX V0 V S L) (hL : L.length + 3 ≤ 16) (he : e + 10 ≤ 20) : ∃ V', f_X6_answerOf_L5 22 (nI k) (nI e) V = some ((nI k + nI (own S k) - 1000), V') ∧ AX V0 V' S (((L ++ [22]) ++ [21]) ++ [20]) := by
  have h24 := hok.2.2.1
  obtain ⟨V1, t1, a1⟩ := ax_trace (b := 22) hok h (by omega)
  have t1' : f_X6_leaveTrace 22 V = some V1 := t1
  have e1 : nI e + 1 = nI (e + 1) := nI_1 e
  have l1 : (L ++ [22]).length = L.length + 1 := by rw [List.length_append]; rfl
  rw [f_X6_answerOf_L5, if_pos (dep (by omega)), t1', Option.bind_some, if_neg (show ¬ (22 : Int32) = 10 by decide), if_neg (show ¬ (22 : Int32) = 11 by decide), if_neg (show ¬ (22 : Int32) = 12 by decide), if_neg (show ¬ (22 : Int32) = 13 by decide), if_neg (show ¬ (22 : Int32) = 14 by decide), if_neg (show ¬ (22 : Int32) = 15 by decide), if_neg (show ¬ (22 : Int32) = 16 by decide), if_neg (show ¬ (22 : Int32) = 17 by decide), if_neg (show ¬ (22 : Int32) = 18 by decide), if_neg (show ¬ (22 : Int32) = 19 by decide), if_neg (show ¬ (22 : Int32) = 20 by decide), if_neg (show ¬ (22 : Int32) = 21 by decide), if_pos (show (22 : Int32) = 22 from rfl)]
  obtain ⟨V2, x1, x2⟩ := o21_4 (e := e + 1) hok hk a1 (by omega) (by omega)
  rw [e1, x1, Option.bind_some]
  exact ⟨V2, rfl, x2⟩
theorem tm_5_3 {V0 V : Mem} {S : Sh} {L : List Nat} {k e : Nat} (hok : okS S) (hk : k < S.2.length) (h : AX V0 V S L) (hd : (pg S.2 k).1 = 3) (hL : L.length + 3 ≤ 16) (he : e + 1 + 10 ≤ 20) : ∃ V', f_X6_answerTo_L5 1 (nI k) (nI e) V = some ((nI k + nI (own S k) - 1000), V') ∧ AX V0 V' S (((L ++ [22]) ++ [21]) ++ [20]) := by
  have h24 := hok.2.2.1
  have e1 : nI e + 1 = nI (e + 1) := nI_1 e
  have s : V 6 k = nI 3 := by rw [← hd]; exact (h.2.2.2.1.2.2 k hk).1
  obtain ⟨V2, x1, x2⟩ := o22_5 (e := e + 1) hok hk h (by omega) (by omega)
  refine ⟨V2, ?_, x2⟩
  have w : ∀ n, f_X6_answerTo_L5_29_t3 (n + 2) (nI k) (nI e) (nI 3) 0 V = some ((nI k + nI (own S k) - 1000), V2) := by
    intro n
    rw [f_X6_answerTo_L5_29_t3, if_neg (by decide), if_neg (by decide), if_pos (by decide)]
    rw [if_neg (by decide), f_X6_answerTo_L5_63_t3, if_pos (by decide)]
    have q : f_X6_answerOf_L5 (tba 3 (Int32.toNatClampNeg (nI 3))) (nI k) (nI e + 1) V = some ((nI k + nI (own S k) - 1000), V2) := by
      rw [e1]
      exact x1
    rw [q, Option.bind_some]
  rw [f_X6_answerTo_L5, if_neg (show ¬ (1 : Int32) = 0 by decide), f_X6_answerTo_L5_13_u3, if_pos (ibt (by omega) (by omega)), ncl (by omega), s]
  exact w 4094
theorem o11_6_3 {V0 V : Mem} {S : Sh} {L : List Nat} {k e : Nat} (hok : okS S) (hk : k < S.2.length) (h : AX V0 V S L) (hd : (pg S.2 k).1 = 3) (hL : L.length + 5 ≤ 16) (he : e + 12 ≤ 20) : ∃ V', f_X6_answerOf_L6 11 (nI k) (nI e) V = some ((nI (pg S.2 k).2.2 + (nI k + nI (own S k) - 1000)), V') ∧ AX V0 V' S (((((L ++ [11]) ++ [10]) ++ [22]) ++ [21]) ++ [20]) := by
  have h24 := hok.2.2.1
  obtain ⟨V1, t1, a1⟩ := ax_trace (b := 11) hok h (by omega)
  have t1' : f_X6_leaveTrace 11 V = some V1 := t1
  have e1 : nI e + 1 = nI (e + 1) := nI_1 e
  have l1 : (L ++ [11]).length = L.length + 1 := by rw [List.length_append]; rfl
  rw [f_X6_answerOf_L6, if_pos (dep (by omega)), t1', Option.bind_some, if_neg (show ¬ (11 : Int32) = 10 by decide), if_pos (show (11 : Int32) = 11 from rfl)]
  obtain ⟨V2, x1, x2⟩ := o10_5 (e := e + 1) hok hk a1 (by omega) (by omega)
  have l2 : (L ++ [11] ++ [10]).length = L.length + 2 := by rw [List.length_append, l1]; rfl
  obtain ⟨V3, y1, y2⟩ := tm_5_3 (e := e + 1) hok hk x2 hd (by omega) (by omega)
  rw [e1, x1, Option.bind_some]
  dsimp only
  rw [y1, Option.bind_some]
  exact ⟨V3, rfl, y2⟩
theorem zs_3 {V0 V : Mem} {S : Sh} {L : List Nat} {k e : Nat} (hok : okS S) (hk : k < S.2.length) (h : AX V0 V S L)(hd : (pg S.2 k).1 = 3) (hL : L.length + 5 ≤ 16) (he : e + 1 + 12 ≤ 20) : ∃ V', f_X6_answerTo_L6 0 (nI k) (nI e) V = some ((nI (pg S.2 k).2.2 + (nI k + nI (own S k) - 1000)), V') ∧ AX V0 V' S (((((L ++ [11]) ++ [10]) ++ [22]) ++ [21]) ++ [20]) := by
  have h24 := hok.2.2.1
  have e1 : nI e + 1 = nI (e + 1) := nI_1 e
  have s : V 6 k = nI 3 := by rw [← hd]; exact (h.2.2.2.1.2.2 k hk).1
  obtain ⟨V2, x1, x2⟩ := o11_6_3 (e := e + 1) hok hk h hd (by omega) (by omega)
  refine ⟨V2, ?_, x2⟩
  have w : ∀ n, f_X6_answerTo_L6_29_t2 (n + 2) (nI k) (nI e) (nI 3) 0 V = some ((nI (pg S.2 k).2.2 + (nI k + nI (own S k) - 1000)), V2) := by
    intro n
    rw [f_X6_answerTo_L6_29_t2, if_neg (by decide), if_neg (by decide), if_pos (by decide)]
    rw [if_pos (by decide), if_pos (by decide)]
    rw [f_X6_answerTo_L6_29_t2, if_neg (by decide), if_neg (by decide), if_pos (by decide)]
    rw [if_neg (by decide), f_X6_answerTo_L6_63_t2, if_pos (by decide)]
    have q : f_X6_answerOf_L6 (tba 2 (Int32.toNatClampNeg (tba 0 (nI 3).toNatClampNeg))) (nI k) (nI e + 1) V = some ((nI (pg S.2 k).2.2 + (nI k + nI (own S k) - 1000)), V2) := by
      rw [e1]
      exact x1
    rw [q, Option.bind_some]
  rw [f_X6_answerTo_L6, if_pos (show (0 : Int32) = 0 from rfl), f_X6_answerTo_L6_13_u2, if_pos (ibt (by omega) (by omega)), ncl (by omega), s]
  exact w 4094
theorem o10_4 {V0 V : Mem} {S : Sh} {L : List Nat} {k e : Nat} (hok : okS S) (hk : k < S.2.length) (h : AX V0 V S L) (hL : L.length + 1 ≤ 16) (he : e + 8 ≤ 20) : ∃ V', f_X6_answerOf_L4 10 (nI k) (nI e) V = some (nI (pg S.2 k).2.2, V') ∧ AX V0 V' S (L ++ [10]) := by
  have h24 := hok.2.2.1
  obtain ⟨V1, t1, a1⟩ := ax_trace (b := 10) hok h (by omega)
  have t1' : f_X6_leaveTrace 10 V = some V1 := t1
  have e1 : nI e + 1 = nI (e + 1) := nI_1 e
  have l1 : (L ++ [10]).length = L.length + 1 := by rw [List.length_append]; rfl
  rw [f_X6_answerOf_L4, if_pos (dep (by omega)), t1', Option.bind_some, if_pos (show (10 : Int32) = 10 from rfl)]
  rw [if_pos (ibt (by omega) (by omega)), ncl (by omega)]
  refine ⟨V1, ?_, a1⟩
  have s : V1 8 k = _ := (a1.2.2.2.1.2.2 k hk).2.2
  rw [s]
theorem o20_2 {V0 V : Mem} {S : Sh} {L : List Nat} {k e : Nat} (hok : okS S) (hk : k < S.2.length) (h : AX V0 V S L) (hL : L.length + 1 ≤ 16) (he : e + 4 ≤ 20) : ∃ V', f_X6_answerOf_L2 20 (nI k) (nI e) V = some (nI k, V') ∧ AX V0 V' S (L ++ [20]) := by
  have h24 := hok.2.2.1
  obtain ⟨V1, t1, a1⟩ := ax_trace (b := 20) hok h (by omega)
  have t1' : f_X6_leaveTrace 20 V = some V1 := t1
  have e1 : nI e + 1 = nI (e + 1) := nI_1 e
  have l1 : (L ++ [20]).length = L.length + 1 := by rw [List.length_append]; rfl
  rw [f_X6_answerOf_L2, if_pos (dep (by omega)), t1', Option.bind_some, if_neg (show ¬ (20 : Int32) = 10 by decide), if_neg (show ¬ (20 : Int32) = 11 by decide), if_neg (show ¬ (20 : Int32) = 12 by decide), if_neg (show ¬ (20 : Int32) = 13 by decide), if_neg (show ¬ (20 : Int32) = 14 by decide), if_neg (show ¬ (20 : Int32) = 15 by decide), if_neg (show ¬ (20 : Int32) = 16 by decide), if_neg (show ¬ (20 : Int32) = 17 by decide), if_neg (show ¬ (20 : Int32) = 18 by decide), if_neg (show ¬ (20 : Int32) = 19 by decide), if_pos (show (20 : Int32) = 20 from rfl)]
  exact ⟨V1, rfl, a1⟩
theorem o21_3 {V0 V : Mem} {S : Sh} {L : List Nat} {k e : Nat} (hok : okS S) (hk : k < S.2.length) (h : AX V0 V S L) (hL : L.length + 2 ≤ 16) (he : e + 6 ≤ 20) : ∃ V', f_X6_answerOf_L3 21 (nI k) (nI e) V = some ((nI k + nI (own S k)), V') ∧ AX V0 V' S ((L ++ [21]) ++ [20]) := by
  have h24 := hok.2.2.1
  obtain ⟨V1, t1, a1⟩ := ax_trace (b := 21) hok h (by omega)
  have t1' : f_X6_leaveTrace 21 V = some V1 := t1
  have e1 : nI e + 1 = nI (e + 1) := nI_1 e
  have l1 : (L ++ [21]).length = L.length + 1 := by rw [List.length_append]; rfl
  rw [f_X6_answerOf_L3, if_pos (dep (by omega)), t1', Option.bind_some, if_neg (show ¬ (21 : Int32) = 10 by decide), if_neg (show ¬ (21 : Int32) = 11 by decide), if_neg (show ¬ (21 : Int32) = 12 by decide), if_neg (show ¬ (21 : Int32) = 13 by decide), if_neg (show ¬ (21 : Int32) = 14 by decide), if_neg (show ¬ (21 : Int32) = 15 by decide), if_neg (show ¬ (21 : Int32) = 16 by decide), if_neg (show ¬ (21 : Int32) = 17 by decide), if_neg (show ¬ (21 : Int32) = 18 by decide), if_neg (show ¬ (21 : Int32) = 19 by decide), if_neg (show ¬ (21 : Int32) = 20 by decide), if_pos (show (21 : Int32) = 21 from rfl)]
  obtain ⟨V2, x1, x2⟩ := o20_2 (e := e + 1) hok hk a1 (by omega) (by omega)
  rw [e1, x1, Option.bind_some]
  obtain ⟨V3, y1, y2⟩ := ax_own hok hk x2
  dsimp only
  rw [y1, Option.bind_some]
  exact ⟨V3, rfl, y2⟩
theorem o24_4 {V0 V : Mem} {S : Sh} {L : List Nat} {k e : Nat} (hok : okS S) (hk : k < S.2.length) (h : AX V0 V S L) (hL : L.length + 3 ≤ 16) (he : e + 8 ≤ 20) : ∃ V', f_X6_answerOf_L4 24 (nI k) (nI e) V = some ((2 * (nI k + nI (own S k))), V') ∧ AX V0 V' S (((L ++ [24]) ++ [21]) ++ [20]) := by
  have h24 := hok.2.2.1
  obtain ⟨V1, t1, a1⟩ := ax_trace (b := 24) hok h (by omega)
  have t1' : f_X6_leaveTrace 24 V = some V1 := t1
  have e1 : nI e + 1 = nI (e + 1) := nI_1 e
  have l1 : (L ++ [24]).length = L.length + 1 := by rw [List.length_append]; rfl
  rw [f_X6_answerOf_L4, if_pos (dep (by omega)), t1', Option.bind_some, if_neg (show ¬ (24 : Int32) = 10 by decide), if_neg (show ¬ (24 : Int32) = 11 by decide), if_neg (show ¬ (24 : Int32) = 12 by decide), if_neg (show ¬ (24 : Int32) = 13 by decide), if_neg (show ¬ (24 : Int32) = 14 by decide), if_neg (show ¬ (24 : Int32) = 15 by decide), if_neg (show ¬ (24 : Int32) = 16 by decide), if_neg (show ¬ (24 : Int32) = 17 by decide), if_neg (show ¬ (24 : Int32) = 18 by decide), if_neg (show ¬ (24 : Int32) = 19 by decide), if_neg (show ¬ (24 : Int32) = 20 by decide), if_neg (show ¬ (24 : Int32) = 21 by decide), if_neg (show ¬ (24 : Int32) = 22 by decide), if_neg (show ¬ (24 : Int32) = 23 by decide), if_pos (show (24 : Int32) = 24 from rfl)]
  obtain ⟨V2, x1, x2⟩ := o21_3 (e := e + 1) hok hk a1 (by omega) (by omega)
  rw [e1, x1, Option.bind_some]
  exact ⟨V2, rfl, x2⟩
theorem tm_4_2 {V0 V : Mem} {S : Sh} {L : List Nat} {k e : Nat} (hok : okS S) (hk : k < S.2.length) (h : AX V0 V S L) (hd : (pg S.2 k).1 = 2) (hL : L.length + 3 ≤ 16) (he : e + 1 + 8 ≤ 20) : ∃ V', f_X6_answerTo_L4 1 (nI k) (nI e) V = some ((2 * (nI k + nI (own S k))), V') ∧ AX V0 V' S (((L ++ [24]) ++ [21]) ++ [20]) := by
  have h24 := hok.2.2.1
  have e1 : nI e + 1 = nI (e + 1) := nI_1 e
  have s : V 6 k = nI 2 := by rw [← hd]; exact (h.2.2.2.1.2.2 k hk).1
  obtain ⟨V2, x1, x2⟩ := o24_4 (e := e + 1) hok hk h (by omega) (by omega)
  refine ⟨V2, ?_, x2⟩
  have w : ∀ n, f_X6_answerTo_L4_29_t3 (n + 2) (nI k) (nI e) (nI 2) 0 V = some ((2 * (nI k + nI (own S k))), V2) := by
    intro n
    rw [f_X6_answerTo_L4_29_t3, if_neg (by decide), if_neg (by decide), if_pos (by decide)]
    rw [if_neg (by decide), f_X6_answerTo_L4_63_t3, if_pos (by decide)]
    have q : f_X6_answerOf_L4 (tba 3 (Int32.toNatClampNeg (nI 2))) (nI k) (nI e + 1) V = some ((2 * (nI k + nI (own S k))), V2) := by
      rw [e1]
      exact x1
    rw [q, Option.bind_some]
  rw [f_X6_answerTo_L4, if_neg (show ¬ (1 : Int32) = 0 by decide), f_X6_answerTo_L4_13_u3, if_pos (ibt (by omega) (by omega)), ncl (by omega), s]
  exact w 4094
theorem o11_5_2 {V0 V : Mem} {S : Sh} {L : List Nat} {k e : Nat} (hok : okS S) (hk : k < S.2.length) (h : AX V0 V S L) (hd : (pg S.2 k).1 = 2) (hL : L.length + 5 ≤ 16) (he : e + 10 ≤ 20) : ∃ V', f_X6_answerOf_L5 11 (nI k) (nI e) V = some ((nI (pg S.2 k).2.2 + (2 * (nI k + nI (own S k)))), V') ∧ AX V0 V' S (((((L ++ [11]) ++ [10]) ++ [24]) ++ [21]) ++ [20]) := by
  have h24 := hok.2.2.1
  obtain ⟨V1, t1, a1⟩ := ax_trace (b := 11) hok h (by omega)
  have t1' : f_X6_leaveTrace 11 V = some V1 := t1
  have e1 : nI e + 1 = nI (e + 1) := nI_1 e
  have l1 : (L ++ [11]).length = L.length + 1 := by rw [List.length_append]; rfl
  rw [f_X6_answerOf_L5, if_pos (dep (by omega)), t1', Option.bind_some, if_neg (show ¬ (11 : Int32) = 10 by decide), if_pos (show (11 : Int32) = 11 from rfl)]
  obtain ⟨V2, x1, x2⟩ := o10_4 (e := e + 1) hok hk a1 (by omega) (by omega)
  have l2 : (L ++ [11] ++ [10]).length = L.length + 2 := by rw [List.length_append, l1]; rfl
  obtain ⟨V3, y1, y2⟩ := tm_4_2 (e := e + 1) hok hk x2 hd (by omega) (by omega)
  rw [e1, x1, Option.bind_some]
  dsimp only
  rw [y1, Option.bind_some]
  exact ⟨V3, rfl, y2⟩
theorem o12_6 {V0 V : Mem} {S : Sh} {L : List Nat} {k e : Nat} (hok : okS S) (hk : k < S.2.length) (h : AX V0 V S L) (hd : (pg S.2 k).1 = 2) (hL : L.length + 6 ≤ 16) (he : e + 12 ≤ 20) : ∃ V', f_X6_answerOf_L6 12 (nI k) (nI e) V = some ((-(nI (pg S.2 k).2.2 + (2 * (nI k + nI (own S k))))), V') ∧ AX V0 V' S ((((((L ++ [12]) ++ [11]) ++ [10]) ++ [24]) ++ [21]) ++ [20]) := by
  have h24 := hok.2.2.1
  obtain ⟨V1, t1, a1⟩ := ax_trace (b := 12) hok h (by omega)
  have t1' : f_X6_leaveTrace 12 V = some V1 := t1
  have e1 : nI e + 1 = nI (e + 1) := nI_1 e
  have l1 : (L ++ [12]).length = L.length + 1 := by rw [List.length_append]; rfl
  rw [f_X6_answerOf_L6, if_pos (dep (by omega)), t1', Option.bind_some, if_neg (show ¬ (12 : Int32) = 10 by decide), if_neg (show ¬ (12 : Int32) = 11 by decide), if_pos (show (12 : Int32) = 12 from rfl)]
  obtain ⟨V2, x1, x2⟩ := o11_5_2 (e := e + 1) hok hk a1 hd (by omega) (by omega)
  rw [e1, x1, Option.bind_some]
  exact ⟨V2, rfl, x2⟩
theorem zs_2 {V0 V : Mem} {S : Sh} {L : List Nat} {k e : Nat} (hok : okS S) (hk : k < S.2.length) (h : AX V0 V S L)(hd : (pg S.2 k).1 = 2) (hL : L.length + 6 ≤ 16) (he : e + 1 + 12 ≤ 20) : ∃ V', f_X6_answerTo_L6 0 (nI k) (nI e) V = some ((-(nI (pg S.2 k).2.2 + (2 * (nI k + nI (own S k))))), V') ∧ AX V0 V' S ((((((L ++ [12]) ++ [11]) ++ [10]) ++ [24]) ++ [21]) ++ [20]) := by
  have h24 := hok.2.2.1
  have e1 : nI e + 1 = nI (e + 1) := nI_1 e
  have s : V 6 k = nI 2 := by rw [← hd]; exact (h.2.2.2.1.2.2 k hk).1
  obtain ⟨V2, x1, x2⟩ := o12_6 (e := e + 1) hok hk h hd (by omega) (by omega)
  refine ⟨V2, ?_, x2⟩
  have w : ∀ n, f_X6_answerTo_L6_29_t2 (n + 2) (nI k) (nI e) (nI 2) 0 V = some ((-(nI (pg S.2 k).2.2 + (2 * (nI k + nI (own S k))))), V2) := by
    intro n
    rw [f_X6_answerTo_L6_29_t2, if_neg (by decide), if_neg (by decide), if_pos (by decide)]
    rw [if_neg (by decide), f_X6_answerTo_L6_63_t2, if_pos (by decide)]
    have q : f_X6_answerOf_L6 (tba 2 (Int32.toNatClampNeg (nI 2))) (nI k) (nI e + 1) V = some ((-(nI (pg S.2 k).2.2 + (2 * (nI k + nI (own S k))))), V2) := by
      rw [e1]
      exact x1
    rw [q, Option.bind_some]
  rw [f_X6_answerTo_L6, if_pos (show (0 : Int32) = 0 from rfl), f_X6_answerTo_L6_13_u2, if_pos (ibt (by omega) (by omega)), ncl (by omega), s]
  exact w 4094
theorem o13_6 {V0 V : Mem} {S : Sh} {L : List Nat} {k e : Nat} (hok : okS S) (hk : k < S.2.length) (h : AX V0 V S L) (hL : L.length + 2 ≤ 16) (he : e + 12 ≤ 20) : ∃ V', f_X6_answerOf_L6 13 (nI k) (nI e) V = some ((nI (pg S.2 k).2.2 - 100), V') ∧ AX V0 V' S ((L ++ [13]) ++ [10]) := by
  have h24 := hok.2.2.1
  obtain ⟨V1, t1, a1⟩ := ax_trace (b := 13) hok h (by omega)
  have t1' : f_X6_leaveTrace 13 V = some V1 := t1
  have e1 : nI e + 1 = nI (e + 1) := nI_1 e
  have l1 : (L ++ [13]).length = L.length + 1 := by rw [List.length_append]; rfl
  rw [f_X6_answerOf_L6, if_pos (dep (by omega)), t1', Option.bind_some, if_neg (show ¬ (13 : Int32) = 10 by decide), if_neg (show ¬ (13 : Int32) = 11 by decide), if_neg (show ¬ (13 : Int32) = 12 by decide), if_pos (show (13 : Int32) = 13 from rfl)]
  obtain ⟨V2, x1, x2⟩ := o10_5 (e := e + 1) hok hk a1 (by omega) (by omega)
  rw [e1, x1, Option.bind_some]
  exact ⟨V2, rfl, x2⟩
theorem zs_4 {V0 V : Mem} {S : Sh} {L : List Nat} {k e : Nat} (hok : okS S) (hk : k < S.2.length) (h : AX V0 V S L) (hd : (pg S.2 k).1 = 4) (hL : L.length + 2 ≤ 16) (he : e + 1 + 12 ≤ 20) : ∃ V', f_X6_answerTo_L6 0 (nI k) (nI e) V = some ((nI (pg S.2 k).2.2 - 100), V') ∧ AX V0 V' S ((L ++ [13]) ++ [10]) := by
  have h24 := hok.2.2.1
  have e1 : nI e + 1 = nI (e + 1) := nI_1 e
  have s : V 6 k = nI 4 := by rw [← hd]; exact (h.2.2.2.1.2.2 k hk).1
  obtain ⟨V2, x1, x2⟩ := o13_6 (e := e + 1) hok hk h (by omega) (by omega)
  refine ⟨V2, ?_, x2⟩
  have w : ∀ n, f_X6_answerTo_L6_29_t2 (n + 2) (nI k) (nI e) (nI 4) 0 V = some ((nI (pg S.2 k).2.2 - 100), V2) := by
    intro n
    rw [f_X6_answerTo_L6_29_t2, if_neg (by decide), if_neg (by decide), if_pos (by decide)]
    rw [if_neg (by decide), f_X6_answerTo_L6_63_t2, if_pos (by decide)]
    have q : f_X6_answerOf_L6 (tba 2 (Int32.toNatClampNeg (nI 4))) (nI k) (nI e + 1) V = some ((nI (pg S.2 k).2.2 - 100), V2) := by
      rw [e1]
      exact x1
    rw [q, Option.bind_some]
  rw [f_X6_answerTo_L6, if_pos (show (0 : Int32) = 0 from rfl), f_X6_answerTo_L6_13_u2, if_pos (ibt (by omega) (by omega)), ncl (by omega), s]
  exact w 4094
theorem o13_5 {V0 V : Mem} {S : Sh} {L : List Nat} {k e : Nat} (hok : okS S) (hk : k < S.2.length) (h : AX V0 V S L) (hL : L.length + 2 ≤ 16) (he : e + 10 ≤ 20) : ∃ V', f_X6_answerOf_L5 13 (nI k) (nI e) V = some ((nI (pg S.2 k).2.2 - 100), V') ∧ AX V0 V' S ((L ++ [13]) ++ [10]) := by
  have h24 := hok.2.2.1
  obtain ⟨V1, t1, a1⟩ := ax_trace (b := 13) hok h (by omega)
  have t1' : f_X6_leaveTrace 13 V = some V1 := t1
  have e1 : nI e + 1 = nI (e + 1) := nI_1 e
  have l1 : (L ++ [13]).length = L.length + 1 := by rw [List.length_append]; rfl
  rw [f_X6_answerOf_L5, if_pos (dep (by omega)), t1', Option.bind_some, if_neg (show ¬ (13 : Int32) = 10 by decide), if_neg (show ¬ (13 : Int32) = 11 by decide), if_neg (show ¬ (13 : Int32) = 12 by decide), if_pos (show (13 : Int32) = 13 from rfl)]
  obtain ⟨V2, x1, x2⟩ := o10_4 (e := e + 1) hok hk a1 (by omega) (by omega)
  rw [e1, x1, Option.bind_some]
  exact ⟨V2, rfl, x2⟩
theorem o14_6 {V0 V : Mem} {S : Sh} {L : List Nat} {k e : Nat} (hok : okS S) (hk : k < S.2.length) (h : AX V0 V S L) (hL : L.length + 3 ≤ 16) (he : e + 12 ≤ 20) : ∃ V', f_X6_answerOf_L6 14 (nI k) (nI e) V = some ((2 * (nI (pg S.2 k).2.2 - 100)), V') ∧ AX V0 V' S (((L ++ [14]) ++ [13]) ++ [10]) := by
  have h24 := hok.2.2.1
  obtain ⟨V1, t1, a1⟩ := ax_trace (b := 14) hok h (by omega)
  have t1' : f_X6_leaveTrace 14 V = some V1 := t1
  have e1 : nI e + 1 = nI (e + 1) := nI_1 e
  have l1 : (L ++ [14]).length = L.length + 1 := by rw [List.length_append]; rfl
  rw [f_X6_answerOf_L6, if_pos (dep (by omega)), t1', Option.bind_some, if_neg (show ¬ (14 : Int32) = 10 by decide), if_neg (show ¬ (14 : Int32) = 11 by decide), if_neg (show ¬ (14 : Int32) = 12 by decide), if_neg (show ¬ (14 : Int32) = 13 by decide), if_pos (show (14 : Int32) = 14 from rfl)]
  obtain ⟨V2, x1, x2⟩ := o13_5 (e := e + 1) hok hk a1 (by omega) (by omega)
  rw [e1, x1, Option.bind_some]
  exact ⟨V2, rfl, x2⟩
theorem zs_5 {V0 V : Mem} {S : Sh} {L : List Nat} {k e : Nat} (hok : okS S) (hk : k < S.2.length) (h : AX V0 V S L) (hd : (pg S.2 k).1 = 5) (hL : L.length + 3 ≤ 16) (he : e + 1 + 12 ≤ 20) : ∃ V', f_X6_answerTo_L6 0 (nI k) (nI e) V = some ((2 * (nI (pg S.2 k).2.2 - 100)), V') ∧ AX V0 V' S (((L ++ [14]) ++ [13]) ++ [10]) := by
  have h24 := hok.2.2.1
  have e1 : nI e + 1 = nI (e + 1) := nI_1 e
  have s : V 6 k = nI 5 := by rw [← hd]; exact (h.2.2.2.1.2.2 k hk).1
  obtain ⟨V2, x1, x2⟩ := o14_6 (e := e + 1) hok hk h (by omega) (by omega)
  refine ⟨V2, ?_, x2⟩
  have w : ∀ n, f_X6_answerTo_L6_29_t2 (n + 2) (nI k) (nI e) (nI 5) 0 V = some ((2 * (nI (pg S.2 k).2.2 - 100)), V2) := by
    intro n
    rw [f_X6_answerTo_L6_29_t2, if_neg (by decide), if_neg (by decide), if_pos (by decide)]
    rw [if_neg (by decide), f_X6_answerTo_L6_63_t2, if_pos (by decide)]
    have q : f_X6_answerOf_L6 (tba 2 (Int32.toNatClampNeg (nI 5))) (nI k) (nI e + 1) V = some ((2 * (nI (pg S.2 k).2.2 - 100)), V2) := by
      rw [e1]
      exact x1
    rw [q, Option.bind_some]
  rw [f_X6_answerTo_L6, if_pos (show (0 : Int32) = 0 from rfl), f_X6_answerTo_L6_13_u2, if_pos (ibt (by omega) (by omega)), ncl (by omega), s]
  exact w 4094
theorem o20_5 {V0 V : Mem} {S : Sh} {L : List Nat} {k e : Nat} (hok : okS S) (hk : k < S.2.length) (h : AX V0 V S L) (hL : L.length + 1 ≤ 16) (he : e + 10 ≤ 20) : ∃ V', f_X6_answerOf_L5 20 (nI k) (nI e) V = some (nI k, V') ∧ AX V0 V' S (L ++ [20]) := by
  have h24 := hok.2.2.1
  obtain ⟨V1, t1, a1⟩ := ax_trace (b := 20) hok h (by omega)
  have t1' : f_X6_leaveTrace 20 V = some V1 := t1
  have e1 : nI e + 1 = nI (e + 1) := nI_1 e
  have l1 : (L ++ [20]).length = L.length + 1 := by rw [List.length_append]; rfl
  rw [f_X6_answerOf_L5, if_pos (dep (by omega)), t1', Option.bind_some, if_neg (show ¬ (20 : Int32) = 10 by decide), if_neg (show ¬ (20 : Int32) = 11 by decide), if_neg (show ¬ (20 : Int32) = 12 by decide), if_neg (show ¬ (20 : Int32) = 13 by decide), if_neg (show ¬ (20 : Int32) = 14 by decide), if_neg (show ¬ (20 : Int32) = 15 by decide), if_neg (show ¬ (20 : Int32) = 16 by decide), if_neg (show ¬ (20 : Int32) = 17 by decide), if_neg (show ¬ (20 : Int32) = 18 by decide), if_neg (show ¬ (20 : Int32) = 19 by decide), if_pos (show (20 : Int32) = 20 from rfl)]
  exact ⟨V1, rfl, a1⟩
theorem o21_6 {V0 V : Mem} {S : Sh} {L : List Nat} {k e : Nat} (hok : okS S) (hk : k < S.2.length) (h : AX V0 V S L) (hL : L.length + 2 ≤ 16) (he : e + 12 ≤ 20) : ∃ V', f_X6_answerOf_L6 21 (nI k) (nI e) V = some ((nI k + nI (own S k)), V') ∧ AX V0 V' S ((L ++ [21]) ++ [20]) := by
  have h24 := hok.2.2.1
  obtain ⟨V1, t1, a1⟩ := ax_trace (b := 21) hok h (by omega)
  have t1' : f_X6_leaveTrace 21 V = some V1 := t1
  have e1 : nI e + 1 = nI (e + 1) := nI_1 e
  have l1 : (L ++ [21]).length = L.length + 1 := by rw [List.length_append]; rfl
  rw [f_X6_answerOf_L6, if_pos (dep (by omega)), t1', Option.bind_some, if_neg (show ¬ (21 : Int32) = 10 by decide), if_neg (show ¬ (21 : Int32) = 11 by decide), if_neg (show ¬ (21 : Int32) = 12 by decide), if_neg (show ¬ (21 : Int32) = 13 by decide), if_neg (show ¬ (21 : Int32) = 14 by decide), if_neg (show ¬ (21 : Int32) = 15 by decide), if_neg (show ¬ (21 : Int32) = 16 by decide), if_neg (show ¬ (21 : Int32) = 17 by decide), if_neg (show ¬ (21 : Int32) = 18 by decide), if_neg (show ¬ (21 : Int32) = 19 by decide), if_neg (show ¬ (21 : Int32) = 20 by decide), if_pos (show (21 : Int32) = 21 from rfl)]
  obtain ⟨V2, x1, x2⟩ := o20_5 (e := e + 1) hok hk a1 (by omega) (by omega)
  rw [e1, x1, Option.bind_some]
  obtain ⟨V3, y1, y2⟩ := ax_own hok hk x2
  dsimp only
  rw [y1, Option.bind_some]
  exact ⟨V3, rfl, y2⟩
theorem zm_1 {V0 V : Mem} {S : Sh} {L : List Nat} {k e : Nat} (hok : okS S) (hk : k < S.2.length) (h : AX V0 V S L) (hd : (pg S.2 k).1 = 1) (hL : L.length + 2 ≤ 16) (he : e + 1 + 12 ≤ 20) : ∃ V', f_X6_answerTo_L6 1 (nI k) (nI e) V = some ((nI k + nI (own S k)), V') ∧ AX V0 V' S ((L ++ [21]) ++ [20]) := by
  have h24 := hok.2.2.1
  have e1 : nI e + 1 = nI (e + 1) := nI_1 e
  have s : V 6 k = nI 1 := by rw [← hd]; exact (h.2.2.2.1.2.2 k hk).1
  obtain ⟨V2, x1, x2⟩ := o21_6 (e := e + 1) hok hk h (by omega) (by omega)
  refine ⟨V2, ?_, x2⟩
  have w : ∀ n, f_X6_answerTo_L6_29_t3 (n + 2) (nI k) (nI e) (nI 1) 0 V = some ((nI k + nI (own S k)), V2) := by
    intro n
    rw [f_X6_answerTo_L6_29_t3, if_neg (by decide), if_neg (by decide), if_pos (by decide)]
    rw [if_neg (by decide), f_X6_answerTo_L6_63_t3, if_pos (by decide)]
    have q : f_X6_answerOf_L6 (tba 3 (Int32.toNatClampNeg (nI 1))) (nI k) (nI e + 1) V = some ((nI k + nI (own S k)), V2) := by
      rw [e1]
      exact x1
    rw [q, Option.bind_some]
  rw [f_X6_answerTo_L6, if_neg (show ¬ (1 : Int32) = 0 by decide), f_X6_answerTo_L6_13_u3, if_pos (ibt (by omega) (by omega)), ncl (by omega), s]
  exact w 4094
theorem o24_6 {V0 V : Mem} {S : Sh} {L : List Nat} {k e : Nat} (hok : okS S) (hk : k < S.2.length) (h : AX V0 V S L) (hL : L.length + 3 ≤ 16) (he : e + 12 ≤ 20) : ∃ V', f_X6_answerOf_L6 24 (nI k) (nI e) V = some ((2 * (nI k + nI (own S k))), V') ∧ AX V0 V' S (((L ++ [24]) ++ [21]) ++ [20]) := by
  have h24 := hok.2.2.1
  obtain ⟨V1, t1, a1⟩ := ax_trace (b := 24) hok h (by omega)
  have t1' : f_X6_leaveTrace 24 V = some V1 := t1
  have e1 : nI e + 1 = nI (e + 1) := nI_1 e
  have l1 : (L ++ [24]).length = L.length + 1 := by rw [List.length_append]; rfl
  rw [f_X6_answerOf_L6, if_pos (dep (by omega)), t1', Option.bind_some, if_neg (show ¬ (24 : Int32) = 10 by decide), if_neg (show ¬ (24 : Int32) = 11 by decide), if_neg (show ¬ (24 : Int32) = 12 by decide), if_neg (show ¬ (24 : Int32) = 13 by decide), if_neg (show ¬ (24 : Int32) = 14 by decide), if_neg (show ¬ (24 : Int32) = 15 by decide), if_neg (show ¬ (24 : Int32) = 16 by decide), if_neg (show ¬ (24 : Int32) = 17 by decide), if_neg (show ¬ (24 : Int32) = 18 by decide), if_neg (show ¬ (24 : Int32) = 19 by decide), if_neg (show ¬ (24 : Int32) = 20 by decide), if_neg (show ¬ (24 : Int32) = 21 by decide), if_neg (show ¬ (24 : Int32) = 22 by decide), if_neg (show ¬ (24 : Int32) = 23 by decide), if_pos (show (24 : Int32) = 24 from rfl)]
  obtain ⟨V2, x1, x2⟩ := o21_5 (e := e + 1) hok hk a1 (by omega) (by omega)
  rw [e1, x1, Option.bind_some]
  exact ⟨V2, rfl, x2⟩
theorem zm_2 {V0 V : Mem} {S : Sh} {L : List Nat} {k e : Nat} (hok : okS S) (hk : k < S.2.length) (h : AX V0 V S L) (hd : (pg S.2 k).1 = 2) (hL : L.length + 3 ≤ 16) (he : e + 1 + 12 ≤ 20) : ∃ V', f_X6_answerTo_L6 1 (nI k) (nI e) V = some ((2 * (nI k + nI (own S k))), V') ∧ AX V0 V' S (((L ++ [24]) ++ [21]) ++ [20]) := by
  have h24 := hok.2.2.1
  have e1 : nI e + 1 = nI (e + 1) := nI_1 e
  have s : V 6 k = nI 2 := by rw [← hd]; exact (h.2.2.2.1.2.2 k hk).1
  obtain ⟨V2, x1, x2⟩ := o24_6 (e := e + 1) hok hk h (by omega) (by omega)
  refine ⟨V2, ?_, x2⟩
  have w : ∀ n, f_X6_answerTo_L6_29_t3 (n + 2) (nI k) (nI e) (nI 2) 0 V = some ((2 * (nI k + nI (own S k))), V2) := by
    intro n
    rw [f_X6_answerTo_L6_29_t3, if_neg (by decide), if_neg (by decide), if_pos (by decide)]
    rw [if_neg (by decide), f_X6_answerTo_L6_63_t3, if_pos (by decide)]
    have q : f_X6_answerOf_L6 (tba 3 (Int32.toNatClampNeg (nI 2))) (nI k) (nI e + 1) V = some ((2 * (nI k + nI (own S k))), V2) := by
      rw [e1]
      exact x1
    rw [q, Option.bind_some]
  rw [f_X6_answerTo_L6, if_neg (show ¬ (1 : Int32) = 0 by decide), f_X6_answerTo_L6_13_u3, if_pos (ibt (by omega) (by omega)), ncl (by omega), s]
  exact w 4094
theorem o22_6 {V0 V : Mem} {S : Sh} {L : List Nat} {k e : Nat} (hok : okS S) (hk : k < S.2.length) (h : AX V0 V S L) (hL : L.length + 3 ≤ 16) (he : e + 12 ≤ 20) : ∃ V', f_X6_answerOf_L6 22 (nI k) (nI e) V = some ((nI k + nI (own S k) - 1000), V') ∧ AX V0 V' S (((L ++ [22]) ++ [21]) ++ [20]) := by
  have h24 := hok.2.2.1
  obtain ⟨V1, t1, a1⟩ := ax_trace (b := 22) hok h (by omega)
  have t1' : f_X6_leaveTrace 22 V = some V1 := t1
  have e1 : nI e + 1 = nI (e + 1) := nI_1 e
  have l1 : (L ++ [22]).length = L.length + 1 := by rw [List.length_append]; rfl
  rw [f_X6_answerOf_L6, if_pos (dep (by omega)), t1', Option.bind_some, if_neg (show ¬ (22 : Int32) = 10 by decide), if_neg (show ¬ (22 : Int32) = 11 by decide), if_neg (show ¬ (22 : Int32) = 12 by decide), if_neg (show ¬ (22 : Int32) = 13 by decide), if_neg (show ¬ (22 : Int32) = 14 by decide), if_neg (show ¬ (22 : Int32) = 15 by decide), if_neg (show ¬ (22 : Int32) = 16 by decide), if_neg (show ¬ (22 : Int32) = 17 by decide), if_neg (show ¬ (22 : Int32) = 18 by decide), if_neg (show ¬ (22 : Int32) = 19 by decide), if_neg (show ¬ (22 : Int32) = 20 by decide), if_neg (show ¬ (22 : Int32) = 21 by decide), if_pos (show (22 : Int32) = 22 from rfl)]
  obtain ⟨V2, x1, x2⟩ := o21_5 (e := e + 1) hok hk a1 (by omega) (by omega)
  rw [e1, x1, Option.bind_some]
  exact ⟨V2, rfl, x2⟩
theorem zm_3 {V0 V : Mem} {S : Sh} {L : List Nat} {k e : Nat} (hok : okS S) (hk : k < S.2.length) (h : AX V0 V S L) (hd : (pg S.2 k).1 = 3) (hL : L.length + 3 ≤ 16) (he : e + 1 + 12 ≤ 20) : ∃ V', f_X6_answerTo_L6 1 (nI k) (nI e) V = some ((nI k + nI (own S k) - 1000), V') ∧ AX V0 V' S (((L ++ [22]) ++ [21]) ++ [20]) := by
  have h24 := hok.2.2.1
  have e1 : nI e + 1 = nI (e + 1) := nI_1 e
  have s : V 6 k = nI 3 := by rw [← hd]; exact (h.2.2.2.1.2.2 k hk).1
  obtain ⟨V2, x1, x2⟩ := o22_6 (e := e + 1) hok hk h (by omega) (by omega)
  refine ⟨V2, ?_, x2⟩
  have w : ∀ n, f_X6_answerTo_L6_29_t3 (n + 2) (nI k) (nI e) (nI 3) 0 V = some ((nI k + nI (own S k) - 1000), V2) := by
    intro n
    rw [f_X6_answerTo_L6_29_t3, if_neg (by decide), if_neg (by decide), if_pos (by decide)]
    rw [if_neg (by decide), f_X6_answerTo_L6_63_t3, if_pos (by decide)]
    have q : f_X6_answerOf_L6 (tba 3 (Int32.toNatClampNeg (nI 3))) (nI k) (nI e + 1) V = some ((nI k + nI (own S k) - 1000), V2) := by
      rw [e1]
      exact x1
    rw [q, Option.bind_some]
  rw [f_X6_answerTo_L6, if_neg (show ¬ (1 : Int32) = 0 by decide), f_X6_answerTo_L6_13_u3, if_pos (ibt (by omega) (by omega)), ncl (by omega), s]
  exact w 4094
theorem ts_5_4 {V0 V : Mem} {S : Sh} {L : List Nat} {k e : Nat} (hok : okS S) (hk : k < S.2.length) (h : AX V0 V S L) (hd : (pg S.2 k).1 = 4) (hL : L.length + 2 ≤ 16) (he : e + 1 + 10 ≤ 20) : ∃ V', f_X6_answerTo_L5 0 (nI k) (nI e) V = some ((nI (pg S.2 k).2.2 - 100), V') ∧ AX V0 V' S ((L ++ [13]) ++ [10]) := by
  have h24 := hok.2.2.1
  have e1 : nI e + 1 = nI (e + 1) := nI_1 e
  have s : V 6 k = nI 4 := by rw [← hd]; exact (h.2.2.2.1.2.2 k hk).1
  obtain ⟨V2, x1, x2⟩ := o13_5 (e := e + 1) hok hk h (by omega) (by omega)
  refine ⟨V2, ?_, x2⟩
  have w : ∀ n, f_X6_answerTo_L5_29_t2 (n + 2) (nI k) (nI e) (nI 4) 0 V = some ((nI (pg S.2 k).2.2 - 100), V2) := by
    intro n
    rw [f_X6_answerTo_L5_29_t2, if_neg (by decide), if_neg (by decide), if_pos (by decide)]
    rw [if_neg (by decide), f_X6_answerTo_L5_63_t2, if_pos (by decide)]
    have q : f_X6_answerOf_L5 (tba 2 (Int32.toNatClampNeg (nI 4))) (nI k) (nI e + 1) V = some ((nI (pg S.2 k).2.2 - 100), V2) := by
      rw [e1]
      exact x1
    rw [q, Option.bind_some]
  rw [f_X6_answerTo_L5, if_pos (show (0 : Int32) = 0 from rfl), f_X6_answerTo_L5_13_u2, if_pos (ibt (by omega) (by omega)), ncl (by omega), s]
  exact w 4094
theorem o23_6_4 {V0 V : Mem} {S : Sh} {L : List Nat} {k e : Nat} (hok : okS S) (hk : k < S.2.length) (h : AX V0 V S L) (hd : (pg S.2 k).1 = 4) (hL : L.length + 4 ≤ 16) (he : e + 12 ≤ 20) : ∃ V', f_X6_answerOf_L6 23 (nI k) (nI e) V = some ((nI k - (nI (pg S.2 k).2.2 - 100)), V') ∧ AX V0 V' S ((((L ++ [23]) ++ [20]) ++ [13]) ++ [10]) := by
  have h24 := hok.2.2.1
  obtain ⟨V1, t1, a1⟩ := ax_trace (b := 23) hok h (by omega)
  have t1' : f_X6_leaveTrace 23 V = some V1 := t1
  have e1 : nI e + 1 = nI (e + 1) := nI_1 e
  have l1 : (L ++ [23]).length = L.length + 1 := by rw [List.length_append]; rfl
  rw [f_X6_answerOf_L6, if_pos (dep (by omega)), t1', Option.bind_some, if_neg (show ¬ (23 : Int32) = 10 by decide), if_neg (show ¬ (23 : Int32) = 11 by decide), if_neg (show ¬ (23 : Int32) = 12 by decide), if_neg (show ¬ (23 : Int32) = 13 by decide), if_neg (show ¬ (23 : Int32) = 14 by decide), if_neg (show ¬ (23 : Int32) = 15 by decide), if_neg (show ¬ (23 : Int32) = 16 by decide), if_neg (show ¬ (23 : Int32) = 17 by decide), if_neg (show ¬ (23 : Int32) = 18 by decide), if_neg (show ¬ (23 : Int32) = 19 by decide), if_neg (show ¬ (23 : Int32) = 20 by decide), if_neg (show ¬ (23 : Int32) = 21 by decide), if_neg (show ¬ (23 : Int32) = 22 by decide), if_pos (show (23 : Int32) = 23 from rfl)]
  obtain ⟨V2, x1, x2⟩ := o20_5 (e := e + 1) hok hk a1 (by omega) (by omega)
  have l2 : (L ++ [23] ++ [20]).length = L.length + 2 := by rw [List.length_append, l1]; rfl
  obtain ⟨V3, y1, y2⟩ := ts_5_4 (e := e + 1) hok hk x2 hd (by omega) (by omega)
  rw [e1, x1, Option.bind_some]
  dsimp only
  rw [y1, Option.bind_some]
  exact ⟨V3, rfl, y2⟩
theorem zm_4 {V0 V : Mem} {S : Sh} {L : List Nat} {k e : Nat} (hok : okS S) (hk : k < S.2.length) (h : AX V0 V S L)(hd : (pg S.2 k).1 = 4) (hL : L.length + 4 ≤ 16) (he : e + 1 + 12 ≤ 20) : ∃ V', f_X6_answerTo_L6 1 (nI k) (nI e) V = some ((nI k - (nI (pg S.2 k).2.2 - 100)), V') ∧ AX V0 V' S ((((L ++ [23]) ++ [20]) ++ [13]) ++ [10]) := by
  have h24 := hok.2.2.1
  have e1 : nI e + 1 = nI (e + 1) := nI_1 e
  have s : V 6 k = nI 4 := by rw [← hd]; exact (h.2.2.2.1.2.2 k hk).1
  obtain ⟨V2, x1, x2⟩ := o23_6_4 (e := e + 1) hok hk h hd (by omega) (by omega)
  refine ⟨V2, ?_, x2⟩
  have w : ∀ n, f_X6_answerTo_L6_29_t3 (n + 2) (nI k) (nI e) (nI 4) 0 V = some ((nI k - (nI (pg S.2 k).2.2 - 100)), V2) := by
    intro n
    rw [f_X6_answerTo_L6_29_t3, if_neg (by decide), if_neg (by decide), if_pos (by decide)]
    rw [if_neg (by decide), f_X6_answerTo_L6_63_t3, if_pos (by decide)]
    have q : f_X6_answerOf_L6 (tba 3 (Int32.toNatClampNeg (nI 4))) (nI k) (nI e + 1) V = some ((nI k - (nI (pg S.2 k).2.2 - 100)), V2) := by
      rw [e1]
      exact x1
    rw [q, Option.bind_some]
  rw [f_X6_answerTo_L6, if_neg (show ¬ (1 : Int32) = 0 by decide), f_X6_answerTo_L6_13_u3, if_pos (ibt (by omega) (by omega)), ncl (by omega), s]
  exact w 4094
theorem o10_3 {V0 V : Mem} {S : Sh} {L : List Nat} {k e : Nat} (hok : okS S) (hk : k < S.2.length) (h : AX V0 V S L) (hL : L.length + 1 ≤ 16) (he : e + 6 ≤ 20) : ∃ V', f_X6_answerOf_L3 10 (nI k) (nI e) V = some (nI (pg S.2 k).2.2, V') ∧ AX V0 V' S (L ++ [10]) := by
  have h24 := hok.2.2.1
  obtain ⟨V1, t1, a1⟩ := ax_trace (b := 10) hok h (by omega)
  have t1' : f_X6_leaveTrace 10 V = some V1 := t1
  have e1 : nI e + 1 = nI (e + 1) := nI_1 e
  have l1 : (L ++ [10]).length = L.length + 1 := by rw [List.length_append]; rfl
  rw [f_X6_answerOf_L3, if_pos (dep (by omega)), t1', Option.bind_some, if_pos (show (10 : Int32) = 10 from rfl)]
  rw [if_pos (ibt (by omega) (by omega)), ncl (by omega)]
  refine ⟨V1, ?_, a1⟩
  have s : V1 8 k = _ := (a1.2.2.2.1.2.2 k hk).2.2
  rw [s]
theorem o13_4 {V0 V : Mem} {S : Sh} {L : List Nat} {k e : Nat} (hok : okS S) (hk : k < S.2.length) (h : AX V0 V S L) (hL : L.length + 2 ≤ 16) (he : e + 8 ≤ 20) : ∃ V', f_X6_answerOf_L4 13 (nI k) (nI e) V = some ((nI (pg S.2 k).2.2 - 100), V') ∧ AX V0 V' S ((L ++ [13]) ++ [10]) := by
  have h24 := hok.2.2.1
  obtain ⟨V1, t1, a1⟩ := ax_trace (b := 13) hok h (by omega)
  have t1' : f_X6_leaveTrace 13 V = some V1 := t1
  have e1 : nI e + 1 = nI (e + 1) := nI_1 e
  have l1 : (L ++ [13]).length = L.length + 1 := by rw [List.length_append]; rfl
  rw [f_X6_answerOf_L4, if_pos (dep (by omega)), t1', Option.bind_some, if_neg (show ¬ (13 : Int32) = 10 by decide), if_neg (show ¬ (13 : Int32) = 11 by decide), if_neg (show ¬ (13 : Int32) = 12 by decide), if_pos (show (13 : Int32) = 13 from rfl)]
  obtain ⟨V2, x1, x2⟩ := o10_3 (e := e + 1) hok hk a1 (by omega) (by omega)
  rw [e1, x1, Option.bind_some]
  exact ⟨V2, rfl, x2⟩
theorem o14_5 {V0 V : Mem} {S : Sh} {L : List Nat} {k e : Nat} (hok : okS S) (hk : k < S.2.length) (h : AX V0 V S L) (hL : L.length + 3 ≤ 16) (he : e + 10 ≤ 20) : ∃ V', f_X6_answerOf_L5 14 (nI k) (nI e) V = some ((2 * (nI (pg S.2 k).2.2 - 100)), V') ∧ AX V0 V' S (((L ++ [14]) ++ [13]) ++ [10]) := by
  have h24 := hok.2.2.1
  obtain ⟨V1, t1, a1⟩ := ax_trace (b := 14) hok h (by omega)
  have t1' : f_X6_leaveTrace 14 V = some V1 := t1
  have e1 : nI e + 1 = nI (e + 1) := nI_1 e
  have l1 : (L ++ [14]).length = L.length + 1 := by rw [List.length_append]; rfl
  rw [f_X6_answerOf_L5, if_pos (dep (by omega)), t1', Option.bind_some, if_neg (show ¬ (14 : Int32) = 10 by decide), if_neg (show ¬ (14 : Int32) = 11 by decide), if_neg (show ¬ (14 : Int32) = 12 by decide), if_neg (show ¬ (14 : Int32) = 13 by decide), if_pos (show (14 : Int32) = 14 from rfl)]
  obtain ⟨V2, x1, x2⟩ := o13_4 (e := e + 1) hok hk a1 (by omega) (by omega)
  rw [e1, x1, Option.bind_some]
  exact ⟨V2, rfl, x2⟩
theorem ts_5_5 {V0 V : Mem} {S : Sh} {L : List Nat} {k e : Nat} (hok : okS S) (hk : k < S.2.length) (h : AX V0 V S L) (hd : (pg S.2 k).1 = 5) (hL : L.length + 3 ≤ 16) (he : e + 1 + 10 ≤ 20) : ∃ V', f_X6_answerTo_L5 0 (nI k) (nI e) V = some ((2 * (nI (pg S.2 k).2.2 - 100)), V') ∧ AX V0 V' S (((L ++ [14]) ++ [13]) ++ [10]) := by
  have h24 := hok.2.2.1
  have e1 : nI e + 1 = nI (e + 1) := nI_1 e
  have s : V 6 k = nI 5 := by rw [← hd]; exact (h.2.2.2.1.2.2 k hk).1
  obtain ⟨V2, x1, x2⟩ := o14_5 (e := e + 1) hok hk h (by omega) (by omega)
  refine ⟨V2, ?_, x2⟩
  have w : ∀ n, f_X6_answerTo_L5_29_t2 (n + 2) (nI k) (nI e) (nI 5) 0 V = some ((2 * (nI (pg S.2 k).2.2 - 100)), V2) := by
    intro n
    rw [f_X6_answerTo_L5_29_t2, if_neg (by decide), if_neg (by decide), if_pos (by decide)]
    rw [if_neg (by decide), f_X6_answerTo_L5_63_t2, if_pos (by decide)]
    have q : f_X6_answerOf_L5 (tba 2 (Int32.toNatClampNeg (nI 5))) (nI k) (nI e + 1) V = some ((2 * (nI (pg S.2 k).2.2 - 100)), V2) := by
      rw [e1]
      exact x1
    rw [q, Option.bind_some]
  rw [f_X6_answerTo_L5, if_pos (show (0 : Int32) = 0 from rfl), f_X6_answerTo_L5_13_u2, if_pos (ibt (by omega) (by omega)), ncl (by omega), s]
  exact w 4094
theorem o23_6_5 {V0 V : Mem} {S : Sh} {L : List Nat} {k e : Nat} (hok : okS S) (hk : k < S.2.length) (h : AX V0 V S L) (hd : (pg S.2 k).1 = 5) (hL : L.length + 5 ≤ 16) (he : e + 12 ≤ 20) : ∃ V', f_X6_answerOf_L6 23 (nI k) (nI e) V = some ((nI k - (2 * (nI (pg S.2 k).2.2 - 100))), V') ∧ AX V0 V' S (((((L ++ [23]) ++ [20]) ++ [14]) ++ [13]) ++ [10]) := by
  have h24 := hok.2.2.1
  obtain ⟨V1, t1, a1⟩ := ax_trace (b := 23) hok h (by omega)
  have t1' : f_X6_leaveTrace 23 V = some V1 := t1
  have e1 : nI e + 1 = nI (e + 1) := nI_1 e
  have l1 : (L ++ [23]).length = L.length + 1 := by rw [List.length_append]; rfl
  rw [f_X6_answerOf_L6, if_pos (dep (by omega)), t1', Option.bind_some, if_neg (show ¬ (23 : Int32) = 10 by decide), if_neg (show ¬ (23 : Int32) = 11 by decide), if_neg (show ¬ (23 : Int32) = 12 by decide), if_neg (show ¬ (23 : Int32) = 13 by decide), if_neg (show ¬ (23 : Int32) = 14 by decide), if_neg (show ¬ (23 : Int32) = 15 by decide), if_neg (show ¬ (23 : Int32) = 16 by decide), if_neg (show ¬ (23 : Int32) = 17 by decide), if_neg (show ¬ (23 : Int32) = 18 by decide), if_neg (show ¬ (23 : Int32) = 19 by decide), if_neg (show ¬ (23 : Int32) = 20 by decide), if_neg (show ¬ (23 : Int32) = 21 by decide), if_neg (show ¬ (23 : Int32) = 22 by decide), if_pos (show (23 : Int32) = 23 from rfl)]
  obtain ⟨V2, x1, x2⟩ := o20_5 (e := e + 1) hok hk a1 (by omega) (by omega)
  have l2 : (L ++ [23] ++ [20]).length = L.length + 2 := by rw [List.length_append, l1]; rfl
  obtain ⟨V3, y1, y2⟩ := ts_5_5 (e := e + 1) hok hk x2 hd (by omega) (by omega)
  rw [e1, x1, Option.bind_some]
  dsimp only
  rw [y1, Option.bind_some]
  exact ⟨V3, rfl, y2⟩
theorem zm_5 {V0 V : Mem} {S : Sh} {L : List Nat} {k e : Nat} (hok : okS S) (hk : k < S.2.length) (h : AX V0 V S L)(hd : (pg S.2 k).1 = 5) (hL : L.length + 5 ≤ 16) (he : e + 1 + 12 ≤ 20) : ∃ V', f_X6_answerTo_L6 1 (nI k) (nI e) V = some ((nI k - (2 * (nI (pg S.2 k).2.2 - 100))), V') ∧ AX V0 V' S (((((L ++ [23]) ++ [20]) ++ [14]) ++ [13]) ++ [10]) := by
  have h24 := hok.2.2.1
  have e1 : nI e + 1 = nI (e + 1) := nI_1 e
  have s : V 6 k = nI 5 := by rw [← hd]; exact (h.2.2.2.1.2.2 k hk).1
  obtain ⟨V2, x1, x2⟩ := o23_6_5 (e := e + 1) hok hk h hd (by omega) (by omega)
  refine ⟨V2, ?_, x2⟩
  have w : ∀ n, f_X6_answerTo_L6_29_t3 (n + 2) (nI k) (nI e) (nI 5) 0 V = some ((nI k - (2 * (nI (pg S.2 k).2.2 - 100))), V2) := by
    intro n
    rw [f_X6_answerTo_L6_29_t3, if_neg (by decide), if_neg (by decide), if_pos (by decide)]
    rw [if_pos (by decide), if_pos (by decide)]
    rw [f_X6_answerTo_L6_29_t3, if_neg (by decide), if_neg (by decide), if_pos (by decide)]
    rw [if_neg (by decide), f_X6_answerTo_L6_63_t3, if_pos (by decide)]
    have q : f_X6_answerOf_L6 (tba 3 (Int32.toNatClampNeg (tba 0 (nI 5).toNatClampNeg))) (nI k) (nI e + 1) V = some ((nI k - (2 * (nI (pg S.2 k).2.2 - 100))), V2) := by
      rw [e1]
      exact x1
    rw [q, Option.bind_some]
  rw [f_X6_answerTo_L6, if_neg (show ¬ (1 : Int32) = 0 by decide), f_X6_answerTo_L6_13_u3, if_pos (ibt (by omega) (by omega)), ncl (by omega), s]
  exact w 4094
theorem mp {U0 M : Mem} {S : Sh} {L : List Nat} {k : Nat} (hok : okS S) (hk : k < S.2.length) (h : AM U0 M S L) (hL : L.length + 1 ≤ 16) : ∃ M', f_X7_plainSize (nI k) M = some (nI (pg S.2 k).2.2, M') ∧ AM U0 M' S (L ++ [10]) := by
  obtain ⟨M1, t1, a1⟩ := am_trace (b := 10) h (by omega)
  have t1' : f_X7_began 10 M = some M1 := t1
  rw [f_X7_plainSize, t1', Option.bind_some, (am_of hok hk a1).2, Option.bind_some]
  exact ⟨M1, rfl, a1⟩
theorem mt_4 {U0 M : Mem} {S : Sh} {L : List Nat} {k : Nat} (hok : okS S) (hk : k < S.2.length) (h : AM U0 M S L) (hd : (pg S.2 k).1 = 4) (hL : L.length + 2 ≤ 16) : ∃ M', f_X7_textSize (nI k) M = some ((nI (pg S.2 k).2.2 - 100), M') ∧ AM U0 M' S ((L ++ [13]) ++ [10]) := by
  have w1 : (L ++ [13]).length = L.length + 1 := by rw [List.length_append]; rfl
  have w2 : ((L ++ [13]) ++ [10]).length = L.length + 2 := by rw [List.length_append, w1]; rfl
  obtain ⟨M1, t1, a1⟩ := am_trace (b := 13) h (by omega)
  have t1' : f_X7_began 13 M = some M1 := t1
  obtain ⟨M2, t2, a2⟩ := mp hok hk a1 (by omega)
  rw [f_X7_textSize, (am_of hok hk h).1, Option.bind_some, hd, if_neg (show ¬ (nI 4, M).1 = 5 from (show ¬ nI 4 = 5 by decide)), f_X7_textSize_18, if_pos (show (0 : Int32) = 0 from rfl), f_X7_textSize_29, t1', Option.bind_some, t2, Option.bind_some, if_pos (show (0 : Int32) = 0 from rfl)]
  exact ⟨M2, rfl, a2⟩
theorem mt_5 {U0 M : Mem} {S : Sh} {L : List Nat} {k : Nat} (hok : okS S) (hk : k < S.2.length) (h : AM U0 M S L) (hd : (pg S.2 k).1 = 5) (hL : L.length + 3 ≤ 16) : ∃ M', f_X7_textSize (nI k) M = some ((2 * (nI (pg S.2 k).2.2 - 100)), M') ∧ AM U0 M' S (((L ++ [14]) ++ [13]) ++ [10]) := by
  have w1 : (L ++ [14]).length = L.length + 1 := by rw [List.length_append]; rfl
  have w2 : ((L ++ [14]) ++ [13]).length = L.length + 2 := by rw [List.length_append, w1]; rfl
  have w3 : (((L ++ [14]) ++ [13]) ++ [10]).length = L.length + 3 := by rw [List.length_append, w2]; rfl
  obtain ⟨M0, t0, a0⟩ := am_trace (b := 14) h (by omega)
  have t0' : f_X7_began 14 M = some M0 := t0
  obtain ⟨M1, t1, a1⟩ := am_trace (b := 13) a0 (by omega)
  have t1' : f_X7_began 13 M0 = some M1 := t1
  obtain ⟨M2, t2, a2⟩ := mp hok hk a1 (by omega)
  rw [f_X7_textSize, (am_of hok hk h).1, Option.bind_some, hd, if_pos (show (nI 5, M).1 = 5 from rfl), f_X7_textSize_18, if_neg (show ¬ (1 : Int32) = 0 by decide), t0', Option.bind_some, f_X7_textSize_29, t1', Option.bind_some, t2, Option.bind_some, if_neg (show ¬ (1 : Int32) = 0 by decide)]
  exact ⟨M2, rfl, a2⟩
theorem mm_1 {U0 M : Mem} {S : Sh} {L : List Nat} {k : Nat} (hok : okS S) (hk : k < S.2.length) (h : AM U0 M S L) (hd : (pg S.2 k).1 = 1) (hL : L.length + 2 ≤ 16) : ∃ M', f_X7_markOf (nI k) M = some ((nI k + nI (own S k)), M') ∧ AM U0 M' S ((L ++ [21]) ++ [20]) := by
  have w1 : (L ++ [21]).length = L.length + 1 := by rw [List.length_append]; rfl
  have w2 : ((L ++ [21]) ++ [20]).length = L.length + 2 := by rw [List.length_append, w1]; rfl
  obtain ⟨M1, t1, a1⟩ := am_trace (b := 21) h (by omega)
  have t1' : f_X7_began 21 M = some M1 := t1
  obtain ⟨M2, t2, a2⟩ := am_trace (b := 20) a1 (by omega)
  have t2' : f_X7_began 20 M1 = some M2 := t2
  rw [f_X7_markOf, (am_of hok hk h).1, Option.bind_some, hd, if_pos (show (nI 1, M).1 < 4 from (show nI 1 < 4 by decide))]
  rw [if_pos (show (nI 1, M).1 = 1 from rfl), f_X7_markOf_56]
  dsimp only
  rw [t1', Option.bind_some, t2', Option.bind_some, am_own hok hk a2, Option.bind_some, if_pos (show nI 1 = (1 : Int32) from rfl)]
  exact ⟨M2, rfl, a2⟩
theorem mm_2 {U0 M : Mem} {S : Sh} {L : List Nat} {k : Nat} (hok : okS S) (hk : k < S.2.length) (h : AM U0 M S L) (hd : (pg S.2 k).1 = 2) (hL : L.length + 3 ≤ 16) : ∃ M', f_X7_markOf (nI k) M = some ((2 * (nI k + nI (own S k))), M') ∧ AM U0 M' S (((L ++ [24]) ++ [21]) ++ [20]) := by
  have w1 : (L ++ [24]).length = L.length + 1 := by rw [List.length_append]; rfl
  have w2 : ((L ++ [24]) ++ [21]).length = L.length + 2 := by rw [List.length_append, w1]; rfl
  have w3 : (((L ++ [24]) ++ [21]) ++ [20]).length = L.length + 3 := by rw [List.length_append, w2]; rfl
  obtain ⟨M1, t1, a1⟩ := am_trace (b := 24) h (by omega)
  have t1' : f_X7_began 24 M = some M1 := t1
  obtain ⟨M2, t2, a2⟩ := am_trace (b := 21) a1 (by omega)
  have t2' : f_X7_began 21 M1 = some M2 := t2
  obtain ⟨M3, t3, a3⟩ := am_trace (b := 20) a2 (by omega)
  have t3' : f_X7_began 20 M2 = some M3 := t3
  rw [f_X7_markOf, (am_of hok hk h).1, Option.bind_some, hd, if_pos (show (nI 2, M).1 < 4 from (show nI 2 < 4 by decide))]
  rw [if_neg (show ¬ (nI 2, M).1 = 1 from (show ¬ nI 2 = 1 by decide)), if_neg (show ¬ (nI 2, M).1 = 3 from (show ¬ nI 2 = 3 by decide)), f_X7_markOf_53_c0]
  dsimp only
  rw [t1', Option.bind_some, f_X7_markOf_56, t2', Option.bind_some, t3', Option.bind_some, am_own hok hk a3, Option.bind_some, if_neg (show ¬ nI 2 = (1 : Int32) by decide), if_neg (show ¬ nI 2 = (3 : Int32) by decide)]
  exact ⟨M3, rfl, a3⟩
theorem mm_3 {U0 M : Mem} {S : Sh} {L : List Nat} {k : Nat} (hok : okS S) (hk : k < S.2.length) (h : AM U0 M S L) (hd : (pg S.2 k).1 = 3) (hL : L.length + 3 ≤ 16) : ∃ M', f_X7_markOf (nI k) M = some ((nI k + nI (own S k) - 1000), M') ∧ AM U0 M' S (((L ++ [22]) ++ [21]) ++ [20]) := by
  have w1 : (L ++ [22]).length = L.length + 1 := by rw [List.length_append]; rfl
  have w2 : ((L ++ [22]) ++ [21]).length = L.length + 2 := by rw [List.length_append, w1]; rfl
  have w3 : (((L ++ [22]) ++ [21]) ++ [20]).length = L.length + 3 := by rw [List.length_append, w2]; rfl
  obtain ⟨M1, t1, a1⟩ := am_trace (b := 22) h (by omega)
  have t1' : f_X7_began 22 M = some M1 := t1
  obtain ⟨M2, t2, a2⟩ := am_trace (b := 21) a1 (by omega)
  have t2' : f_X7_began 21 M1 = some M2 := t2
  obtain ⟨M3, t3, a3⟩ := am_trace (b := 20) a2 (by omega)
  have t3' : f_X7_began 20 M2 = some M3 := t3
  rw [f_X7_markOf, (am_of hok hk h).1, Option.bind_some, hd, if_pos (show (nI 3, M).1 < 4 from (show nI 3 < 4 by decide))]
  rw [if_neg (show ¬ (nI 3, M).1 = 1 from (show ¬ nI 3 = 1 by decide)), if_pos (show (nI 3, M).1 = 3 from rfl), f_X7_markOf_53_c0]
  dsimp only
  rw [t1', Option.bind_some, f_X7_markOf_56, t2', Option.bind_some, t3', Option.bind_some, am_own hok hk a3, Option.bind_some, if_neg (show ¬ nI 3 = (1 : Int32) by decide), if_pos (show nI 3 = (3 : Int32) from rfl)]
  exact ⟨M3, rfl, a3⟩
theorem mm_4 {U0 M : Mem} {S : Sh} {L : List Nat} {k : Nat} (hok : okS S) (hk : k < S.2.length) (h : AM U0 M S L) (hd : (pg S.2 k).1 = 4) (hL : L.length + 4 ≤ 16) : ∃ M', f_X7_markOf (nI k) M = some ((nI k - (nI (pg S.2 k).2.2 - 100)), M') ∧ AM U0 M' S ((((L ++ [23]) ++ [20]) ++ [13]) ++ [10]) := by
  have w1 : (L ++ [23]).length = L.length + 1 := by rw [List.length_append]; rfl
  have w2 : ((L ++ [23]) ++ [20]).length = L.length + 2 := by rw [List.length_append, w1]; rfl
  obtain ⟨M1, t1, a1⟩ := am_trace (b := 23) h (by omega)
  have t1' : f_X7_began 23 M = some M1 := t1
  obtain ⟨M2, t2, a2⟩ := am_trace (b := 20) a1 (by omega)
  have t2' : f_X7_began 20 M1 = some M2 := t2
  obtain ⟨M3, t3, a3⟩ := mt_4 hok hk a2 hd (by omega)
  rw [f_X7_markOf, (am_of hok hk h).1, Option.bind_some, hd, if_neg (show ¬ (nI 4, M).1 < 4 from (show ¬ nI 4 < 4 by decide))]
  dsimp only
  rw [t1', Option.bind_some, t2', Option.bind_some, t3, Option.bind_some]
  exact ⟨M3, rfl, a3⟩
theorem mm_5 {U0 M : Mem} {S : Sh} {L : List Nat} {k : Nat} (hok : okS S) (hk : k < S.2.length) (h : AM U0 M S L) (hd : (pg S.2 k).1 = 5) (hL : L.length + 5 ≤ 16) : ∃ M', f_X7_markOf (nI k) M = some ((nI k - (2 * (nI (pg S.2 k).2.2 - 100))), M') ∧ AM U0 M' S (((((L ++ [23]) ++ [20]) ++ [14]) ++ [13]) ++ [10]) := by
  have w1 : (L ++ [23]).length = L.length + 1 := by rw [List.length_append]; rfl
  have w2 : ((L ++ [23]) ++ [20]).length = L.length + 2 := by rw [List.length_append, w1]; rfl
  obtain ⟨M1, t1, a1⟩ := am_trace (b := 23) h (by omega)
  have t1' : f_X7_began 23 M = some M1 := t1
  obtain ⟨M2, t2, a2⟩ := am_trace (b := 20) a1 (by omega)
  have t2' : f_X7_began 20 M1 = some M2 := t2
  obtain ⟨M3, t3, a3⟩ := mt_5 hok hk a2 hd (by omega)
  rw [f_X7_markOf, (am_of hok hk h).1, Option.bind_some, hd, if_neg (show ¬ (nI 5, M).1 < 4 from (show ¬ nI 5 < 4 by decide))]
  dsimp only
  rw [t1', Option.bind_some, t2', Option.bind_some, t3, Option.bind_some]
  exact ⟨M3, rfl, a3⟩
theorem mz_1 {U0 M : Mem} {S : Sh} {L : List Nat} {k : Nat} (hok : okS S) (hk : k < S.2.length) (h : AM U0 M S L) (hd : (pg S.2 k).1 = 1) (hL : L.length + 4 ≤ 16) : ∃ M', f_X7_sizeOf (nI k) M = some ((nI (pg S.2 k).2.2 + (nI k + nI (own S k))), M') ∧ AM U0 M' S ((((L ++ [11]) ++ [10]) ++ [21]) ++ [20]) := by
  have w1 : (L ++ [11]).length = L.length + 1 := by rw [List.length_append]; rfl
  have w2 : ((L ++ [11]) ++ [10]).length = L.length + 2 := by rw [List.length_append, w1]; rfl
  have w3 : (((L ++ [11]) ++ [10]) ++ [21]).length = L.length + 3 := by rw [List.length_append, w2]; rfl
  obtain ⟨M1, t1, a1⟩ := am_trace (b := 11) h (by omega)
  have t1' : f_X7_began 11 M = some M1 := t1
  obtain ⟨M2, t2, a2⟩ := mp hok hk a1 (by omega)
  obtain ⟨M3, t3, a3⟩ := mm_1 hok hk a2 hd (by omega)
  rw [f_X7_sizeOf, (am_of hok hk h).1, Option.bind_some, hd, if_pos (show (nI 1, M).1 < 4 from (show nI 1 < 4 by decide))]
  rw [if_neg (show ¬ (nI 1, M).1 = 2 from (show ¬ nI 1 = 2 by decide)), f_X7_sizeOf_32]
  dsimp only
  rw [t1', Option.bind_some, t2, Option.bind_some]
  dsimp only
  rw [t3, Option.bind_some, if_neg (show ¬ nI 1 = (2 : Int32) by decide)]
  exact ⟨M3, rfl, a3⟩
theorem mz_2 {U0 M : Mem} {S : Sh} {L : List Nat} {k : Nat} (hok : okS S) (hk : k < S.2.length) (h : AM U0 M S L) (hd : (pg S.2 k).1 = 2) (hL : L.length + 6 ≤ 16) : ∃ M', f_X7_sizeOf (nI k) M = some ((-(nI (pg S.2 k).2.2 + (2 * (nI k + nI (own S k))))), M') ∧ AM U0 M' S ((((((L ++ [12]) ++ [11]) ++ [10]) ++ [24]) ++ [21]) ++ [20]) := by
  have w1 : (L ++ [12]).length = L.length + 1 := by rw [List.length_append]; rfl
  have w2 : ((L ++ [12]) ++ [11]).length = L.length + 2 := by rw [List.length_append, w1]; rfl
  have w3 : (((L ++ [12]) ++ [11]) ++ [10]).length = L.length + 3 := by rw [List.length_append, w2]; rfl
  obtain ⟨M0, t0, a0⟩ := am_trace (b := 12) h (by omega)
  have t0' : f_X7_began 12 M = some M0 := t0
  obtain ⟨M1, t1, a1⟩ := am_trace (b := 11) a0 (by omega)
  have t1' : f_X7_began 11 M0 = some M1 := t1
  obtain ⟨M2, t2, a2⟩ := mp hok hk a1 (by omega)
  obtain ⟨M3, t3, a3⟩ := mm_2 hok hk a2 hd (by omega)
  rw [f_X7_sizeOf, (am_of hok hk h).1, Option.bind_some, hd, if_pos (show (nI 2, M).1 < 4 from (show nI 2 < 4 by decide))]
  rw [if_pos (show (nI 2, M).1 = 2 from rfl)]
  dsimp only
  rw [t0', Option.bind_some, f_X7_sizeOf_32, t1', Option.bind_some, t2, Option.bind_some]
  dsimp only
  rw [t3, Option.bind_some, if_pos (show nI 2 = (2 : Int32) from rfl)]
  exact ⟨M3, rfl, a3⟩
theorem mz_3 {U0 M : Mem} {S : Sh} {L : List Nat} {k : Nat} (hok : okS S) (hk : k < S.2.length) (h : AM U0 M S L) (hd : (pg S.2 k).1 = 3) (hL : L.length + 5 ≤ 16) : ∃ M', f_X7_sizeOf (nI k) M = some ((nI (pg S.2 k).2.2 + (nI k + nI (own S k) - 1000)), M') ∧ AM U0 M' S (((((L ++ [11]) ++ [10]) ++ [22]) ++ [21]) ++ [20]) := by
  have w1 : (L ++ [11]).length = L.length + 1 := by rw [List.length_append]; rfl
  have w2 : ((L ++ [11]) ++ [10]).length = L.length + 2 := by rw [List.length_append, w1]; rfl
  have w3 : (((L ++ [11]) ++ [10]) ++ [22]).length = L.length + 3 := by rw [List.length_append, w2]; rfl
  obtain ⟨M1, t1, a1⟩ := am_trace (b := 11) h (by omega)
  have t1' : f_X7_began 11 M = some M1 := t1
  obtain ⟨M2, t2, a2⟩ := mp hok hk a1 (by omega)
  obtain ⟨M3, t3, a3⟩ := mm_3 hok hk a2 hd (by omega)
  rw [f_X7_sizeOf, (am_of hok hk h).1, Option.bind_some, hd, if_pos (show (nI 3, M).1 < 4 from (show nI 3 < 4 by decide))]
  rw [if_neg (show ¬ (nI 3, M).1 = 2 from (show ¬ nI 3 = 2 by decide)), f_X7_sizeOf_32]
  dsimp only
  rw [t1', Option.bind_some, t2, Option.bind_some]
  dsimp only
  rw [t3, Option.bind_some, if_neg (show ¬ nI 3 = (2 : Int32) by decide)]
  exact ⟨M3, rfl, a3⟩
theorem mz_4 {U0 M : Mem} {S : Sh} {L : List Nat} {k : Nat} (hok : okS S) (hk : k < S.2.length) (h : AM U0 M S L) (hd : (pg S.2 k).1 = 4) (hL : L.length + 2 ≤ 16) : ∃ M', f_X7_sizeOf (nI k) M = some ((nI (pg S.2 k).2.2 - 100), M') ∧ AM U0 M' S ((L ++ [13]) ++ [10]) := by
  obtain ⟨M3, t3, a3⟩ := mt_4 hok hk h hd (by omega)
  rw [f_X7_sizeOf, (am_of hok hk h).1, Option.bind_some, hd, if_neg (show ¬ (nI 4, M).1 < 4 from (show ¬ nI 4 < 4 by decide))]
  dsimp only
  rw [t3, Option.bind_some]
  exact ⟨M3, rfl, a3⟩
theorem mz_5 {U0 M : Mem} {S : Sh} {L : List Nat} {k : Nat} (hok : okS S) (hk : k < S.2.length) (h : AM U0 M S L) (hd : (pg S.2 k).1 = 5) (hL : L.length + 3 ≤ 16) : ∃ M', f_X7_sizeOf (nI k) M = some ((2 * (nI (pg S.2 k).2.2 - 100)), M') ∧ AM U0 M' S (((L ++ [14]) ++ [13]) ++ [10]) := by
  obtain ⟨M3, t3, a3⟩ := mt_5 hok hk h hd (by omega)
  rw [f_X7_sizeOf, (am_of hok hk h).1, Option.bind_some, hd, if_neg (show ¬ (nI 5, M).1 < 4 from (show ¬ nI 5 < 4 by decide))]
  dsimp only
  rw [t3, Option.bind_some]
  exact ⟨M3, rfl, a3⟩
theorem inv_ax {V U V' U' : Mem} {S : Sh} {A : List Act} {L : List Nat} (h : Inv V U) (hSS : SS V U S A) (hL : L.length ≤ 16) (hx : AX V V' S L) (hm : AM U U' S L) : Inv V' U' := by
  obtain ⟨x1, x2, x3, x4, x5, x6, x7⟩ := hx
  obtain ⟨m1, m2, m3, m4, m5, m6⟩ := hm
  obtain ⟨g1, g2, g3, g4, -, g6, g7⟩ := h
  obtain ⟨b1, b2, b3, b4, b5, b6, b7⟩ := hSS
  refine ⟨g1.cg (fun i q1 q2 => x1 i (by omega)) (m1 1 (by omega) (by omega) (by omega)) (m1 2 (by omega) (by omega) (by omega)) (m1 3 (by omega) (by omega) (by omega)), g2.cg (x3 12 (by omega)) (x3 13 (by omega)) (m2 1 (by omega) (by omega)) (m2 18 (by omega) (by omega)), g3.cg (by rw [x1 2 (by omega)]) (x1 3 (by omega)) (m2 11 (by omega) (by omega)) (m1 8 (by omega) (by omega) (by omega)), ⟨L.length, hL, x6, m5, fun j hj => by rw [x7 j hj, m6 j hj]⟩, ⟨S, A, b1, x4, x5, m3, b5.cg (x1 67 (by omega)) (fun i hi => x1 (69 + i) (by omega)), by rw [m2 9 (by omega) (by omega)]; exact b6, b7.cg (m1 7 (by omega) (by omega) (by omega))⟩, g6.cg (fun i q1 q2 => x1 i (by omega)) (m1 14 (by omega) (by omega) (by omega)) (m1 15 (by omega) (by omega) (by omega)), fun x hx => by rw [x1 41 (by omega)]; exact g7 x hx⟩
theorem s_ask : S_ask Inv := by
  intro a b V U h
  obtain ⟨S, A, hSS⟩ := h.2.2.2.2.1
  obtain ⟨hok, hX, hC, hM, -⟩ := id hSS
  have h24 := hok.2.2.1
  have hM' : ShM (st U 0 0 0 4) S := by rw [st_id (by omega)]; exact hM
  unfold f_X6_ask f_X7_ask
  rcases dich a S.2.length with ⟨k, hk, rfl⟩ | hk
  · rw [has_yes hX.1 (by omega) hk, par_yes hM'.1 (by omega) hk, Option.bind_some, Option.bind_some, if_neg i10, if_neg i10]
    dsimp only
    rw [isBetween_eq, show (0 : Int64) = (0 : Int32).toInt64 from rfl, show (1 : Int64) = (1 : Int32).toInt64 from rfl, inw, Option.bind_some, Option.bind_some]
    by_cases h1 : 0 ≤ b ∧ b ≤ 1
    · rw [if_neg (fun q => ((b01z _).mp q) h1), if_neg (fun q => ((b01z _).mp q) h1)]
      dsimp only
      have hM2 : ShM (st (st U 0 0 0) 0 29 0 4) S := by rw [st_id (by omega)]; exact hM'
      rw [countAll_eq (by omega) hM2 hok, Option.bind_some]
      have ax : AX V (st V 0 11 0) S [] := ⟨fun a q => st_id (by omega), fun k _ => st_ne1 (by omega), fun k q => st_ne2 q, hX.cg (st_ne1 (by omega)) (fun k q1 q2 => st_id (by omega)), hC.cg h24 (st_ne1 (by omega)) (fun k _ => st_id (by omega)), st_same, fun j hj => absurd hj (by simp)⟩
      have am : AM U (mk (st (st U 0 0 0) 0 29 0) S.2 S.2.length) S [] := ⟨fun a q1 q2 q3 => by rw [mk_id (by omega), st_id q1, st_id q1], fun k q1 q2 => by rw [mk_id (by omega), st_ne2 q2, st_ne2 q1], by rw [mk_id (by omega)]; exact hM2, fun k l hk hl => mk_11 hk hl, by rw [mk_id (by omega), st_same]; rfl, fun j hj => absurd hj (by simp)⟩
      generalize mk (st (st U 0 0 0) 0 29 0) S.2 S.2.length = MM at *
      obtain ⟨i, hi, rfl⟩ := btw (n := 1) (by omega) h1
      have hp := pg_ok hok.2.2.2 hk
      have hp1 := hp.1
      have hp5 := hp.2.1
      rcases (show i = 0 ∨ i = 1 by omega) with rfl | rfl
      · rcases (show (pg S.2 k).1 = 1 ∨ (pg S.2 k).1 = 2 ∨ (pg S.2 k).1 = 3 ∨ (pg S.2 k).1 = 4 ∨ (pg S.2 k).1 = 5 by omega) with hd | hd | hd | hd | hd
        · obtain ⟨V1, x1, x2⟩ := zs_1 (e := 0) hok hk ax hd (by decide) (by omega)
          have x1' : f_X6_answerTo_L6 (nI 0) (nI k) 0 (st V 0 11 0) = _ := x1
          obtain ⟨M1, y1, y2⟩ := mz_1 hok hk am hd (by decide)
          rw [x1', Option.bind_some, if_pos (show nI 0 = (0 : Int32) from rfl), y1, Option.bind_some]
          exact ⟨_, _, rfl, rfl, rfl, inv_ax h hSS (by decide) x2 y2⟩
        · obtain ⟨V1, x1, x2⟩ := zs_2 (e := 0) hok hk ax hd (by decide) (by omega)
          have x1' : f_X6_answerTo_L6 (nI 0) (nI k) 0 (st V 0 11 0) = _ := x1
          obtain ⟨M1, y1, y2⟩ := mz_2 hok hk am hd (by decide)
          rw [x1', Option.bind_some, if_pos (show nI 0 = (0 : Int32) from rfl), y1, Option.bind_some]
          exact ⟨_, _, rfl, rfl, rfl, inv_ax h hSS (by decide) x2 y2⟩
        · obtain ⟨V1, x1, x2⟩ := zs_3 (e := 0) hok hk ax hd (by decide) (by omega)
          have x1' : f_X6_answerTo_L6 (nI 0) (nI k) 0 (st V 0 11 0) = _ := x1
          obtain ⟨M1, y1, y2⟩ := mz_3 hok hk am hd (by decide)
          rw [x1', Option.bind_some, if_pos (show nI 0 = (0 : Int32) from rfl), y1, Option.bind_some]
          exact ⟨_, _, rfl, rfl, rfl, inv_ax h hSS (by decide) x2 y2⟩
        · obtain ⟨V1, x1, x2⟩ := zs_4 (e := 0) hok hk ax hd (by decide) (by omega)
          have x1' : f_X6_answerTo_L6 (nI 0) (nI k) 0 (st V 0 11 0) = _ := x1
          obtain ⟨M1, y1, y2⟩ := mz_4 hok hk am hd (by decide)
          rw [x1', Option.bind_some, if_pos (show nI 0 = (0 : Int32) from rfl), y1, Option.bind_some]
          exact ⟨_, _, rfl, rfl, rfl, inv_ax h hSS (by decide) x2 y2⟩
        · obtain ⟨V1, x1, x2⟩ := zs_5 (e := 0) hok hk ax hd (by decide) (by omega)
          have x1' : f_X6_answerTo_L6 (nI 0) (nI k) 0 (st V 0 11 0) = _ := x1
          obtain ⟨M1, y1, y2⟩ := mz_5 hok hk am hd (by decide)
          rw [x1', Option.bind_some, if_pos (show nI 0 = (0 : Int32) from rfl), y1, Option.bind_some]
          exact ⟨_, _, rfl, rfl, rfl, inv_ax h hSS (by decide) x2 y2⟩
      · rcases (show (pg S.2 k).1 = 1 ∨ (pg S.2 k).1 = 2 ∨ (pg S.2 k).1 = 3 ∨ (pg S.2 k).1 = 4 ∨ (pg S.2 k).1 = 5 by omega) with hd | hd | hd | hd | hd
        · obtain ⟨V1, x1, x2⟩ := zm_1 (e := 0) hok hk ax hd (by decide) (by omega)
          have x1' : f_X6_answerTo_L6 (nI 1) (nI k) 0 (st V 0 11 0) = _ := x1
          obtain ⟨M1, y1, y2⟩ := mm_1 hok hk am hd (by decide)
          rw [x1', Option.bind_some, if_neg (show ¬ nI 1 = (0 : Int32) by decide), y1, Option.bind_some]
          exact ⟨_, _, rfl, rfl, rfl, inv_ax h hSS (by decide) x2 y2⟩
        · obtain ⟨V1, x1, x2⟩ := zm_2 (e := 0) hok hk ax hd (by decide) (by omega)
          have x1' : f_X6_answerTo_L6 (nI 1) (nI k) 0 (st V 0 11 0) = _ := x1
          obtain ⟨M1, y1, y2⟩ := mm_2 hok hk am hd (by decide)
          rw [x1', Option.bind_some, if_neg (show ¬ nI 1 = (0 : Int32) by decide), y1, Option.bind_some]
          exact ⟨_, _, rfl, rfl, rfl, inv_ax h hSS (by decide) x2 y2⟩
        · obtain ⟨V1, x1, x2⟩ := zm_3 (e := 0) hok hk ax hd (by decide) (by omega)
          have x1' : f_X6_answerTo_L6 (nI 1) (nI k) 0 (st V 0 11 0) = _ := x1
          obtain ⟨M1, y1, y2⟩ := mm_3 hok hk am hd (by decide)
          rw [x1', Option.bind_some, if_neg (show ¬ nI 1 = (0 : Int32) by decide), y1, Option.bind_some]
          exact ⟨_, _, rfl, rfl, rfl, inv_ax h hSS (by decide) x2 y2⟩
        · obtain ⟨V1, x1, x2⟩ := zm_4 (e := 0) hok hk ax hd (by decide) (by omega)
          have x1' : f_X6_answerTo_L6 (nI 1) (nI k) 0 (st V 0 11 0) = _ := x1
          obtain ⟨M1, y1, y2⟩ := mm_4 hok hk am hd (by decide)
          rw [x1', Option.bind_some, if_neg (show ¬ nI 1 = (0 : Int32) by decide), y1, Option.bind_some]
          exact ⟨_, _, rfl, rfl, rfl, inv_ax h hSS (by decide) x2 y2⟩
        · obtain ⟨V1, x1, x2⟩ := zm_5 (e := 0) hok hk ax hd (by decide) (by omega)
          have x1' : f_X6_answerTo_L6 (nI 1) (nI k) 0 (st V 0 11 0) = _ := x1
          obtain ⟨M1, y1, y2⟩ := mm_5 hok hk am hd (by decide)
          rw [x1', Option.bind_some, if_neg (show ¬ nI 1 = (0 : Int32) by decide), y1, Option.bind_some]
          exact ⟨_, _, rfl, rfl, rfl, inv_ax h hSS (by decide) x2 y2⟩
    · rw [if_pos ((b01z _).mpr h1), if_pos ((b01z _).mpr h1)]
      exact ⟨_, _, rfl, rfl, rfl, inv_t h⟩
  · rw [has_no hX.1 (by omega) hk, par_no hM'.1 (by omega) hk, Option.bind_some, Option.bind_some, if_pos rfl, if_pos rfl]
    exact ⟨_, _, rfl, rfl, rfl, inv_t h⟩
end
section
/-! lost: bits, powers, divisors. -/
def rk (P : List Pg) : Nat → Nat
  | 0 => 0
  | k + 1 => rk P k + (if (pg P k).1 = 2 then 1 else 0)
theorem rk_nK {P : List Pg} : ∀ (d k : Nat), rk P k + nK P 2 d k = rk P (k + d) := by
  intro d
  induction d with
  | zero => intro k; rfl
  | succ d ih =>
    intro k
    rw [nK, ← Nat.add_assoc, show k + (d + 1) = k + 1 + d by omega, ← ih (k + 1), rk]
theorem rk_le {P : List Pg} : ∀ (d k : Nat), rk P k ≤ rk P (k + d) := by
  intro d k
  rw [← rk_nK]
  omega
theorem rk_mono {P : List Pg} {i j : Nat} (h : i ≤ j) : rk P i ≤ rk P j := by
  have := rk_le (P := P) (j - i) i
  rw [show i + (j - i) = j by omega] at this
  exact this
theorem rk_lt {P : List Pg} {i j : Nat} (h : i < j) (hk : (pg P i).1 = 2) : rk P i < rk P j := by
  have := rk_mono (P := P) (show i + 1 ≤ j by omega)
  rw [rk, if_pos hk] at this
  omega
theorem rk_ex {P : List Pg} {r : Nat} : ∀ (n : Nat), r < rk P n → ∃ j, j < n ∧ (pg P j).1 = 2 ∧ rk P j = r := by
  intro n
  induction n with
  | zero => intro h; exact absurd h (by rw [rk]; omega)
  | succ n ih =>
    intro h
    rw [rk] at h
    by_cases c : r < rk P n
    · obtain ⟨j, j1, j2, j3⟩ := ih c
      exact ⟨j, by omega, j2, j3⟩
    · by_cases c2 : (pg P n).1 = 2
      · rw [if_pos c2] at h
        exact ⟨n, by omega, c2, by omega⟩
      · rw [if_neg c2] at h
        omega
/-- all restarts as bits -/
def al (P : List Pg) : Nat → Nat
  | 0 => 0
  | k + 1 => if (pg P k).1 = 2 then al P k ||| 2 ^ k else al P k
theorem al_lt {P : List Pg} : ∀ (k : Nat), al P k < 2 ^ k := by
  intro k
  induction k with
  | zero => rw [al]; omega
  | succ k ih =>
    have h2 : 2 ^ k < 2 ^ (k + 1) := Nat.pow_lt_pow_right (by omega) (by omega)
    rw [al]
    by_cases c : (pg P k).1 = 2
    · rw [if_pos c]
      exact Nat.or_lt_two_pow (by omega) h2
    · rw [if_neg c]
      omega
theorem al_bit {P : List Pg} {j : Nat} : ∀ (k : Nat), (al P k).testBit j = decide (j < k ∧ (pg P j).1 = 2) := by
  intro k
  induction k with
  | zero =>
    rw [al, Nat.zero_testBit]
    exact (decide_eq_false (fun q => absurd q.1 (by omega))).symm
  | succ k ih =>
    rw [al]
    by_cases c : (pg P k).1 = 2
    · rw [if_pos c, Nat.testBit_or, ih, Nat.testBit_two_pow]
      by_cases e : k = j
      · subst e
        simp [c]
      · have : (j < k + 1) ↔ (j < k) := by omega
        simp [e, this]
    · rw [if_neg c, ih]
      by_cases e : k = j
      · subst e
        simp [c]
      · have : (j < k + 1) ↔ (j < k) := by omega
        simp [this]
theorem orI {a b : Nat} (ha : a < 2147483648) (hb : b < 2147483648) : nI a ||| nI b = nI (a ||| b) := by
  apply Int32.toBitVec_inj.mp
  apply BitVec.eq_of_toNat_eq
  have h : a ||| b < 2 ^ 31 := Nat.or_lt_two_pow ha hb
  rw [Int32.toBitVec_or, BitVec.toNat_or, pk_tn (by omega), pk_tn (by omega), pk_tn (by omega)]
theorem shJ : ∀ j, j < 24 → ((nI j &&& 31).toBitVec.smod 32).toNat = j := by decide
theorem shl1 : ∀ j, j < 24 → (1 : Int32) <<< (nI j &&& 31) = nI (2 ^ j) := by decide
theorem al24 {P : List Pg} {n : Nat} (hn : n ≤ 24) : al P n < 16777216 := by
  have h := al_lt (P := P) n
  have h2 : 2 ^ n ≤ 2 ^ 24 := Nat.pow_le_pow_right (by omega) hn
  omega
theorem bitAl {P : List Pg} {n j : Nat} (hn : n ≤ 24) (hj : j < 24) : (nI (al P n) >>> (nI j &&& 31)) &&& 1 = if j < n ∧ (pg P j).1 = 2 then 1 else 0 := by
  have h := al24 (P := P) hn
  have h2 : al P n / 2 ^ j ≤ al P n := Nat.div_le_self _ _
  rw [pk_shrN (by omega) _ j (shJ j hj), pk_andN (by omega) 1 (by decide)]
  have hb := al_bit (P := P) (j := j) n
  rw [Nat.testBit_eq_decide_div_mod_eq] at hb
  by_cases c : j < n ∧ (pg P j).1 = 2
  · rw [if_pos c]
    rw [decide_eq_true c] at hb
    rw [show al P n / 2 ^ j % 2 ^ 1 = 1 from of_decide_eq_true hb]
    rfl
  · rw [if_neg c]
    rw [decide_eq_false c] at hb
    have h3 : ¬ al P n / 2 ^ j % 2 = 1 := of_decide_eq_false hb
    rw [show al P n / 2 ^ j % 2 ^ 1 = 0 by omega]
    rfl
/-! the divisor -/
theorem half {b r : Nat} (hr : 0 < r) (h : r ≤ b) : 2 * (b % r) < b := by
  have h1 : b % r < r := Nat.mod_lt b hr
  have h2 := Nat.div_add_mod b r
  have h3 : 1 ≤ b / r := (Nat.one_le_div_iff hr).mpr h
  have h4 : r * 1 ≤ r * (b / r) := Nat.mul_le_mul_left r h3
  omega
theorem gcd2 {a b : Nat} : Nat.gcd a b = Nat.gcd b (a % b) := by
  rw [Nat.gcd_comm a b, Nat.gcd_rec b a, Nat.gcd_comm]
theorem lcmp_le {b : Nat} (hb : b < 9223372036854775808) : (lg_cmp (lN b) (0 : Int64) ≤ 0) ↔ b = 0 := by
  have := cmp_le (i := b) (m := 0) hb (by omega)
  rw [show (0 : Int64) = lN 0 from rfl, this]
  omega
theorem lcmp_eq {b : Nat} (hb : b < 9223372036854775808) : (lg_cmp (lN b) (0 : Int64) = 0) ↔ b = 0 := by
  constructor
  · intro h
    exact (lcmp_le hb).mp (by rw [h]; exact Int32.le_refl 0)
  · intro h
    rw [h]
    decide
theorem leq0 {b : Nat} (hb : b < 9223372036854775808) : (lN b = (0 : Int64)) ↔ b = 0 := pk_lEQ (b := 0) hb (by omega)
theorem gc_end {V : Mem} {a : Nat} (ha : 1 ≤ a) (ha2 : a < 9223372036854775808) : f_X6_commonDivisor_44 (lN a) V = some (lN a, V) := by
  unfold f_X6_commonDivisor_44
  by_cases c : 1 < a
  · rw [if_pos (by rw [show (1 : Int64) = lN 1 from rfl, pk_lLT (by omega) (by omega)]; exact c)]
  · rw [if_neg (by rw [show (1 : Int64) = lN 1 from rfl, pk_lLT (by omega) (by omega)]; exact c), show a = 1 by omega]
    rfl
theorem gc_x {V : Mem} : ∀ (k a b s n : Nat), 1 ≤ a → a < 4000000 → b < 4000000 → b < 2 ^ k → s + 2 * k + 1 ≤ 100 → 2 * k + 1 < n → f_X6_commonDivisor_9 n (lN a) (lN b) (nI s) V = some (lN (Nat.gcd a b), V) := by
  intro k
  induction k with
  | zero =>
    intro a b s n ha ha2 hb2 hb hs hn
    obtain ⟨n, rfl⟩ : ∃ n', n = n' + 1 := ⟨n - 1, by omega⟩
    have e : b = 0 := by omega
    subst e
    rw [f_X6_commonDivisor_9, if_neg (by rw [li, nle (by omega) (by omega)]; omega), if_pos ((lcmp_le (by omega)).mpr rfl), gc_end ha (by omega), Nat.gcd_zero_right]
  | succ k ih =>
    intro a b s n ha ha2 hb2 hb hs hn
    obtain ⟨n, rfl⟩ : ∃ n', n = n' + 1 + 1 := ⟨n - 2, by omega⟩
    have e1 : nI s + 1 = nI (s + 1) := nI_1 s
    have e2 : nI (s + 1) + 1 = nI (s + 2) := nI_1 (s + 1)
    rw [f_X6_commonDivisor_9, if_neg (by rw [li, nle (by omega) (by omega)]; omega)]
    by_cases c : b = 0
    · subst c
      rw [if_pos ((lcmp_le (by omega)).mpr rfl), gc_end ha (by omega), Nat.gcd_zero_right]
    · rw [if_neg (fun q => c ((lcmp_le (by omega)).mp q)), if_neg (fun q => c ((leq0 (by omega)).mp q)), pk_lRem (by omega) (by omega) (by omega), e1, f_X6_commonDivisor_9, if_neg (by rw [li, nle (by omega) (by omega)]; omega)]
      have hr : a % b < b := Nat.mod_lt a (by omega)
      by_cases c2 : a % b = 0
      · rw [if_pos ((lcmp_le (by omega)).mpr c2), gc_end (by omega) (by omega), gcd2, c2, Nat.gcd_zero_right]
      · have hh := half (b := b) (r := a % b) (by omega) (by omega)
        rw [if_neg (fun q => c2 ((lcmp_le (by omega)).mp q)), if_neg (fun q => c2 ((leq0 (by omega)).mp q)), pk_lRem (by omega) (by omega) (by omega), e2, ih (a % b) (b % (a % b)) (s + 2) n (by omega) (by omega) (by omega) (by rw [Nat.pow_succ] at hb; omega) (by omega) (by omega), ← gcd2, ← gcd2]
theorem gc_m {M : Mem} {w : Int32} {A B : Int64} : ∀ (k a b n : Nat), a < 4000000 → b < 4000000 → b < 2 ^ k → 2 * k + 1 < n → f_X7_lost_242 n w A B (lN a) (lN b) M = if w = 0 then f_X7_lost_279 (lN (Nat.gcd a b)) A M else f_X7_lost_279 (lN (Nat.gcd a b)) B M := by
  intro k
  induction k with
  | zero =>
    intro a b n ha hb2 hb hn
    obtain ⟨n, rfl⟩ : ∃ n', n = n' + 1 := ⟨n - 1, by omega⟩
    have e : b = 0 := by omega
    subst e
    rw [f_X7_lost_242, if_pos ((lcmp_eq (by omega)).mpr rfl), Nat.gcd_zero_right]
  | succ k ih =>
    intro a b n ha hb2 hb hn
    obtain ⟨n, rfl⟩ : ∃ n', n = n' + 1 + 1 := ⟨n - 2, by omega⟩
    rw [f_X7_lost_242]
    by_cases c : b = 0
    · subst c
      rw [if_pos ((lcmp_eq (by omega)).mpr rfl), Nat.gcd_zero_right]
    · rw [if_neg (fun q => c ((lcmp_eq (by omega)).mp q)), if_neg (fun q => c ((leq0 (by omega)).mp q)), pk_lRem (by omega) (by omega) (by omega), f_X7_lost_242]
      have hr : a % b < b := Nat.mod_lt a (by omega)
      by_cases c2 : a % b = 0
      · rw [if_pos ((lcmp_eq (by omega)).mpr c2), gcd2 (a := a), c2, Nat.gcd_zero_right]
      · have hh := half (b := b) (r := a % b) (by omega) (by omega)
        rw [if_neg (fun q => c2 ((lcmp_eq (by omega)).mp q)), if_neg (fun q => c2 ((leq0 (by omega)).mp q)), pk_lRem (by omega) (by omega) (by omega), ih (a % b) (b % (a % b)) n (by omega) (by omega) (by rw [Nat.pow_succ] at hb; omega) (by omega), ← gcd2, ← gcd2]
/-! powers and ways -/
theorem pow_x {V : Mem} {b t : Nat} (ht : t ≤ 5) : ∀ (d n k : Nat), k + d = t → d < n → f_X6_power_5 n (lN b) (nI t) (lN (b ^ k)) (nI k) V = some (lN (b ^ t), V) := by
  intro d
  induction d with
  | zero =>
    intro n k hk hn
    obtain ⟨n, rfl⟩ : ∃ n', n = n' + 1 := ⟨n - 1, by omega⟩
    rw [f_X6_power_5, if_pos (by rw [nle (by omega) (by omega)]; omega), show k = t by omega]
  | succ d ih =>
    intro n k hk hn
    obtain ⟨n, rfl⟩ : ∃ n', n = n' + 1 := ⟨n - 1, by omega⟩
    have e1 : nI k + 1 = nI (k + 1) := nI_1 k
    rw [f_X6_power_5, if_neg (by rw [nle (by omega) (by omega)]; omega), lN_mul, e1, ← Nat.pow_succ]
    exact ih n (k + 1) (by omega) (by omega)
theorem power_x {V : Mem} {b t : Nat} (ht : t ≤ 5) : f_X6_power (lN b) (nI t) V = some (lN (b ^ t), V) := by
  unfold f_X6_power
  exact pow_x ht t 4096 0 (by omega) (by omega)
def bc (c : Nat) : Nat := c % 2 + c / 2 % 2 + c / 4 % 2 + c / 8 % 2 + c / 16 % 2
def wN (c p : Nat) : Nat → Nat
  | 0 => 1
  | r + 1 => wN c p r * (if c / 2 ^ r % 2 = 1 then p else 10 - p)
def sm (f : Nat → Nat) : Nat → Nat
  | 0 => 0
  | n + 1 => sm f n + f n
theorem ways_eq : ∀ m, m < 6 → ∀ c, c < 32 → ∀ p, p < 11 → c < 2 ^ m → bc c ≤ m ∧ wN c p m = p ^ bc c * (10 - p) ^ (m - bc c) := by decide +kernel
theorem ways_sum : ∀ m, m < 6 → ∀ p, p < 11 → sm (fun c => wN c p m) (2 ^ m) = 10 ^ m := by decide +kernel
theorem bc_x {V : Mem} : ∀ c, c < 32 → f_J6_bitCount_0f7a4 (nI c) V = some (nI (bc c), V) := by
  intro c hc
  unfold f_J6_bitCount_0f7a4
  refine congrArg (fun x => some (x, V)) ?_
  revert c
  decide +kernel
theorem bitC : ∀ c, c < 32 → ∀ r, r < 5 → (((nI c >>> (nI r &&& 31)) &&& 1 = 1) ↔ c / 2 ^ r % 2 = 1) := by decide +kernel
theorem bitL : ∀ c, c < 32 → (((nI c &&& 1) = 1) ↔ c % 2 = 1) ∧ nI c >>> ((1 : Int32) &&& 31) = nI (c / 2) := by decide +kernel
theorem shl5 : ∀ m, m < 6 → (1 : Int32) <<< (nI m &&& 31) = nI (2 ^ m) := by decide
end
section
/-! lost. -/
def kc (P : List Pg) (c k : Nat) : Nat := if c / 2 ^ rk P k % 2 = 1 then 1 else 2
def Tc (S : Sh) (c o : Nat) : Sh := (S.1, (List.range S.2.length).map (fun k => if k < o ∧ (pg S.2 k).1 = 2 then (kc S.2 c k, (pg S.2 k).2) else pg S.2 k))
theorem len_Tc {S : Sh} {c o : Nat} : (Tc S c o).2.length = S.2.length := by
  unfold Tc
  rw [List.length_map, List.length_range]
theorem pg_Tc {S : Sh} {c o k : Nat} (hk : k < S.2.length) : pg (Tc S c o).2 k = if k < o ∧ (pg S.2 k).1 = 2 then (kc S.2 c k, (pg S.2 k).2) else pg S.2 k := by
  unfold Tc
  show ((List.range S.2.length).map _).getD k (0, 0, 0) = _
  rw [List.getD_eq_getElem?_getD, List.getElem?_map, List.getElem?_range hk]
  rfl
theorem ok_pg {S T : Sh} (hok : okS S) (h1 : T.1 = S.1) (h2 : T.2.length ≤ 24) (h : ∀ k, k < T.2.length → okP (pg T.2 k)) : okS T := by
  refine ⟨by rw [h1]; exact hok.1, by rw [h1]; exact hok.2.1, h2, fun p hp => ?_⟩
  obtain ⟨k, hk, e⟩ := List.mem_iff_getElem.mp hp
  have := h k hk
  unfold pg at this
  rw [List.getD_eq_getElem?_getD, List.getElem?_eq_getElem hk] at this
  rw [← e]
  exact this
theorem kc_12 {P : List Pg} {c k : Nat} : kc P c k = 1 ∨ kc P c k = 2 := by
  unfold kc
  split
  · exact Or.inl rfl
  · exact Or.inr rfl
theorem ok_Tc {S : Sh} {c o : Nat} (hok : okS S) : okS (Tc S c o) := by
  refine ok_pg hok rfl (by rw [len_Tc]; exact hok.2.2.1) (fun k hk => ?_)
  rw [len_Tc] at hk
  have hp := pg_ok hok.2.2.2 hk
  rw [pg_Tc hk]
  by_cases c1 : k < o ∧ (pg S.2 k).1 = 2
  · rw [if_pos c1]
    rcases kc_12 (P := S.2) (c := c) (k := k) with e | e
    · exact ⟨by dsimp only; omega, by dsimp only; omega, hp.2.2.1, hp.2.2.2⟩
    · exact ⟨by dsimp only; omega, by dsimp only; omega, hp.2.2.1, hp.2.2.2⟩
  · rw [if_neg c1]
    exact hp
theorem Tc_0 {S : Sh} {c : Nat} : Tc S c 0 = S := by
  refine Prod.ext rfl (pg_ext len_Tc (fun k hk => ?_))
  rw [len_Tc] at hk
  rw [pg_Tc hk, if_neg (by omega)]
theorem Tc_no {S : Sh} {c o : Nat} (h : ¬ (pg S.2 o).1 = 2) : Tc S c (o + 1) = Tc S c o := by
  refine Prod.ext rfl (pg_ext (by rw [len_Tc, len_Tc]) (fun k hk => ?_))
  rw [len_Tc] at hk
  rw [pg_Tc hk, pg_Tc hk]
  by_cases e : k = o
  · subst e
    rw [if_neg (fun q => h q.2), if_neg (fun q => h q.2)]
  · have : (k < o + 1) ↔ (k < o) := by omega
    simp only [this]
theorem Tc_yes {S : Sh} {c o : Nat} (ho : o < S.2.length) (h : (pg S.2 o).1 = 2) : Tc S c (o + 1) = setS (Tc S c o) o (qv (Tc S c o) o 0 (kc S.2 c o)) := by
  refine Prod.ext rfl ?_
  show (Tc S c (o + 1)).2 = (Tc S c o).2.set o (qv (Tc S c o) o 0 (kc S.2 c o))
  refine pg_ext (by rw [List.length_set, len_Tc, len_Tc]) (fun k hk => ?_)
  rw [len_Tc] at hk
  rw [pg_Tc hk, pg_set (by rw [len_Tc]; exact ho)]
  by_cases e : k = o
  · subst e
    have e2 : pg (Tc S c k).2 k = pg S.2 k := by rw [pg_Tc hk, if_neg (by omega)]
    rw [if_pos ⟨by omega, h⟩, if_pos rfl]
    unfold qv
    rw [if_pos rfl, e2]
  · have : (k < o + 1) ↔ (k < o) := by omega
    rw [if_neg e, pg_Tc hk]
    simp only [this]
def NR (V : Mem) (S : Sh) : Prop := ∀ j, j < S.2.length → (pg S.2 j).1 = 2 → V 97 (rk S.2 j) = nI j
def LT (S : Sh) (c r : Nat) (T : Sh) : Prop := T.1 = S.1 ∧ T.2.length = S.2.length ∧ ∀ k, k < S.2.length → (pg T.2 k).2 = (pg S.2 k).2 ∧ ((pg S.2 k).1 ≠ 2 → (pg T.2 k).1 = (pg S.2 k).1) ∧ ((pg S.2 k).1 = 2 → ((pg T.2 k).1 = 1 ∨ (pg T.2 k).1 = 2) ∧ (rk S.2 k < r → (pg T.2 k).1 = kc S.2 c k))
theorem LT_ok {S T : Sh} {c r : Nat} (hok : okS S) (h : LT S c r T) : okS T := by
  obtain ⟨h1, h2, h3⟩ := h
  have h24 := hok.2.2.1
  refine ok_pg hok h1 (by omega) (fun k hk => ?_)
  have hk2 : k < S.2.length := by omega
  have hp := pg_ok hok.2.2.2 hk2
  obtain ⟨a1, a2, a3⟩ := h3 k hk2
  have a4 : 1 ≤ (pg T.2 k).1 ∧ (pg T.2 k).1 ≤ 5 := by
    by_cases c2 : (pg S.2 k).1 = 2
    · have := (a3 c2).1
      omega
    · rw [a2 c2]
      exact ⟨hp.1, hp.2.1⟩
  refine ⟨a4.1, a4.2, ?_, ?_⟩
  · rw [a1]; exact hp.2.2.1
  · rw [a1]; exact hp.2.2.2
theorem LT_0 {S T : Sh} {c c' r : Nat} (h : LT S c r T) : LT S c' 0 T := ⟨h.1, h.2.1, fun k hk => ⟨(h.2.2 k hk).1, (h.2.2 k hk).2.1, fun e => ⟨((h.2.2 k hk).2.2 e).1, fun q => absurd q (by omega)⟩⟩⟩
theorem LT_S {S : Sh} {c : Nat} : LT S c 0 S := ⟨rfl, rfl, fun k hk => ⟨rfl, fun _ => rfl, fun e => ⟨Or.inr e, fun q => absurd q (by omega)⟩⟩⟩
theorem LT_end {S T : Sh} {c : Nat} (h : LT S c (rk S.2 S.2.length) T) : T = Tc S c S.2.length := by
  refine Prod.ext h.1 (pg_ext (by rw [len_Tc]; exact h.2.1) (fun k hk => ?_))
  have hk2 : k < S.2.length := by rw [← h.2.1]; exact hk
  obtain ⟨a1, a2, a3⟩ := h.2.2 k hk2
  rw [pg_Tc hk2]
  by_cases e : (pg S.2 k).1 = 2
  · rw [if_pos ⟨hk2, e⟩]
    exact Prod.ext ((a3 e).2 (rk_lt hk2 e)) a1
  · rw [if_neg (fun q => e q.2)]
    exact Prod.ext (a2 e) a1
theorem LT_Tc {S : Sh} {c c' : Nat} : LT S c' 0 (Tc S c S.2.length) := by
  refine ⟨rfl, len_Tc, fun k hk => ?_⟩
  rw [pg_Tc hk]
  by_cases e : (pg S.2 k).1 = 2
  · rw [if_pos ⟨hk, e⟩]
    exact ⟨rfl, fun q => absurd e q, fun _ => ⟨kc_12, fun q => absurd q (by omega)⟩⟩
  · rw [if_neg (fun q => e q.2)]
    exact ⟨rfl, fun _ => rfl, fun q => absurd q e⟩
theorem LT_step {S T : Sh} {c r j : Nat} (h : LT S c r T) (hj : j < S.2.length) (hj2 : (pg S.2 j).1 = 2) (hr : rk S.2 j = r) : LT S c (r + 1) (setS T j (kc S.2 c j, (pg S.2 j).2.1, (pg S.2 j).2.2)) := by
  obtain ⟨h1, h2, h3⟩ := h
  have hl : (setS T j (kc S.2 c j, (pg S.2 j).2.1, (pg S.2 j).2.2)).2.length = T.2.length := List.length_set
  refine ⟨h1, by rw [hl]; exact h2, fun k hk => ?_⟩
  have e : pg (setS T j (kc S.2 c j, (pg S.2 j).2.1, (pg S.2 j).2.2)).2 k = if k = j then (kc S.2 c j, (pg S.2 j).2.1, (pg S.2 j).2.2) else pg T.2 k := pg_set (by omega) k
  obtain ⟨a1, a2, a3⟩ := h3 k hk
  rw [e]
  by_cases q : k = j
  · subst q
    rw [if_pos rfl]
    exact ⟨rfl, fun w => absurd hj2 w, fun _ => ⟨kc_12, fun _ => rfl⟩⟩
  · rw [if_neg q]
    refine ⟨a1, a2, fun w => ⟨(a3 w).1, fun z => (a3 w).2 ?_⟩⟩
    rcases Nat.lt_or_gt_of_ne q with l | l
    · have := rk_lt (P := S.2) l w
      omega
    · have := rk_lt (P := S.2) l hj2
      omega
theorem xq_97 {V0 V V' : Mem} {S : Sh} (hok : okS S) (h : XQ V0 V S) (fr : ∀ a, a ≠ 97 → V' a = V a) : XQ V0 V' S := by
  obtain ⟨⟨a1, a2⟩, a3, a4, a5, a6⟩ := h
  exact ⟨⟨fun a q => by rw [fr a (by omega)]; exact a1 a q, fun k q => by rw [fr 4 (by omega)]; exact a2 k q⟩, by rw [fr 0 (by omega)]; exact a3, a4.cg (by rw [fr 4 (by omega)]) (fun k q1 q2 => fr _ (by omega)), a5.cg hok.2.2.1 (by rw [fr 4 (by omega)]) (fun k q => fr _ (by omega)), fun x hx => by rw [fr 41 (by omega)]; exact a6 x hx⟩
theorem note_x {V0 : Mem} {S : Sh} (hok : okS S) (h5 : rk S.2 S.2.length ≤ 5) : ∀ (d m k : Nat) (V : Mem), k + d = S.2.length → d < m → XQ V0 V S → (∀ j, j < k → (pg S.2 j).1 = 2 → V 97 (rk S.2 j) = nI j) → ∃ V', f_X6_noteRestarts_4 m (nI (rk S.2 k)) (nI k) V = some V' ∧ XQ V0 V' S ∧ NR V' S := by
  have h24 := hok.2.2.1
  intro d
  induction d with
  | zero =>
    intro m k V hk hm hx hN
    obtain ⟨m, rfl⟩ : ∃ n', m = n' + 1 := ⟨m - 1, by omega⟩
    rw [f_X6_noteRestarts_4, hx.2.2.1.1, if_pos (by rw [nle (by omega) (by omega)]; omega)]
    exact ⟨V, rfl, hx, fun j hj => hN j (by omega)⟩
  | succ d ih =>
    intro m k V hk hm hx hN
    obtain ⟨m, rfl⟩ : ∃ n', m = n' + 1 := ⟨m - 1, by omega⟩
    have e1 : nI k + 1 = nI (k + 1) := nI_1 k
    have hk2 : k < S.2.length := by omega
    have hp := pg_ok hok.2.2.2 hk2
    have h5' := hp.2.1
    have s1 : V 6 k = nI (pg S.2 k).1 := (hx.2.2.1.2.2 k hk2).1
    rw [f_X6_noteRestarts_4, hx.2.2.1.1, if_neg (by rw [nle (by omega) (by omega)]; omega), if_pos (ibt (by omega) (by omega)), ncl (show k < _ by omega), s1, f_X6_noteRestarts_43, f_X6_noteRestarts_43, e1]
    by_cases c : (pg S.2 k).1 = 2
    · have hr := rk_lt (P := S.2) hk2 c
      have e2 : nI (rk S.2 k) + 1 = nI (rk S.2 (k + 1)) := by rw [rk, if_pos c]; exact nI_1 _
      rw [if_pos (by rw [c]; rfl), if_neg (by rw [li, nle (by omega) (by omega)]; omega), if_pos (ibt (by omega) (by omega)), ncl (by omega), e2]
      refine ih m (k + 1) _ (by omega) (by omega) (xq_97 hok hx (fun a q => st_id q)) (fun j hj hj2 => ?_)
      by_cases q : j = k
      · subst q; exact st_same
      · have := rk_lt (P := S.2) (show j < k by omega) hj2
        rw [st_ne2 (by omega)]
        exact hN j (by omega) hj2
    · have e2 : rk S.2 (k + 1) = rk S.2 k := by rw [rk, if_neg c]; rfl
      rw [if_neg (by rw [li, neq (by omega) (by omega)]; exact c), ← e2]
      refine ih m (k + 1) V (by omega) (by omega) hx (fun j hj hj2 => ?_)
      by_cases q : j = k
      · subst q; exact absurd hj2 c
      · exact hN j (by omega) hj2
theorem xt_new2 {V0 V : Mem} {S : Sh} (hok : okS S) (h : XQ V0 V S) : ∃ V', f_X3_become 35 4 V = some V' ∧ XT V0 V' S S ∧ V' 97 = V 97 := by
  obtain ⟨V1, x1, x2⟩ := xt_new hok h
  obtain ⟨V2, y1, y2, y3, y4, y5⟩ := sbecome_x (V := V) (z := 35) (r := 4) (by omega) hok.2.2.1 h.2.2.1
  have e : V1 = V2 := by
    rw [x1] at y1
    exact Option.some.inj y1
  subst e
  exact ⟨V1, x1, x2, y4 97 (by omega)⟩
theorem lose_x {V0 : Mem} {S : Sh} {c : Nat} (hok : okS S) (h5 : rk S.2 S.2.length ≤ 5) (hc : c < 32) : ∀ (d m r : Nat) (T : Sh) (V : Mem), r + d = rk S.2 S.2.length → d < m → XT V0 V S T → NR V S → LT S c r T → ∃ V', f_X6_loseRestarts_2 m (nI c) (nI (rk S.2 S.2.length)) (nI r) V = some V' ∧ XT V0 V' S (Tc S c S.2.length) ∧ NR V' S := by
  have h24 := hok.2.2.1
  intro d
  induction d with
  | zero =>
    intro m r T V hr hm hx hN hT
    obtain ⟨m, rfl⟩ : ∃ n', m = n' + 1 := ⟨m - 1, by omega⟩
    rw [f_X6_loseRestarts_2, if_pos (by rw [nle (by omega) (by omega)]; omega)]
    have e : r = rk S.2 S.2.length := by omega
    subst e
    refine ⟨V, rfl, ?_, hN⟩
    rw [← LT_end hT]
    exact hx
  | succ d ih =>
    intro m r T V hr hm hx hN hT
    obtain ⟨m, rfl⟩ : ∃ n', m = n' + 1 := ⟨m - 1, by omega⟩
    have e1 : nI r + 1 = nI (r + 1) := nI_1 r
    obtain ⟨j, j1, j2, j3⟩ := rk_ex (P := S.2) (r := r) S.2.length (by omega)
    have hv : V 97 r = nI j := by rw [← j3]; exact hN j j1 j2
    have i24 : ib (nI j) 24 = true := ibt (by omega) (by omega)
    have cj : (nI j).toNatClampNeg = j := ncl (by omega)
    have s2 : V 7 j = nI (pg S.2 j).2.1 := (hx.1.2.2.1.2.2 j j1).2.1
    have s3 : V 8 j = nI (pg S.2 j).2.2 := (hx.1.2.2.1.2.2 j j1).2.2
    obtain ⟨mm, hmm⟩ := hx.2.2
    obtain ⟨V1, x1, x2, x3, x4⟩ := alt_x (p := j) (q := (kc S.2 c j, (pg S.2 j).2.1, (pg S.2 j).2.2)) (LT_ok hok hT) hx.2.1 hmm (by rw [hT.2.1]; exact j1)
    have x1' : f_X3_alter 35 (nI j) (nI (kc S.2 c j)) (nI (pg S.2 j).2.1) (nI (pg S.2 j).2.2) V = some V1 := x1
    have hx1 := xt_fx hok hx x4 x2 x3
    have hN1 : NR V1 S := fun i i1 i2 => by rw [x4.1 97 (by omega) (by omega) (by omega) (by omega)]; exact hN i i1 i2
    have es : (if (nI c >>> (nI r &&& 31)) &&& 1 = 1 then f_X6_loseRestarts_35_c35 (f_X6_loseRestarts_2 m) (nI c) (nI (rk S.2 S.2.length)) (nI r) (nI j) (nI j) 1 V else f_X6_loseRestarts_35_c35 (f_X6_loseRestarts_2 m) (nI c) (nI (rk S.2 S.2.length)) (nI r) (nI j) (nI j) 2 V) = f_X6_loseRestarts_35_c35 (f_X6_loseRestarts_2 m) (nI c) (nI (rk S.2 S.2.length)) (nI r) (nI j) (nI j) (nI (kc S.2 c j)) V := by
      unfold kc
      rw [j3]
      by_cases b : c / 2 ^ r % 2 = 1
      · rw [if_pos ((bitC c hc r (by omega)).mpr b), if_pos b]
        rfl
      · rw [if_neg (fun q => b ((bitC c hc r (by omega)).mp q)), if_neg b]
        rfl
    rw [f_X6_loseRestarts_2, if_neg (by rw [nle (by omega) (by omega)]; omega), if_pos (ibt (by omega) (by omega)), ncl (show r < _ by omega), hv, es, f_X6_loseRestarts_35_c35, if_pos i24, if_pos i24, cj, s2, s3, x1', Option.bind_some, e1]
    exact ih m (r + 1) _ V1 (by omega) (by omega) hx1 hN1 (LT_step hT j1 j2 j3)
def abF (S : Sh) (p : Nat) (v : Int32) (q m : Nat) : Nat → Nat
  | 0 => 0
  | c + 1 => abF S p v q m c + (if nI (own (Tc S c S.2.length) p) = v then wN c q m else 0)
theorem abF_le {S : Sh} {p q m : Nat} {v : Int32} : ∀ n, abF S p v q m n ≤ sm (fun c => wN c q m) n := by
  intro n
  induction n with
  | zero => exact Nat.le_refl 0
  | succ n ih =>
    rw [abF, sm]
    split <;> omega
def lsV (w : Int32) (A B : Nat) : Int64 := if w = 0 then lN A / lN (Nat.gcd A B) else lN B / lN (Nat.gcd A B)
theorem p10 : ∀ m, m < 6 → 1 ≤ 10 ^ m ∧ 10 ^ m ≤ 100000 := by decide
theorem p2 : ∀ m, m < 6 → 1 ≤ 2 ^ m ∧ 2 ^ m ≤ 32 := by decide
theorem lost_x {V0 : Mem} {S : Sh} {p q : Nat} {v w : Int32} (hok : okS S) (hp : p < S.2.length) (hq : q ≤ 10) (h5 : rk S.2 S.2.length ≤ 5) : ∀ (d n c : Nat) (T : Sh) (V : Mem), c + d = 2 ^ rk S.2 S.2.length → d < n → XT V0 V S T → NR V S → LT S c 0 T → ∃ V' T', f_X6_lost_86 n (nI p) v (nI q) w (nI (rk S.2 S.2.length)) (lN (abF S p v q (rk S.2 S.2.length) c)) (nI c) V = some (lsV w (abF S p v q (rk S.2 S.2.length) (2 ^ rk S.2 S.2.length)) (10 ^ rk S.2 S.2.length), V') ∧ XT V0 V' S T' := by
  have h2 := p2 (rk S.2 S.2.length) (by omega)
  have h10 := p10 (rk S.2 S.2.length) (by omega)
  intro d
  induction d with
  | zero =>
    intro n c T V hc hn hx hN hT
    obtain ⟨n, rfl⟩ : ∃ n', n = n' + 1 := ⟨n - 1, by omega⟩
    have hA : abF S p v q (rk S.2 S.2.length) (2 ^ rk S.2 S.2.length) ≤ 10 ^ rk S.2 S.2.length := by
      rw [← ways_sum (rk S.2 S.2.length) (by omega) q (by omega)]
      exact abF_le _
    have hcd : f_X6_commonDivisor_9 4096 (lN (10 ^ rk S.2 S.2.length)) (lN (abF S p v q (rk S.2 S.2.length) (2 ^ rk S.2 S.2.length))) 0 V = _ := gc_x (V := V) 22 (10 ^ rk S.2 S.2.length) (abF S p v q (rk S.2 S.2.length) (2 ^ rk S.2 S.2.length)) 0 4096 (by omega) (by omega) (by omega) (by omega) (by omega) (by omega)
    have hpw : f_X6_power (10 : Int64) (nI (rk S.2 S.2.length)) V = _ := power_x (b := 10) h5
    have hg : Nat.gcd (10 ^ rk S.2 S.2.length) (abF S p v q (rk S.2 S.2.length) (2 ^ rk S.2 S.2.length)) ≤ 10 ^ rk S.2 S.2.length := Nat.gcd_le_left _ (by omega)
    have hg1 : 0 < Nat.gcd (10 ^ rk S.2 S.2.length) (abF S p v q (rk S.2 S.2.length) (2 ^ rk S.2 S.2.length)) := Nat.gcd_pos_of_pos_left _ (by omega)
    have hgz : ¬ lN (Nat.gcd (10 ^ rk S.2 S.2.length) (abF S p v q (rk S.2 S.2.length) (2 ^ rk S.2 S.2.length))) = 0 := fun e => by
      have := (leq0 (by omega)).mp e
      omega
    rw [f_X6_lost_86, shl5 _ (by omega), if_pos (by rw [nle (by omega) (by omega)]; omega), hpw, Option.bind_some, show c = 2 ^ rk S.2 S.2.length by omega]
    dsimp only
    rw [f_X6_commonDivisor, hcd, Option.bind_some, if_neg hgz, if_neg hgz, lsV, Nat.gcd_comm (abF S p v q (rk S.2 S.2.length) (2 ^ rk S.2 S.2.length))]
    by_cases c0 : w = 0
    · rw [if_pos c0, if_pos c0]
      exact ⟨V, T, rfl, hx⟩
    · rw [if_neg c0, if_neg c0]
      exact ⟨V, T, rfl, hx⟩
  | succ d ih =>
    intro n c T V hc hn hx hN hT
    obtain ⟨n, rfl⟩ : ∃ n', n = n' + 1 := ⟨n - 1, by omega⟩
    have e1 : nI c + 1 = nI (c + 1) := nI_1 c
    have hc32 : c < 32 := by omega
    obtain ⟨V1, x1, x2, x3⟩ := lose_x hok h5 hc32 (rk S.2 S.2.length) 4096 0 T V (by omega) (by omega) hx hN hT
    have x1' : f_X6_loseRestarts_2 4096 (nI c) (nI (rk S.2 S.2.length)) 0 V = _ := x1
    obtain ⟨V2, o1, o2, o3⟩ := own_x (Or.inr rfl) (ok_Tc hok) x2.2.1 x2.2.2 (k := p) (by rw [len_Tc]; exact hp)
    have hx2 := xt_fs hok x2 o2 o3
    have hN2 : NR V2 S := fun i i1 i2 => by rw [o2.1 97 (by omega) (by omega)]; exact x3 i i1 i2
    have hw := ways_eq (rk S.2 S.2.length) (by omega) c hc32 q (by omega) (by omega)
    have p1 : f_X6_power (nI q).toInt64 (nI (bc c)) V2 = some (lN (q ^ bc c), V2) := by
      rw [nI_l (by omega)]
      exact power_x (by omega)
    have p2 : f_X6_power ((10 : Int32) - nI q).toInt64 (nI (rk S.2 S.2.length) - nI (bc c)) V2 = some (lN ((10 - q) ^ (rk S.2 S.2.length - bc c)), V2) := by
      rw [show (10 : Int32) = nI 10 from rfl, nsb (by omega), nsb hw.1, nI_l (by omega)]
      exact power_x (by omega)
    rw [f_X6_lost_86, shl5 _ (by omega), if_neg (by rw [nle (by omega) (by omega)]; omega), f_X6_loseRestarts, x1', Option.bind_some, o1, Option.bind_some]
    unfold f_X6_lost_148
    by_cases b : nI (own (Tc S c S.2.length) p) = v
    · rw [if_pos b]
      dsimp only
      rw [bc_x c hc32, Option.bind_some]
      dsimp only
      rw [p1, Option.bind_some]
      dsimp only
      rw [p2, Option.bind_some]
      dsimp only
      rw [lN_mul, lN_add, e1, ← hw.2]
      have ea : abF S p v q (rk S.2 S.2.length) c + wN c q (rk S.2 S.2.length) = abF S p v q (rk S.2 S.2.length) (c + 1) := by rw [abF, if_pos b]
      rw [ea]
      exact ih n (c + 1) _ V2 (by omega) (by omega) hx2 hN2 LT_Tc
    · rw [if_neg b, e1]
      have ea : abF S p v q (rk S.2 S.2.length) c = abF S p v q (rk S.2 S.2.length) (c + 1) := by rw [abF, if_neg b]; rfl
      rw [ea]
      exact ih n (c + 1) _ V2 (by omega) (by omega) hx2 hN2 LT_Tc
/-! the reference -/
theorem rest_m {M : Mem} {S : Sh} (hok : okS S) (hS : ShM (M 4) S) : ∀ (d n k : Nat), k + d = S.2.length → d < n → f_X7_restarts_4 n (nI (al S.2 k)) (nI k) M = some (nI (al S.2 S.2.length), M) := by
  have h24 := hok.2.2.1
  have e0 : M 4 ((0 : Int32)).toNatClampNeg = nI S.2.length := hS.1
  intro d
  induction d with
  | zero =>
    intro n k hk hn
    obtain ⟨n, rfl⟩ : ∃ n', n = n' + 1 := ⟨n - 1, by omega⟩
    rw [f_X7_restarts_4, if_pos ib076, e0, if_pos (by rw [nle (by omega) (by omega)]; omega), show k = S.2.length by omega]
  | succ d ih =>
    intro n k hk hn
    obtain ⟨n, rfl⟩ : ∃ n', n = n' + 1 := ⟨n - 1, by omega⟩
    have e1 : nI k + 1 = nI (k + 1) := nI_1 k
    have hk2 : k < S.2.length := by omega
    have hp := (pg_ok hok.2.2.2 hk2).2.1
    have o0 : f_X7_of 4 (nI k) 0 M = some (M 4 (4 + 3 * k + 0), M) := of_any (w := 0) (by omega) (by omega)
    have s1 : M 4 (4 + 3 * k + 0) = nI (pg S.2 k).1 := (hS.2.2 k hk2).1
    have ha := al24 (P := S.2) (n := k) (by omega)
    have h2k : 2 ^ k < 2 ^ 24 := Nat.pow_lt_pow_right (by omega) (by omega)
    rw [f_X7_restarts_4, if_pos ib076, e0, if_neg (by rw [nle (by omega) (by omega)]; omega), o0, Option.bind_some, s1, f_X7_restarts_35, f_X7_restarts_35, e1, shl1 k (by omega), or0, orI (by omega) (by omega)]
    by_cases c : (pg S.2 k).1 = 2
    · have ea : al S.2 (k + 1) = al S.2 k ||| 2 ^ k := by rw [al, if_pos c]
      rw [if_pos (by dsimp only; rw [c]; rfl), ← ea]
      exact ih n (k + 1) (by omega) (by omega)
    · have ea : al S.2 (k + 1) = al S.2 k := by rw [al, if_neg c]
      rw [if_neg (by dsimp only; rw [li, neq (by omega) (by omega)]; exact c), ← ea]
      exact ih n (k + 1) (by omega) (by omega)
theorem bits_m {M : Mem} {P : List Pg} (hP : P.length ≤ 24) : ∀ (d n k : Nat), k + d = 24 → d < n → f_X7_bits_4 n (nI (al P P.length)) (nI (rk P k)) (nI k) M = some (nI (rk P 24), M) := by
  intro d
  induction d with
  | zero =>
    intro n k hk hn
    obtain ⟨n, rfl⟩ : ∃ n', n = n' + 1 := ⟨n - 1, by omega⟩
    have e : k = 24 := by omega
    subst e
    rw [f_X7_bits_4, if_pos (by decide)]
  | succ d ih =>
    intro n k hk hn
    obtain ⟨n, rfl⟩ : ∃ n', n = n' + 1 := ⟨n - 1, by omega⟩
    have e1 : nI k + 1 = nI (k + 1) := nI_1 k
    have e2 : nI (rk P k) + (if k < P.length ∧ (pg P k).1 = 2 then 1 else 0) = nI (rk P (k + 1)) := by
      rw [rk]
      by_cases c : (pg P k).1 = 2
      · have hk2 : k < P.length := by
          by_cases q : k < P.length
          · exact q
          · have : pg P k = (0, 0, 0) := by
              unfold pg
              rw [List.getD_eq_getElem?_getD, List.getElem?_eq_none (by omega)]
              rfl
            rw [this] at c
            exact absurd c (by decide)
        rw [if_pos ⟨hk2, c⟩, if_pos c]
        exact nI_1 _
      · rw [if_neg (fun q => c q.2), if_neg c, add0]
        rfl
    rw [f_X7_bits_4, if_neg (by rw [li, nle (by omega) (by omega)]; omega), bitAl hP (by omega), e2, e1]
    exact ih n (k + 1) (by omega) (by omega)
theorem rk24 {P : List Pg} (hP : P.length ≤ 24) : rk P 24 = rk P P.length := by
  have h := rk_nK (P := P) (24 - P.length) P.length
  rw [show P.length + (24 - P.length) = 24 by omega] at h
  have z : ∀ (d k : Nat), P.length ≤ k → nK P 2 d k = 0 := by
    intro d
    induction d with
    | zero => intro k _; rfl
    | succ d ih =>
      intro k hk
      have : pg P k = (0, 0, 0) := by
        unfold pg
        rw [List.getD_eq_getElem?_getD, List.getElem?_eq_none (by omega)]
        rfl
      rw [nK, this, ih (k + 1) (by omega)]
      rfl
  rw [z _ _ (Nat.le_refl _)] at h
  exact h.symm
theorem bitsAll {M : Mem} {P : List Pg} (hP : P.length ≤ 24) : f_X7_bits (nI (al P P.length)) M = some (nI (rk P P.length), M) := by
  unfold f_X7_bits
  rw [← rk24 hP]
  exact bits_m hP 24 4096 0 (by omega) (by omega)
theorem divp {c r : Nat} : c / 2 ^ r / 2 = c / 2 ^ (r + 1) := by
  rw [Nat.div_div_eq_div_mul, Nat.pow_succ]
theorem has_m {M : Mem} {S : Sh} {o : Nat} (h24 : S.2.length ≤ 24) (ho : o < S.2.length) : f_X7_has (nI (al S.2 S.2.length)) (nI o) M = some (if (pg S.2 o).1 = 2 then 1 else 0, M) := by
  unfold f_X7_has
  rw [bitAl h24 (by omega)]
  by_cases c : (pg S.2 o).1 = 2
  · have e : (if o < S.2.length ∧ (pg S.2 o).1 = 2 then (1 : Int32) else 0) = 1 := if_pos ⟨ho, c⟩
    rw [e, if_pos rfl, if_pos c]
  · have e : (if o < S.2.length ∧ (pg S.2 o).1 = 2 then (1 : Int32) else 0) = 0 := if_neg (fun q => c q.2)
    rw [e, if_neg (by decide), if_neg c]
theorem case_m {U : Mem} {S : Sh} {p q c A B : Nat} {v w : Int32} {K : Int32 → Int32 → Int32 → Int32 → Int32 → Int64 → Int64 → Int32 → Mem → Option (Int64 × Mem)} (hok : okS S) (hp : p < S.2.length) (hq : q ≤ 10) (hc : c < 32) : ∀ (d n o : Nat) (M : Mem), o + d = S.2.length → d < n → MT U M S (Tc S c o) → ∃ M', f_X7_lost_106 K n (nI p) v (nI q) w (nI (al S.2 S.2.length)) (lN A) (lN B) (nI c) (lN (wN c q (rk S.2 o))) (nI (c / 2 ^ rk S.2 o)) (nI o) M = K (nI p) v (nI q) w (nI (al S.2 S.2.length)) (lN (A + (if nI (own (Tc S c S.2.length) p) = v then wN c q (rk S.2 S.2.length) else 0))) (lN (B + wN c q (rk S.2 S.2.length))) (nI (c + 1)) M' ∧ MT U M' S (Tc S c S.2.length) := by
  have h24 := hok.2.2.1
  intro d
  induction d with
  | zero =>
    intro n o M ho hn hm
    obtain ⟨n, rfl⟩ : ∃ n', n = n' + 1 := ⟨n - 1, by omega⟩
    have e0 : M 4 ((0 : Int32)).toNatClampNeg = nI S.2.length := hm.1.2.2.2.1
    have e1 : nI c + 1 = nI (c + 1) := nI_1 c
    have e : o = S.2.length := by omega
    subst e
    have hm2 : MT U (mk M (Tc S c S.2.length).2 (Tc S c S.2.length).2.length) S (Tc S c S.2.length) := mt_mk hm
    rw [f_X7_lost_106, if_pos ib076, e0, if_pos (by rw [nle (by omega) (by omega)]; omega), countAll_eq (by omega) hm.2 (ok_Tc hok), Option.bind_some, own_m (r := 6) (by omega) (ok_Tc hok) hm.2 (k := p) (by rw [len_Tc]; exact hp), Option.bind_some]
    unfold f_X7_lost_225
    rw [e1, lN_add, lN_add, show (0 : Int64) = lN 0 from rfl, lN_add]
    by_cases b : nI (own (Tc S c S.2.length) p) = v
    · rw [if_pos b, if_pos b]
      exact ⟨_, rfl, hm2⟩
    · rw [if_neg b, if_neg b]
      exact ⟨_, rfl, hm2⟩
  | succ d ih =>
    intro n o M ho hn hm
    obtain ⟨n, rfl⟩ : ∃ n', n = n' + 1 := ⟨n - 1, by omega⟩
    have e0 : M 4 ((0 : Int32)).toNatClampNeg = nI S.2.length := hm.1.2.2.2.1
    have e1 : nI o + 1 = nI (o + 1) := nI_1 o
    have ho2 : o < S.2.length := by omega
    have hd : c / 2 ^ rk S.2 o < 32 := Nat.lt_of_le_of_lt (Nat.div_le_self _ _) hc
    obtain ⟨b1, b2⟩ := bitL _ hd
    rw [f_X7_lost_106, if_pos ib076, e0, if_neg (by rw [nle (by omega) (by omega)]; omega), has_m h24 ho2, Option.bind_some]
    by_cases k2 : (pg S.2 o).1 = 2
    · have er : rk S.2 (o + 1) = rk S.2 o + 1 := by rw [rk, if_pos k2]
      have e4 : (4 : Int32) + (3 : Int32) * nI o + 0 = nI (4 + 3 * o + 0) := by rw [add0, li, li, pk_mul, nad]; rfl
      have e10 : (10 : Int64) - (nI q).toInt64 = lN (10 - q) := by rw [nI_l (by omega), show (10 : Int64) = lN 10 from rfl, lN_sub hq]
      have hm2 : MT U (st M 6 (4 + 3 * o + 0) (nI (kc S.2 c o))) S (Tc S c (o + 1)) := by
        rw [Tc_yes ho2 k2]
        exact mt_ms hm (lay_qv hm.2 (by rw [len_Tc]; exact ho2) (by omega))
      have hih := ih n (o + 1) _ (by omega) (by omega) hm2
      rw [er, ← divp] at hih
      rw [if_neg (fun z => ((b01z _).mp z) k2)]
      dsimp only
      unfold f_X7_lost_148 f_X7_lost_176_c6 f_X7_lost_183
      rw [e4, if_pos (ibt (by omega) (by omega)), ncl (by omega), b2, e1, e10, nI_l (by omega)]
      by_cases b : c / 2 ^ rk S.2 o % 2 = 1
      · have ek : kc S.2 c o = 1 := by unfold kc; rw [if_pos b]
        have ew : wN c q (rk S.2 o + 1) = wN c q (rk S.2 o) * q := by rw [wN, if_pos b]
        rw [if_pos (b1.mpr b), if_pos (b1.mpr b), lN_mul, ← ew]
        rw [ek] at hih
        exact hih
      · have ek : kc S.2 c o = 2 := by unfold kc; rw [if_neg b]
        have ew : wN c q (rk S.2 o + 1) = wN c q (rk S.2 o) * (10 - q) := by rw [wN, if_neg b]
        rw [if_neg (fun z => b (b1.mp z)), if_neg (fun z => b (b1.mp z)), if_pos (ibt (show 4 + 3 * o + 0 < 76 by omega) (by omega)), lN_mul, ← ew]
        rw [ek] at hih
        exact hih
    · have er : rk S.2 (o + 1) = rk S.2 o := by rw [rk, if_neg k2]; rfl
      have hm2 : MT U M S (Tc S c (o + 1)) := by rw [Tc_no k2]; exact hm
      have hih := ih n (o + 1) M (by omega) (by omega) hm2
      rw [er] at hih
      rw [if_pos ((b01z _).mpr k2), f_X7_lost_183, e1]
      exact hih
theorem lost_m {U : Mem} {S : Sh} {p q : Nat} {v w : Int32} (hok : okS S) (hp : p < S.2.length) (hq : q ≤ 10) (h5 : rk S.2 S.2.length ≤ 5) : ∀ (d n c : Nat) (M : Mem), c + d = 2 ^ rk S.2 S.2.length → d < n → MV U M S → ∃ M', f_X7_lost_80 n (nI p) v (nI q) w (nI (al S.2 S.2.length)) (lN (abF S p v q (rk S.2 S.2.length) c)) (lN (sm (fun c => wN c q (rk S.2 S.2.length)) c)) (nI c) M = some (lsV w (abF S p v q (rk S.2 S.2.length) (2 ^ rk S.2 S.2.length)) (10 ^ rk S.2 S.2.length), M') ∧ MV U M' S := by
  have h24 := hok.2.2.1
  have h2 := p2 (rk S.2 S.2.length) (by omega)
  have h10 := p10 (rk S.2 S.2.length) (by omega)
  intro d
  induction d with
  | zero =>
    intro n c M hc hn hm
    obtain ⟨n, rfl⟩ : ∃ n', n = n' + 1 := ⟨n - 1, by omega⟩
    have hA : abF S p v q (rk S.2 S.2.length) (2 ^ rk S.2 S.2.length) ≤ 10 ^ rk S.2 S.2.length := by
      rw [← ways_sum (rk S.2 S.2.length) (by omega) q (by omega)]
      exact abF_le _
    have e : c = 2 ^ rk S.2 S.2.length := by omega
    subst e
    rw [f_X7_lost_80, bitsAll h24, Option.bind_some, shl5 _ (by omega), if_pos (by rw [nle (by omega) (by omega)]; omega), ways_sum (rk S.2 S.2.length) (by omega) q (by omega)]
    generalize abF S p v q (rk S.2 S.2.length) (2 ^ rk S.2 S.2.length) = A at *
    generalize 10 ^ rk S.2 S.2.length = B at *
    have hg : Nat.gcd A B ≤ B := Nat.gcd_le_right _ (by omega)
    have hg1 : 0 < Nat.gcd A B := Nat.gcd_pos_of_pos_right _ (by omega)
    have hgz : ¬ lN (Nat.gcd A B) = 0 := fun e => by
      have := (leq0 (by omega)).mp e
      omega
    rw [gc_m 22 A B 4096 (by omega) (by omega) (by omega) (by omega), f_X7_lost_279, f_X7_lost_279, if_neg hgz, if_neg hgz, lsV]
    by_cases c0 : w = 0
    · rw [if_pos c0, if_pos c0]
      exact ⟨M, rfl, hm⟩
    · rw [if_neg c0, if_neg c0]
      exact ⟨M, rfl, hm⟩
  | succ d ih =>
    intro n c M hc hn hm
    obtain ⟨n, rfl⟩ : ∃ n', n = n' + 1 := ⟨n - 1, by omega⟩
    have hl := mt_lay h24 hm
    have hl0 : MT U (cp M 4 6 0 0 76) S (Tc S c 0) := by rw [Tc_0]; exact hl
    obtain ⟨M1, x1, x2⟩ := case_m (K := f_X7_lost_80 n) (A := abF S p v q (rk S.2 S.2.length) c) (B := sm (fun c => wN c q (rk S.2 S.2.length)) c) (v := v) (w := w) hok hp hq (show c < 32 by omega) S.2.length 4096 0 _ (by omega) (by omega) hl0
    have r0 : rk S.2 0 = 0 := rfl
    rw [r0, Nat.pow_zero, Nat.div_one] at x1
    have x1' : f_X7_lost_106 (f_X7_lost_80 n) 4096 (nI p) v (nI q) w (nI (al S.2 S.2.length)) (lN (abF S p v q (rk S.2 S.2.length) c)) (lN (sm (fun c => wN c q (rk S.2 S.2.length)) c)) (nI c) 1 (nI c) 0 (cp M 4 6 0 0 76) = _ := x1
    rw [f_X7_lost_80, bitsAll h24, Option.bind_some, shl5 _ (by omega), if_neg (by rw [nle (by omega) (by omega)]; omega), layThen_m, Option.bind_some, x1']
    exact ih n (c + 1) M1 (by omega) (by omega) x2.1
theorem s_lost : S_lost Inv := by
  intro a v b w V U h
  obtain ⟨S, A, hSS⟩ := h.2.2.2.2.1
  obtain ⟨hok, hX, hC, hM, -⟩ := id hSS
  have h24 := hok.2.2.1
  have hM' : ShM (st U 0 0 0 4) S := by rw [st_id (by omega)]; exact hM
  unfold f_X6_lost f_X7_lost f_X6_lost_41 f_X7_lost_48
  rcases dich a S.2.length with ⟨p, hp, rfl⟩ | hk
  · rw [has_yes hX.1 (by omega) hp, par_yes hM'.1 (by omega) hp, Option.bind_some, Option.bind_some, if_neg i10, if_neg i10]
    dsimp only
    rw [isBetween_eq, show (0 : Int64) = (0 : Int32).toInt64 from rfl, show (99 : Int64) = (99 : Int32).toInt64 from rfl, inw, Option.bind_some, Option.bind_some]
    by_cases h1 : 0 ≤ v ∧ v ≤ 99
    · rw [if_neg (fun q => ((b01z _).mp q) h1), if_neg (fun q => ((b01z _).mp q) h1)]
      dsimp only
      rw [isBetween_eq, show (10 : Int64) = (10 : Int32).toInt64 from rfl, inw, Option.bind_some, Option.bind_some]
      by_cases h2 : 0 ≤ b ∧ b ≤ 10
      · rw [if_neg (fun q => ((b01z _).mp q) h2), if_neg (fun q => ((b01z _).mp q) h2)]
        dsimp only
        rw [isBetween_eq, show (1 : Int64) = (1 : Int32).toInt64 from rfl, inw, Option.bind_some, Option.bind_some]
        by_cases h3 : 0 ≤ w ∧ w ≤ 1
        · rw [if_neg (fun q => ((b01z _).mp q) h3), if_neg (fun q => ((b01z _).mp q) h3)]
          obtain ⟨q, q1, rfl⟩ := btw (n := 10) (by omega) h2
          have x2 : f_X3_howManyOf_4 4 4096 2 0 0 V = _ := hm_x hok hX (c := 2) (by omega) S.2.length 4096 0 0 (by omega) (by omega)
          have er : 0 + nK S.2 2 S.2.length 0 = rk S.2 S.2.length := by
            have := rk_nK (P := S.2) S.2.length 0
            rw [rk, Nat.zero_add, Nat.zero_add] at this
            omega
          have y1 : f_X7_restarts_4 4096 0 0 (st U 0 0 0) = _ := rest_m hok hM' S.2.length 4096 0 (by omega) (by omega)
          have hr24 : rk S.2 S.2.length ≤ 24 := by
            have : ∀ n, rk S.2 n ≤ n := by
              intro n
              induction n with
              | zero => exact Nat.le_refl 0
              | succ n ih => rw [rk]; split <;> omega
            have := this S.2.length
            omega
          dsimp only
          rw [f_X3_howManyOf, x2, er, Option.bind_some, f_X7_restarts, y1, Option.bind_some]
          dsimp only
          rw [bitsAll h24, Option.bind_some]
          dsimp only
          by_cases h5 : rk S.2 S.2.length ≤ 5
          · rw [if_pos (by rw [li, nle (by omega) (by omega)]; omega), if_pos (by rw [li, nle (by omega) (by omega)]; omega)]
            obtain ⟨V1, n1, n2, n3⟩ := note_x hok h5 S.2.length 4096 0 V (by omega) (by omega) (xq_rf h hSS) (fun j hj => absurd hj (by omega))
            have n1' : f_X6_noteRestarts_4 4096 0 0 V = some V1 := n1
            obtain ⟨V2, b1, b2, b3⟩ := xt_new2 hok n2
            have hN2 : NR V2 S := fun i i1 i2 => by rw [b3]; exact n3 i i1 i2
            obtain ⟨V3, T3, l1, l2⟩ := lost_x (V0 := V) (v := v) (w := w) hok hp q1 h5 (2 ^ rk S.2 S.2.length) 4096 0 S V2 (by omega) (by have := p2 (rk S.2 S.2.length) (by omega); omega) b2 hN2 LT_S
            have l1' : f_X6_lost_86 4096 (nI p) v (nI q) w (nI (rk S.2 S.2.length)) 0 0 V2 = _ := l1
            obtain ⟨M3, m1, m2⟩ := lost_m (U := U) (v := v) (w := w) hok hp q1 h5 (2 ^ rk S.2 S.2.length) 4096 0 _ (by omega) (by have := p2 (rk S.2 S.2.length) (by omega); omega) (mv_t hM)
            have m1' : f_X7_lost_80 4096 (nI p) v (nI q) w (nI (al S.2 S.2.length)) 0 0 0 (st U 0 0 0) = _ := m1
            rw [f_X6_noteRestarts, n1', Option.bind_some, b1, Option.bind_some]
            refine ⟨_, _, l1', m1', rfl, inv_xv h hSS l2.1 m2.1 m2.2.1 m2.2.2.1⟩
          · rw [if_neg (by rw [li, nle (by omega) (by omega)]; omega), if_neg (by rw [li, nle (by omega) (by omega)]; omega)]
            exact ⟨_, _, rfl, rfl, rfl, inv_t h⟩
        · rw [if_pos ((b01z _).mpr h3), if_pos ((b01z _).mpr h3)]
          exact ⟨_, _, rfl, rfl, rfl, inv_t h⟩
      · rw [if_pos ((b01z _).mpr h2), if_pos ((b01z _).mpr h2)]
        exact ⟨_, _, rfl, rfl, rfl, inv_t h⟩
    · rw [if_pos ((b01z _).mpr h1), if_pos ((b01z _).mpr h1)]
      exact ⟨_, _, rfl, rfl, rfl, inv_t h⟩
  · rw [has_no hX.1 (by omega) hk, par_no hM'.1 (by omega) hk, Option.bind_some, Option.bind_some, if_pos rfl, if_pos rfl]
    exact ⟨_, _, rfl, rfl, rfl, inv_t h⟩
end
section
/-! Tokens, on both sides. -/
abbrev dgt (b : Nat → Nat) (q : Nat) : Prop := 48 ≤ b q ∧ b q ≤ 57
def rl (b : Nat → Nat) : Nat → Nat → Nat
  | 0, q => q
  | d + 1, q => if dgt b q then rl b d (q + 1) else q
def rv (b : Nat → Nat) : Nat → Nat → Nat → Nat
  | 0, _, x => x
  | d + 1, q, x => if dgt b q then rv b d (q + 1) (x * 10 + (b q - 48)) else x
def lexN (b : Nat → Nat) (n q : Nat) : Nat := if q < n then (if dgt b q then rl b (n - q) q else q + 1) else q
def lexT (b : Nat → Nat) (n q : Nat) : Nat × Nat := if q < n then (if dgt b q then (if rl b (n - q) q - q ≤ 2 then (1, rv b (n - q) q 0) else (2, 0)) else if 97 ≤ b q ∧ b q ≤ 122 then (3, b q) else if b q = 44 ∨ b q = 59 then (4, b q) else (2, 0)) else (0, 0)
theorem rl_le {b : Nat → Nat} : ∀ (d q : Nat), q ≤ rl b d q ∧ rl b d q ≤ q + d := by
  intro d
  induction d with
  | zero => intro q; exact ⟨Nat.le_refl _, Nat.le_refl _⟩
  | succ d ih =>
    intro q
    rw [rl]
    split
    · have := ih (q + 1)
      omega
    · omega
theorem lexN_le {b : Nat → Nat} {n q : Nat} (h : q ≤ n) : q ≤ lexN b n q ∧ lexN b n q ≤ n := by
  unfold lexN
  have := rl_le (b := b) (n - q) q
  split
  · split <;> omega
  · omega
def okT (t : Nat × Nat) : Prop := t.1 ≤ 4 ∧ (t.1 = 1 → t.2 ≤ 99) ∧ (t.1 = 3 → 97 ≤ t.2 ∧ t.2 ≤ 122) ∧ (t.1 = 4 → t.2 = 44 ∨ t.2 = 59)
/-- the run's first places -/
theorem run1 {b : Nat → Nat} {d q : Nat} (h : dgt b q) (hn : d = 0 ∨ ¬ dgt b (q + 1)) : rl b (d + 1) q = q + 1 ∧ rv b (d + 1) q 0 = b q - 48 := by
  rw [rl, rv, if_pos h, if_pos h]
  cases d with
  | zero => exact ⟨rfl, by rw [rv]; omega⟩
  | succ d =>
    have h2 : ¬ dgt b (q + 1) := hn.elim (fun q => absurd q (by omega)) (fun q => q)
    rw [rl, rv, if_neg h2, if_neg h2]
    exact ⟨rfl, by omega⟩
theorem run2 {b : Nat → Nat} {d q : Nat} (h : dgt b q) (h1 : dgt b (q + 1)) (hn : d = 0 ∨ ¬ dgt b (q + 2)) : rl b (d + 1 + 1) q = q + 2 ∧ rv b (d + 1 + 1) q 0 = 10 * (b q - 48) + (b (q + 1) - 48) := by
  rw [rl, rv, if_pos h, if_pos h, rl, rv, if_pos h1, if_pos h1]
  cases d with
  | zero => exact ⟨rfl, by rw [rv]; omega⟩
  | succ d =>
    have h2 : ¬ dgt b (q + 1 + 1) := hn.elim (fun q => absurd q (by omega)) (fun q => q)
    rw [rl, rv, if_neg h2, if_neg h2]
    exact ⟨rfl, by omega⟩
theorem run3 {b : Nat → Nat} {d q : Nat} (h : dgt b q) (h1 : dgt b (q + 1)) (h2 : dgt b (q + 2)) : rl b (d + 1 + 1 + 1) q = rl b d (q + 3) := by
  have h2' : dgt b (q + 1 + 1) := h2
  rw [rl, if_pos h, rl, if_pos h1, rl, if_pos h2']
theorem lexT_ok {b : Nat → Nat} {n q : Nat} : okT (lexT b n q) := by
  unfold lexT
  by_cases hq : q < n
  · rw [if_pos hq]
    by_cases hd : dgt b q
    · rw [if_pos hd]
      by_cases h2 : rl b (n - q) q - q ≤ 2
      · rw [if_pos h2]
        refine ⟨by dsimp only; omega, fun _ => ?_, fun e => absurd e (by dsimp only; omega), fun e => absurd e (by dsimp only; omega)⟩
        obtain ⟨d, hd'⟩ : ∃ d, n - q = d + 1 := ⟨n - q - 1, by omega⟩
        rw [hd'] at h2 ⊢
        by_cases c : d = 0 ∨ ¬ dgt b (q + 1)
        · have := run1 hd c
          show rv b (d + 1) q 0 ≤ 99
          omega
        · have c1 : dgt b (q + 1) := Classical.byContradiction (fun e => c (Or.inr e))
          obtain ⟨d, rfl⟩ : ∃ d', d = d' + 1 := ⟨d - 1, by have : ¬ d = 0 := fun e => c (Or.inl e); omega⟩
          by_cases c2 : d = 0 ∨ ¬ dgt b (q + 2)
          · have := run2 hd c1 c2
            show rv b (d + 1 + 1) q 0 ≤ 99
            omega
          · have c3 : dgt b (q + 2) := Classical.byContradiction (fun e => c2 (Or.inr e))
            obtain ⟨d, rfl⟩ : ∃ d', d = d' + 1 := ⟨d - 1, by have : ¬ d = 0 := fun e => c2 (Or.inl e); omega⟩
            rw [run3 hd c1 c3] at h2
            have := rl_le (b := b) d (q + 3)
            omega
      · rw [if_neg h2]
        exact ⟨by decide, fun e => absurd e (by decide), fun e => absurd e (by decide), fun e => absurd e (by decide)⟩
    · rw [if_neg hd]
      by_cases h1 : 97 ≤ b q ∧ b q ≤ 122
      · rw [if_pos h1]
        exact ⟨by dsimp only; omega, fun e => absurd e (by dsimp only; omega), fun _ => h1, fun e => absurd e (by dsimp only; omega)⟩
      · rw [if_neg h1]
        by_cases h2 : b q = 44 ∨ b q = 59
        · rw [if_pos h2]
          exact ⟨by dsimp only; omega, fun e => absurd e (by dsimp only; omega), fun e => absurd e (by dsimp only; omega), fun _ => h2⟩
        · rw [if_neg h2]
          exact ⟨by decide, fun e => absurd e (by decide), fun e => absurd e (by decide), fun e => absurd e (by decide)⟩
  · rw [if_neg hq]
    exact ⟨by decide, fun e => absurd e (by decide), fun e => absurd e (by decide), fun e => absurd e (by decide)⟩
def EX (b : Nat → Nat) (n : Nat) (V : Mem) : Prop := n ≤ 130 ∧ V 2 1 = nI n ∧ ∀ j, j < n → V 3 j = nI (b j) ∧ b j < 256
def EU (b : Nat → Nat) (n : Nat) (U : Mem) : Prop := n ≤ 130 ∧ U 0 11 = nI n ∧ ∀ j, j < n → U 8 j = nI (b j) ∧ b j < 256
def TKV (t : Nat × Nat) (V : Mem) : Prop := (t.1 = 0 → V 2 4 = 0) ∧ (t.1 = 1 → V 2 4 = 1 ∧ V 2 5 = nI t.2) ∧ (t.1 = 2 → V 2 4 = 2) ∧ (3 ≤ t.1 → V 2 4 = nI t.2)
def TKU (t : Nat × Nat) (U : Mem) : Prop := (t.1 = 0 → U 0 14 = 1) ∧ (t.1 = 1 → U 0 14 = 3 ∧ U 0 15 = nI t.2) ∧ (t.1 = 2 → U 0 14 = 0) ∧ (t.1 = 3 → U 0 14 = 2 ∧ U 0 15 = nI t.2) ∧ (t.1 = 4 → U 0 14 = 4 ∧ U 0 15 = nI t.2)
theorem fig_eq {c : Nat} {V : Mem} (hc : c < 256) : f_X5_isFigure (nI c) V = some (if 48 ≤ c ∧ c ≤ 57 then 1 else 0, V) := by
  unfold f_X5_isFigure
  by_cases h1 : c < 48
  · rw [if_pos (by rw [li, nlt (by omega) (by omega)]; exact h1), if_neg (by omega)]
  · rw [if_neg (by rw [li, nlt (by omega) (by omega)]; exact h1)]
    by_cases h2 : 57 < c
    · rw [if_pos (by rw [li, nlt (by omega) (by omega)]; exact h2), if_neg (by omega)]
    · rw [if_neg (by rw [li, nlt (by omega) (by omega)]; exact h2), if_pos (by omega)]
def fm (V : Mem) (e x : Nat) : Mem := ms V 2 (fun k => if k = 3 then nI e else if k = 5 then nI x else V 2 k)
theorem fm_st {V : Mem} {q x q' x' : Nat} {A B : Int32} (hA : A = nI x') (hB : B = nI q') : st (st (fm V q x) 2 5 A) 2 3 B = fm V q' x' := by
  apply mem_ext
  intro a c
  rw [st_at, st_at]
  unfold fm
  rw [ms_at, ms_at]
  by_cases ha : a = 2
  · subst ha
    by_cases h3 : c = 3
    · rw [if_pos ⟨rfl, h3⟩, if_pos rfl, if_pos h3]; exact hB
    · by_cases h5 : c = 5
      · rw [if_neg (fun q => h3 q.2), if_pos ⟨rfl, h5⟩, if_pos rfl, if_neg h3, if_pos h5]; exact hA
      · rw [if_neg (fun q => h3 q.2), if_neg (fun q => h5 q.2), if_pos rfl, if_pos rfl, if_neg h3, if_neg h5, if_neg h3, if_neg h5]
  · rw [if_neg (fun q => ha q.1), if_neg (fun q => ha q.1), if_neg ha, if_neg ha]
theorem dig {x c : Nat} (h : 48 ≤ c) : nI x * 10 + nI c - 48 = nI (x * 10 + (c - 48)) := by
  rw [show (10 : Int32) = nI 10 from rfl, show (48 : Int32) = nI 48 from rfl, pk_mul, nad, nsb (by omega)]
  congr 1
  omega
theorem fig_loop {b : Nat → Nat} {n : Nat} {V : Mem} (hE : EX b n V) : ∀ (d m q x : Nat), q + d = n → d < m → f_X5_stepOverFigures_8 2 m (fm V q x) = f_X5_stepOverFigures_71 2 (fm V (rl b d q) (rv b d q x)) := by
  obtain ⟨h1, h2, h3⟩ := hE
  have l1 : ∀ q x, fm V q x 2 1 = nI n := fun q x => h2
  have l3 : ∀ q x, fm V q x 2 3 = nI q := fun q x => rfl
  have l5 : ∀ q x, fm V q x 2 5 = nI x := fun q x => rfl
  have lb : ∀ q x, fm V q x (2 + 1) = V 3 := fun q x => rfl
  intro d
  induction d with
  | zero =>
    intro m q x hq hm
    obtain ⟨m, rfl⟩ : ∃ n', m = n' + 1 := ⟨m - 1, by omega⟩
    rw [f_X5_stepOverFigures_8, l1, l3, if_pos (by rw [nle (by omega) (by omega)]; omega)]
    rfl
  | succ d ih =>
    intro m q x hq hm
    obtain ⟨m, rfl⟩ : ∃ n', m = n' + 1 := ⟨m - 1, by omega⟩
    obtain ⟨k1, k2⟩ := h3 q (by omega)
    have i130 : ib (nI q) 130 = true := ibt (by omega) (by omega)
    rw [f_X5_stepOverFigures_8, l1, l3, if_neg (by rw [nle (by omega) (by omega)]; omega), if_pos i130, ncl (by omega), lb, k1, fig_eq k2, Option.bind_some, rl, rv]
    by_cases c : dgt b q
    · rw [if_neg (fun z => ((b01z _).mp z) c)]
      simp only [l3, if_pos i130, if_pos c]
      rw [ncl (by omega), lb, k1, l5, st_ne2 (show (3 : Nat) ≠ 5 by omega), l3, fm_st (dig c.1) (nI_1 q)]
      exact ih m (q + 1) _ (by omega) (by omega)
    · rw [if_pos ((b01z _).mpr c)]
      simp only [if_neg c]
theorem step_x {b : Nat → Nat} {n q : Nat} {V : Mem} (hE : EX b n V) (h6 : V 2 6 = 0) (h3 : V 2 3 = nI q) (hq : q ≤ n) : ∃ V', f_X5_stepOn 2 V = some V' ∧ (∀ a, a ≠ 2 → V' a = V a) ∧ V' 2 1 = V 2 1 ∧ V' 2 6 = 0 ∧ V' 2 2 = nI q ∧ V' 2 3 = nI (lexN b n q) ∧ TKV (lexT b n q) V' := by
  obtain ⟨h130, hl, hb⟩ := id hE
  unfold f_X5_stepOn
  rw [if_pos h6, h3]
  generalize hW : st (st V 2 2 (nI q)) 2 5 0 = W
  have w0 : ∀ a, a ≠ 2 → W a = V a := fun a ha => by rw [← hW, st_id ha, st_id ha]
  have w1 : W 2 1 = nI n := by rw [← hW, st_ne2 (by omega), st_ne2 (by omega)]; exact hl
  have w2 : W 2 2 = nI q := by rw [← hW, st_ne2 (by omega), st_same]
  have w3 : W 2 3 = nI q := by rw [← hW, st_ne2 (by omega), st_ne2 (by omega)]; exact h3
  have w5 : W 2 5 = 0 := by rw [← hW, st_same]
  have w6 : W 2 6 = 0 := by rw [← hW, st_ne2 (by omega), st_ne2 (by omega)]; exact h6
  rw [w1, w2]
  unfold lexN lexT
  by_cases c : q < n
  · obtain ⟨k1, k2⟩ := hb q c
    have e1 : nI q + 1 = nI (q + 1) := nI_1 q
    have x2 : st W 2 3 (nI (q + 1)) 2 2 = nI q := by rw [st_ne2 (by omega)]; exact w2
    have x3 : st W 2 3 (nI (q + 1)) (2 + 1) q = nI (b q) := by rw [st_ne1 (by omega), w0 _ (by omega)]; exact k1
    rw [if_pos (by rw [nlt (by omega) (by omega)]; exact c), e1, x2, if_pos (ibt (by omega) (by omega)), ncl (by omega), x3, fig_eq k2, Option.bind_some, if_pos c, if_pos c]
    by_cases cd : dgt b q
    · rw [if_neg (fun z => ((b01z _).mp z) cd)]
      simp only [if_pos cd]
      have hfm : st (st W 2 3 (nI (q + 1))) 2 3 (nI q) = fm W q 0 := by
        apply mem_ext
        intro a k
        rw [st_at, st_at]
        unfold fm
        rw [ms_at]
        by_cases ha : a = 2
        · subst ha
          by_cases h3 : k = 3
          · rw [if_pos ⟨rfl, h3⟩, if_pos rfl, if_pos h3]
          · rw [if_neg (fun q => h3 q.2), if_neg (fun q => h3 q.2), if_pos rfl, if_neg h3]
            by_cases h5 : k = 5
            · rw [if_pos h5, h5, w5]; rfl
            · rw [if_neg h5]
        · rw [if_neg (fun q => ha q.1), if_neg (fun q => ha q.1), if_neg ha]
      have hEW : EX b n W := ⟨h130, w1, fun j hj => by rw [w0 3 (by omega)]; exact hb j hj⟩
      have hrl := rl_le (b := b) (n - q) q
      rw [f_X5_stepOverFigures, x2, hfm, fig_loop hEW (n - q) 4096 q 0 (by omega) (by omega), f_X5_stepOverFigures_71]
      have f3 : fm W (rl b (n - q) q) (rv b (n - q) q 0) 2 3 = nI (rl b (n - q) q) := rfl
      have f2 : fm W (rl b (n - q) q) (rv b (n - q) q 0) 2 2 = nI q := w2
      have f1 : fm W (rl b (n - q) q) (rv b (n - q) q 0) 2 1 = nI n := w1
      have f6 : fm W (rl b (n - q) q) (rv b (n - q) q 0) 2 6 = 0 := w6
      have f5 : fm W (rl b (n - q) q) (rv b (n - q) q 0) 2 5 = nI (rv b (n - q) q 0) := rfl
      have f0 : ∀ a, a ≠ 2 → fm W (rl b (n - q) q) (rv b (n - q) q 0) a = V a := fun a ha => by
        unfold fm
        rw [ms_id ha, w0 a ha]
      rw [f3, f2, nsb (by omega), f_X5_stepOverFigures_90_cz, f_X5_stepOverFigures_90_cz]
      by_cases c2 : rl b (n - q) q - q ≤ 2
      · rw [if_neg (by rw [li, nlt (by omega) (by omega)]; omega), if_pos c2, Option.bind_some]
        refine ⟨_, rfl, fun a ha => by rw [st_id ha, f0 a ha], by rw [st_ne2 (by omega), f1, hl], by rw [st_ne2 (by omega)]; exact f6, by rw [st_ne2 (by omega)]; exact f2, by rw [st_ne2 (by omega)]; exact f3, fun e => absurd e (by dsimp only; omega), fun _ => ⟨st_same, by rw [st_ne2 (by omega)]; exact f5⟩, fun e => absurd e (by dsimp only; omega), fun e => absurd e (by dsimp only; omega)⟩
      · rw [if_pos (by rw [li, nlt (by omega) (by omega)]; omega), if_neg c2, Option.bind_some]
        refine ⟨_, rfl, fun a ha => by rw [st_id ha, f0 a ha], by rw [st_ne2 (by omega), f1, hl], by rw [st_ne2 (by omega)]; exact f6, by rw [st_ne2 (by omega)]; exact f2, by rw [st_ne2 (by omega)]; exact f3, fun e => absurd e (by dsimp only; omega), fun e => absurd e (by dsimp only; omega), fun _ => st_same, fun e => absurd e (by dsimp only; omega)⟩
    · rw [if_pos ((b01z _).mpr cd)]
      simp only [if_neg cd]
      have fin : ∀ y : Int32, (∀ a, a ≠ 2 → st (st W 2 3 (nI (q + 1))) 2 4 y a = V a) ∧ st (st W 2 3 (nI (q + 1))) 2 4 y 2 1 = V 2 1 ∧ st (st W 2 3 (nI (q + 1))) 2 4 y 2 6 = 0 ∧ st (st W 2 3 (nI (q + 1))) 2 4 y 2 2 = nI q ∧ st (st W 2 3 (nI (q + 1))) 2 4 y 2 3 = nI (q + 1) := fun y => ⟨fun a ha => by rw [st_id ha, st_id ha, w0 a ha], by rw [st_ne2 (by omega), st_ne2 (by omega), w1, hl], by rw [st_ne2 (by omega), st_ne2 (by omega)]; exact w6, by rw [st_ne2 (by omega)]; exact x2, by rw [st_ne2 (by omega), st_same]⟩
      have e84 : ¬ (97 ≤ b q ∧ b q ≤ 122) → ∃ V', f_X5_stepOn_84 2 (nI (b q)) (st W 2 3 (nI (q + 1))) = some V' ∧ (∀ a, a ≠ 2 → V' a = V a) ∧ V' 2 1 = V 2 1 ∧ V' 2 6 = 0 ∧ V' 2 2 = nI q ∧ V' 2 3 = nI (q + 1) ∧ TKV (if b q = 44 ∨ b q = 59 then (4, b q) else (2, 0)) V' := by
        intro hno
        unfold f_X5_stepOn_84 f_X5_stepOn_96
        by_cases c44 : b q = 44
        · rw [if_pos (by rw [c44]; rfl), if_pos (Or.inl c44)]
          obtain ⟨g1, g2, g3, g4, g5⟩ := fin (nI (b q))
          exact ⟨_, rfl, g1, g2, g3, g4, g5, fun e => absurd e (by dsimp only; omega), fun e => absurd e (by dsimp only; omega), fun e => absurd e (by dsimp only; omega), fun _ => st_same⟩
        · rw [if_neg (by rw [li, neq (by omega) (by omega)]; exact c44)]
          by_cases c59 : b q = 59
          · rw [if_pos (by rw [c59]; rfl), if_pos (Or.inr c59)]
            obtain ⟨g1, g2, g3, g4, g5⟩ := fin (nI (b q))
            exact ⟨_, rfl, g1, g2, g3, g4, g5, fun e => absurd e (by dsimp only; omega), fun e => absurd e (by dsimp only; omega), fun e => absurd e (by dsimp only; omega), fun _ => st_same⟩
          · rw [if_neg (by rw [li, neq (by omega) (by omega)]; exact c59), if_neg (fun z => z.elim c44 c59)]
            obtain ⟨g1, g2, g3, g4, g5⟩ := fin 2
            exact ⟨_, rfl, g1, g2, g3, g4, g5, fun e => absurd e (by dsimp only; omega), fun e => absurd e (by dsimp only; omega), fun _ => st_same, fun e => absurd e (by dsimp only; omega)⟩
      by_cases c97 : b q < 97
      · rw [if_pos (by rw [li, nlt (by omega) (by omega)]; exact c97), if_neg (show ¬ (97 ≤ b q ∧ b q ≤ 122) by omega)]
        exact e84 (by omega)
      · rw [if_neg (by rw [li, nlt (by omega) (by omega)]; exact c97)]
        by_cases c122 : b q ≤ 122
        · rw [if_pos (by rw [li, nle (by omega) (by omega)]; exact c122), if_pos (show 97 ≤ b q ∧ b q ≤ 122 by omega), f_X5_stepOn_96]
          obtain ⟨g1, g2, g3, g4, g5⟩ := fin (nI (b q))
          exact ⟨_, rfl, g1, g2, g3, g4, g5, fun e => absurd e (by dsimp only; omega), fun e => absurd e (by dsimp only; omega), fun e => absurd e (by dsimp only; omega), fun _ => st_same⟩
        · rw [if_neg (by rw [li, nle (by omega) (by omega)]; exact c122), if_neg (show ¬ (97 ≤ b q ∧ b q ≤ 122) by omega)]
          exact e84 (by omega)
  · rw [if_neg (by rw [nlt (by omega) (by omega)]; exact c), if_neg c, if_neg c]
    refine ⟨_, rfl, fun a ha => by rw [st_id ha, w0 a ha], by rw [st_ne2 (by omega), w1, hl], by rw [st_ne2 (by omega)]; exact w6, by rw [st_ne2 (by omega)]; exact w2, by rw [st_ne2 (by omega)]; exact w3, fun _ => st_same, fun e => absurd e (by dsimp only; omega), fun e => absurd e (by dsimp only; omega), fun e => absurd e (by dsimp only; omega)⟩
def gm (U : Mem) (p e : Nat) (t y : Int32) : Mem := ms U 0 (fun k => if k = 12 then nI e else if k = 13 then nI p else if k = 14 then t else if k = 15 then y else U 0 k)
theorem gm_ext {U W : Mem} {p e : Nat} {t y : Int32} (h0 : ∀ a, a ≠ 0 → W a = U a) (h12 : W 0 12 = nI e) (h13 : W 0 13 = nI p) (h14 : W 0 14 = t) (h15 : W 0 15 = y) (hk : ∀ k, k ≠ 12 → k ≠ 13 → k ≠ 14 → k ≠ 15 → W 0 k = U 0 k) : W = gm U p e t y := by
  apply mem_ext
  intro a k
  unfold gm
  rw [ms_at]
  by_cases ha : a = 0
  · subst ha
    rw [if_pos rfl]
    by_cases k12 : k = 12
    · rw [if_pos k12, k12]; exact h12
    · rw [if_neg k12]
      by_cases k13 : k = 13
      · rw [if_pos k13, k13]; exact h13
      · rw [if_neg k13]
        by_cases k14 : k = 14
        · rw [if_pos k14, k14]; exact h14
        · rw [if_neg k14]
          by_cases k15 : k = 15
          · rw [if_pos k15, k15]; exact h15
          · rw [if_neg k15]; exact hk k k12 k13 k14 k15
  · rw [if_neg ha, h0 a ha]
theorem gm_0 {U : Mem} {p e a : Nat} {t y : Int32} (h : a ≠ 0) : gm U p e t y a = U a := ms_id h
theorem gm_k {U : Mem} {p e k : Nat} {t y : Int32} (h : k < 12 ∨ 15 < k) : gm U p e t y 0 k = U 0 k := by
  unfold gm
  rw [ms_same, if_neg (by omega), if_neg (by omega), if_neg (by omega), if_neg (by omega)]
theorem gm_12 {U : Mem} {p e : Nat} {t y : Int32} : gm U p e t y 0 12 = nI e := by
  unfold gm
  rw [ms_same, if_pos rfl]
theorem gm_13 {U : Mem} {p e : Nat} {t y : Int32} : gm U p e t y 0 13 = nI p := by
  unfold gm
  rw [ms_same, if_neg (by decide), if_pos rfl]
theorem gm_14 {U : Mem} {p e : Nat} {t y : Int32} : gm U p e t y 0 14 = t := by
  unfold gm
  rw [ms_same, if_neg (by decide), if_neg (by decide), if_pos rfl]
theorem gm_15 {U : Mem} {p e : Nat} {t y : Int32} : gm U p e t y 0 15 = y := by
  unfold gm
  rw [ms_same, if_neg (by decide), if_neg (by decide), if_neg (by decide), if_pos rfl]
theorem gs12 {U : Mem} {p e e' : Nat} {t y : Int32} : st (gm U p e t y) 0 12 (nI e') = gm U p e' t y := gm_ext (fun a ha => by rw [st_id ha, gm_0 ha]) st_same (st_ne2 (by omega)) (st_ne2 (by omega)) (st_ne2 (by omega)) (fun k q1 q2 q3 q4 => by rw [st_ne2 q1, gm_k (by omega)])
theorem gs14 {U : Mem} {p e : Nat} {t t' y : Int32} : st (gm U p e t y) 0 14 t' = gm U p e t' y := gm_ext (fun a ha => by rw [st_id ha, gm_0 ha]) (st_ne2 (by omega)) (st_ne2 (by omega)) st_same (st_ne2 (by omega)) (fun k q1 q2 q3 q4 => by rw [st_ne2 q3, gm_k (by omega)])
theorem gs15 {U : Mem} {p e : Nat} {t y y' : Int32} : st (gm U p e t y) 0 15 y' = gm U p e t y' := gm_ext (fun a ha => by rw [st_id ha, gm_0 ha]) (st_ne2 (by omega)) (st_ne2 (by omega)) (st_ne2 (by omega)) st_same (fun k q1 q2 q3 q4 => by rw [st_ne2 q4, gm_k (by omega)])
theorem in_fig {c : Nat} {W : Mem} (hc : c < 256) : f_X7_in (nI c).toInt64 (48 : Int64) (57 : Int64) W = some (if 48 ≤ c ∧ c ≤ 57 then 1 else 0, W) := by
  rw [show (48 : Int64) = (48 : Int32).toInt64 from rfl, show (57 : Int64) = (57 : Int32).toInt64 from rfl, inw]
  have e : ((48 : Int32) ≤ nI c ∧ nI c ≤ 57) ↔ (48 ≤ c ∧ c ≤ 57) := by
    rw [show (48 : Int32) = nI 48 from rfl, show (57 : Int32) = nI 57 from rfl, nle (by omega) (by omega), nle (by omega) (by omega)]
  simp only [e]
theorem in_let {c : Nat} {W : Mem} (hc : c < 256) : f_X7_in (nI c).toInt64 (97 : Int64) (122 : Int64) W = some (if 97 ≤ c ∧ c ≤ 122 then 1 else 0, W) := by
  rw [show (97 : Int64) = (97 : Int32).toInt64 from rfl, show (122 : Int64) = (122 : Int32).toInt64 from rfl, inw]
  have e : ((97 : Int32) ≤ nI c ∧ nI c ≤ 122) ↔ (97 ≤ c ∧ c ≤ 122) := by
    rw [show (97 : Int32) = nI 97 from rfl, show (122 : Int32) = nI 122 from rfl, nle (by omega) (by omega), nle (by omega) (by omega)]
  simp only [e]
theorem tk_rest {b : Nat → Nat} {n p : Nat} {U : Mem} {y : Int32} (hE : EU b n U) : ∀ (d m q : Nat), q + d = n → d < m → p + 2 ≤ q → f_X7_nextToken_165 m (gm U p q 3 y) = f_X7_nextToken_255 (gm U p (rl b d q) 3 y) := by
  obtain ⟨h1, h2, h3⟩ := hE
  have l11 : ∀ q, gm U p q 3 y 0 11 = nI n := fun q => h2
  intro d
  induction d with
  | zero =>
    intro m q hq hm hp
    obtain ⟨m, rfl⟩ : ∃ n', m = n' + 1 := ⟨m - 1, by omega⟩
    rw [f_X7_nextToken_165, l11, gm_12, if_pos (by rw [nle (by omega) (by omega)]; omega)]
    rfl
  | succ d ih =>
    intro m q hq hm hp
    obtain ⟨m, rfl⟩ : ∃ n', m = n' + 1 := ⟨m - 1, by omega⟩
    obtain ⟨k1, k2⟩ := h3 q (by omega)
    have i130 : ib (nI q) 130 = true := ibt (by omega) (by omega)
    rw [f_X7_nextToken_165, l11, gm_12, if_neg (by rw [nle (by omega) (by omega)]; omega), if_pos i130, ncl (by omega), gm_0 (show (8 : Nat) ≠ 0 by omega), k1, in_fig k2, Option.bind_some, rl]
    by_cases c : dgt b q
    · rw [if_neg (fun z => ((b01z _).mp z) c)]
      simp only [if_pos c, gm_12, gm_13]
      rw [nsb (by omega), if_pos (by rw [li, nle (by omega) (by omega)]; omega), f_X7_nextToken_239_c0, gm_15, gs15, gm_12, nI_1, gs12]
      exact ih m (q + 1) (by omega) (by omega) (by omega)
    · rw [if_pos ((b01z _).mpr c)]
      simp only [if_neg c]
theorem tk_run {b : Nat → Nat} {n p : Nat} {U : Mem} (hE : EU b n U) (hp : p < n) (hd : dgt b p) : ∃ y, f_X7_nextToken_165 4096 (gm U p (p + 1) 3 (nI (b p - 48))) = f_X7_nextToken_255 (gm U p (rl b (n - p) p) 3 y) ∧ (rl b (n - p) p - p ≤ 2 → y = nI (rv b (n - p) p 0)) := by
  obtain ⟨h1, h2, h3⟩ := id hE
  have l11 : ∀ q y, gm U p q 3 y 0 11 = nI n := fun q y => h2
  have fuel : ∀ m, 200 < m → ∃ y, f_X7_nextToken_165 (m + 1) (gm U p (p + 1) 3 (nI (b p - 48))) = f_X7_nextToken_255 (gm U p (rl b (n - p) p) 3 y) ∧ (rl b (n - p) p - p ≤ 2 → y = nI (rv b (n - p) p 0)) := by
    intro m hm
    obtain ⟨d, e⟩ : ∃ d, n - p = d + 1 := ⟨n - p - 1, by omega⟩
    rw [f_X7_nextToken_165, l11, gm_12, e]
    cases d with
    | zero =>
      have r := run1 (d := 0) hd (Or.inl rfl)
      rw [if_pos (by rw [nle (by omega) (by omega)]; omega), r.1, r.2]
      exact ⟨_, rfl, fun _ => rfl⟩
    | succ d =>
      obtain ⟨k1, k2⟩ := h3 (p + 1) (by omega)
      have i130 : ib (nI (p + 1)) 130 = true := ibt (by omega) (by omega)
      rw [if_neg (by rw [nle (by omega) (by omega)]; omega), if_pos i130, ncl (by omega), gm_0 (show (8 : Nat) ≠ 0 by omega), k1, in_fig k2, Option.bind_some]
      by_cases c : dgt b (p + 1)
      · rw [if_neg (fun z => ((b01z _).mp z) c)]
        simp only [gm_12, gm_13]
        have e2 : (10 : Int32) * nI (b p - 48) + nI (b (p + 1)) - 48 = nI (10 * (b p - 48) + (b (p + 1) - 48)) := by
          rw [show (10 : Int32) = nI 10 from rfl, show (48 : Int32) = nI 48 from rfl, pk_mul, nad, nsb (by have := c.1; omega)]
          congr 1
          have := c.1
          omega
        rw [nsb (by omega), if_neg (by rw [li, nle (by omega) (by omega)]; omega), if_pos i130, f_X7_nextToken_239_c0, gm_15, ncl (by omega), gm_0 (show (8 : Nat) ≠ 0 by omega), k1, e2, gs15, gm_12, nI_1, gs12, tk_rest hE d m (p + 1 + 1) (by omega) (by omega) (by omega)]
        have e3 : rl b (d + 1 + 1) p = rl b d (p + 1 + 1) := by rw [rl, if_pos hd, rl, if_pos c]
        rw [e3]
        refine ⟨_, rfl, fun h => ?_⟩
        by_cases c2 : d = 0 ∨ ¬ dgt b (p + 2)
        · rw [(run2 hd c c2).2]
        · have c3 : dgt b (p + 2) := Classical.byContradiction (fun e => c2 (Or.inr e))
          obtain ⟨d, rfl⟩ : ∃ d', d = d' + 1 := ⟨d - 1, by have : ¬ d = 0 := fun e => c2 (Or.inl e); omega⟩
          have c3' : dgt b (p + 1 + 1) := c3
          rw [rl, if_pos c3'] at h
          have := rl_le (b := b) d (p + 1 + 1 + 1)
          omega
      · have r := run1 (d := d + 1) hd (Or.inr c)
        rw [if_pos ((b01z _).mpr c)]
        rw [r.1, r.2]
        exact ⟨_, rfl, fun _ => rfl⟩
  exact fuel 4095 (by omega)
theorem step_m {b : Nat → Nat} {n q : Nat} {U : Mem} (hE : EU b n U) (h12 : U 0 12 = nI q) (hq : q ≤ n) : ∃ U', f_X7_nextToken U = some U' ∧ (∀ a, a ≠ 0 → U' a = U a) ∧ (∀ k, k < 12 ∨ 15 < k → U' 0 k = U 0 k) ∧ U' 0 13 = nI q ∧ U' 0 12 = nI (lexN b n q) ∧ TKU (lexT b n q) U' := by
  obtain ⟨h130, hl, hb⟩ := id hE
  have g0 : st U 0 13 (nI q) = gm U q q (U 0 14) (U 0 15) := gm_ext (fun a ha => st_id ha) (by rw [st_ne2 (by omega)]; exact h12) st_same (st_ne2 (by omega)) (st_ne2 (by omega)) (fun k q1 q2 q3 q4 => st_ne2 q2)
  have l11 : ∀ e t y, gm U q e t y 0 11 = nI n := fun e t y => hl
  unfold f_X7_nextToken
  rw [h12, g0, l11, gm_12]
  generalize U 0 14 = t0
  generalize U 0 15 = y0
  have fin : ∀ (e : Nat) (t y : Int32), (∀ a, a ≠ 0 → gm U q e t y a = U a) ∧ (∀ k, k < 12 ∨ 15 < k → gm U q e t y 0 k = U 0 k) ∧ gm U q e t y 0 13 = nI q ∧ gm U q e t y 0 12 = nI e := fun e t y => ⟨fun a ha => gm_0 ha, fun k hk => gm_k hk, rfl, rfl⟩
  unfold lexN lexT
  by_cases c : q < n
  · obtain ⟨k1, k2⟩ := hb q c
    have e1 : nI q + 1 = nI (q + 1) := nI_1 q
    have a118 : ∀ t y : Int32, f_X7_nextToken_118_c0 t (gm U q q t0 y) = f_X7_nextToken_142_c0 (nI q) 1 (gm U q q t y) := by
      intro t y
      rw [f_X7_nextToken_118_c0, gs14, l11, gm_12, if_neg (by rw [nle (by omega) (by omega)]; omega)]
    have a142 : ∀ t y : Int32, ¬ t = 3 → f_X7_nextToken_142_c0 (nI q) 1 (gm U q q t y) = some (gm U q (q + 1) t y) := by
      intro t y ht
      rw [f_X7_nextToken_142_c0, e1, gs12, gm_14, if_neg ht]
    rw [if_neg (by rw [nle (by omega) (by omega)]; omega), if_pos (ibt (by omega) (by omega)), ncl (by omega), gm_0 (show (8 : Nat) ≠ 0 by omega), k1, f_X7_nextToken_34_c0, gs15, gm_12, l11, if_neg (by rw [neq (by omega) (by omega)]; omega), gm_15, in_let k2, Option.bind_some, if_pos c, if_pos c]
    by_cases cl : 97 ≤ b q ∧ b q ≤ 122
    · have nd : ¬ dgt b q := fun z => by have := z.2; omega
      rw [if_neg (fun z => ((b01z _).mp z) cl)]
      simp only [if_neg nd, if_pos cl]
      rw [a118, a142 _ _ (by decide)]
      obtain ⟨f1, f2, f3, f4⟩ := fin (q + 1) 2 (nI (b q))
      exact ⟨_, rfl, f1, f2, f3, f4, fun e => absurd e (by dsimp only; omega), fun e => absurd e (by dsimp only; omega), fun e => absurd e (by dsimp only; omega), fun _ => ⟨rfl, rfl⟩, fun e => absurd e (by dsimp only; omega)⟩
    · rw [if_pos ((b01z _).mpr cl)]
      simp only [gm_15, if_neg cl]
      rw [in_fig k2, Option.bind_some]
      by_cases cd : dgt b q
      · rw [if_neg (fun z => ((b01z _).mp z) cd)]
        simp only [if_pos cd]
        have e48 : nI (b q) - 48 = nI (b q - 48) := nsb (b := 48) cd.1
        obtain ⟨y, y1, y2⟩ := tk_run hE c cd
        have hrl := rl_le (b := b) (n - q) q
        rw [a118, f_X7_nextToken_142_c0, e1, gs12, gm_14, if_pos rfl, gm_15, e48, gs15, y1, f_X7_nextToken_255, gm_12, gm_13, nsb (by omega), f_X7_nextToken_274_c0, f_X7_nextToken_274_c0, gs14, gs14]
        by_cases c2 : rl b (n - q) q - q ≤ 2
        · rw [if_pos (by rw [li, nle (by omega) (by omega)]; omega), if_pos c2]
          obtain ⟨f1, f2, f3, f4⟩ := fin (rl b (n - q) q) 3 y
          exact ⟨_, rfl, f1, f2, f3, f4, fun e => absurd e (by dsimp only; omega), fun _ => ⟨rfl, y2 c2⟩, fun e => absurd e (by dsimp only; omega), fun e => absurd e (by dsimp only; omega), fun e => absurd e (by dsimp only; omega)⟩
        · rw [if_neg (by rw [li, nle (by omega) (by omega)]; omega), if_neg c2]
          obtain ⟨f1, f2, f3, f4⟩ := fin (rl b (n - q) q) 0 y
          exact ⟨_, rfl, f1, f2, f3, f4, fun e => absurd e (by dsimp only; omega), fun e => absurd e (by dsimp only; omega), fun _ => rfl, fun e => absurd e (by dsimp only; omega), fun e => absurd e (by dsimp only; omega)⟩
      · rw [if_pos ((b01z _).mpr cd)]
        simp only [if_neg cd, gm_15]
        by_cases c44 : b q = 44
        · rw [if_pos (show nI (b q) = 44 by rw [c44]; rfl), if_pos (show b q = 44 ∨ b q = 59 from Or.inl c44), a118, a142 _ _ (by decide)]
          obtain ⟨f1, f2, f3, f4⟩ := fin (q + 1) 4 (nI (b q))
          exact ⟨_, rfl, f1, f2, f3, f4, fun e => absurd e (by dsimp only; omega), fun e => absurd e (by dsimp only; omega), fun e => absurd e (by dsimp only; omega), fun e => absurd e (by dsimp only; omega), fun _ => ⟨rfl, rfl⟩⟩
        · rw [if_neg (show ¬ nI (b q) = 44 by rw [li, neq (by omega) (by omega)]; exact c44)]
          by_cases c59 : b q = 59
          · rw [if_pos (show nI (b q) = 59 by rw [c59]; rfl), if_pos (show b q = 44 ∨ b q = 59 from Or.inr c59), a118, a142 _ _ (by decide)]
            obtain ⟨f1, f2, f3, f4⟩ := fin (q + 1) 4 (nI (b q))
            exact ⟨_, rfl, f1, f2, f3, f4, fun e => absurd e (by dsimp only; omega), fun e => absurd e (by dsimp only; omega), fun e => absurd e (by dsimp only; omega), fun e => absurd e (by dsimp only; omega), fun _ => ⟨rfl, rfl⟩⟩
          · rw [if_neg (show ¬ nI (b q) = 59 by rw [li, neq (by omega) (by omega)]; exact c59), if_neg (show ¬ (b q = 44 ∨ b q = 59) from fun z => z.elim c44 c59), a118, a142 _ _ (by decide)]
            obtain ⟨f1, f2, f3, f4⟩ := fin (q + 1) 0 (nI (b q))
            exact ⟨_, rfl, f1, f2, f3, f4, fun e => absurd e (by dsimp only; omega), fun e => absurd e (by dsimp only; omega), fun _ => rfl, fun e => absurd e (by dsimp only; omega), fun e => absurd e (by dsimp only; omega)⟩
  · have e : q = n := by omega
    rw [if_pos (by rw [nle (by omega) (by omega)]; omega), f_X7_nextToken_34_c0, gs15, gm_12, l11, if_pos (by rw [e]), f_X7_nextToken_118_c0, gs14, l11, gm_12, if_pos (by rw [nle (by omega) (by omega)]; omega), f_X7_nextToken_142_c0, add0, gs12, gm_14, if_neg (by decide), if_neg c, if_neg c]
    obtain ⟨f1, f2, f3, f4⟩ := fin q 1 (-1000000)
    exact ⟨_, rfl, f1, f2, f3, f4, fun _ => rfl, fun e => absurd e (by dsimp only; omega), fun e => absurd e (by dsimp only; omega), fun e => absurd e (by dsimp only; omega), fun e => absurd e (by dsimp only; omega)⟩
end
section
/-! The two readings of a sheet, step by step. -/
def GD (n : Nat) (V U : Mem) (t : Nat × Nat) (p q : Nat) : Prop := V 2 6 = 0 ∧ U 0 16 = 0 ∧ V 2 2 = nI p ∧ U 0 13 = nI p ∧ V 2 3 = nI q ∧ U 0 12 = nI q ∧ q ≤ n ∧ TKV t V ∧ TKU t U ∧ okT t
def FT (V U : Mem) (f : Nat) : Prop := 1 ≤ f ∧ f ≤ 3 ∧ V 2 6 = nI f ∧ U 0 16 = nI f ∧ V 2 2 = U 0 17
def PS (b : Nat → Nat) (n : Nat) (V U : Mem) : Prop := EX b n V ∧ EU b n U ∧ ((∃ t p q, GD n V U t p q) ∨ ∃ f, FT V U f)
def KX (V V' : Mem) : Prop := (∀ a, a ≠ 2 → V' a = V a) ∧ V' 2 1 = V 2 1
def KU (U U' : Mem) : Prop := (∀ a, a ≠ 0 → U' a = U a) ∧ ∀ k, k < 12 ∨ 17 < k → U' 0 k = U 0 k
theorem KX.rf {V : Mem} : KX V V := ⟨fun _ _ => rfl, rfl⟩
theorem KU.rf {U : Mem} : KU U U := ⟨fun _ _ => rfl, fun _ _ => rfl⟩
theorem KX.tr {V V' V'' : Mem} (h : KX V V') (h2 : KX V' V'') : KX V V'' := ⟨fun a q => (h2.1 a q).trans (h.1 a q), h2.2.trans h.2⟩
theorem KU.tr {U U' U'' : Mem} (h : KU U U') (h2 : KU U' U'') : KU U U'' := ⟨fun a q => (h2.1 a q).trans (h.1 a q), fun k q => (h2.2 k q).trans (h.2 k q)⟩
theorem EX.kx {b : Nat → Nat} {n : Nat} {V V' : Mem} (h : EX b n V) (hk : KX V V') : EX b n V' := ⟨h.1, by rw [hk.2]; exact h.2.1, by rw [hk.1 3 (by omega)]; exact h.2.2⟩
theorem EU.ku {b : Nat → Nat} {n : Nat} {U U' : Mem} (h : EU b n U) (hk : KU U U') : EU b n U' := ⟨h.1, by rw [hk.2 11 (by omega)]; exact h.2.1, by rw [hk.1 8 (by omega)]; exact h.2.2⟩
theorem PS.cg {b : Nat → Nat} {n : Nat} {V U V' U' : Mem} (h : PS b n V U) (h2 : V' 2 = V 2) (h3 : V' 3 = V 3) (h0 : U' 0 = U 0) (h8 : U' 8 = U 8) : PS b n V' U' := by
  unfold PS EX EU GD FT TKV TKU at h ⊢
  rw [h2, h3, h0, h8]
  exact h
theorem ft_n {f : Nat} (h : 1 ≤ f ∧ f ≤ 3) : ¬ nI f = 0 := by rw [li, neq (by omega) (by omega)]; omega
theorem step_b {b : Nat → Nat} {n q : Nat} {V U : Mem} (hV : EX b n V) (hU : EU b n U) (h6 : V 2 6 = 0) (h16 : U 0 16 = 0) (h3 : V 2 3 = nI q) (h12 : U 0 12 = nI q) (hq : q ≤ n) : ∃ V' U', f_X5_stepOn 2 V = some V' ∧ f_X7_nextToken U = some U' ∧ KX V V' ∧ KU U U' ∧ PS b n V' U' ∧ V' 2 6 = 0 := by
  obtain ⟨V', x1, x2, x3, x4, x5, x6, x7⟩ := step_x hV h6 h3 hq
  obtain ⟨U', y1, y2, y3, y4, y5, y6⟩ := step_m hU h12 hq
  have kx : KX V V' := ⟨x2, x3⟩
  have ku : KU U U' := ⟨y2, fun k hk => y3 k (by omega)⟩
  exact ⟨V', U', x1, y1, kx, ku, ⟨hV.kx kx, hU.ku ku, Or.inl ⟨_, _, _, x4, by rw [y3 16 (by omega)]; exact h16, x5, y4, x6, y5, (lexN_le hq).2, x7, y6, lexT_ok⟩⟩, x4⟩
theorem stop_x {V : Mem} (h : ¬ V 2 6 = 0) : f_X5_stepOn 2 V = some V := by
  unfold f_X5_stepOn
  rw [if_neg h]
theorem fault_b {b : Nat → Nat} {n p q f : Nat} {t : Nat × Nat} {V U : Mem} (hf : 1 ≤ f ∧ f ≤ 3) (hV : EX b n V) (hU : EU b n U) (h : GD n V U t p q) : ∃ U', f_X7_bad (nI f) U = some U' ∧ KX V (st V 2 6 (nI f)) ∧ KU U U' ∧ PS b n (st V 2 6 (nI f)) U' ∧ ¬ st V 2 6 (nI f) 2 6 = 0 ∧ ¬ U' 0 16 = 0 := by
  obtain ⟨g1, g2, g3, g4, -⟩ := h
  unfold f_X7_bad
  rw [if_pos g2, st_ne2 (show (13 : Nat) ≠ 16 by omega), g4]
  have kx : KX V (st V 2 6 (nI f)) := ⟨fun a ha => st_id ha, st_ne2 (by omega)⟩
  have ku : KU U (st (st U 0 16 (nI f)) 0 17 (nI p)) := ⟨fun a ha => by rw [st_id ha, st_id ha], fun k hk => by rw [st_ne2 (by omega), st_ne2 (by omega)]⟩
  refine ⟨_, rfl, kx, ku, ⟨hV.kx kx, hU.ku ku, Or.inr ⟨f, hf.1, hf.2, st_same, by rw [st_ne2 (by omega), st_same], by rw [st_ne2 (by omega), st_same]; exact g3⟩⟩, by rw [st_same]; exact ft_n hf, by rw [st_ne2 (by omega), st_same]; exact ft_n hf⟩
theorem tk_sign {t : Nat × Nat} {V U : Mem} {c : Nat} (hc : c = 44 ∨ c = 59) (hV : TKV t V) (hU : TKU t U) (hk : okT t) : (V 2 4 = nI c) ↔ (U 0 14 = 4 ∧ U 0 15 = nI c) := by
  obtain ⟨k0, k1, k3, k4⟩ := hk
  obtain ⟨v0, v1, v2, v3⟩ := hV
  obtain ⟨u0, u1, u2, u3, u4⟩ := hU
  rcases (show t.1 = 0 ∨ t.1 = 1 ∨ t.1 = 2 ∨ t.1 = 3 ∨ t.1 = 4 by omega) with e | e | e | e | e
  · rw [v0 e, u0 e]
    exact ⟨fun z => by rw [show (0 : Int32) = nI 0 from rfl, neq (by omega) (by omega)] at z; omega, fun z => absurd z.1 (by decide)⟩
  · rw [(v1 e).1, (u1 e).1]
    exact ⟨fun z => by rw [show (1 : Int32) = nI 1 from rfl, neq (by omega) (by omega)] at z; omega, fun z => absurd z.1 (by decide)⟩
  · rw [v2 e, u2 e]
    exact ⟨fun z => by rw [show (2 : Int32) = nI 2 from rfl, neq (by omega) (by omega)] at z; omega, fun z => absurd z.1 (by decide)⟩
  · have := k3 e
    rw [v3 (by omega), (u3 e).1]
    exact ⟨fun z => by rw [neq (by omega) (by omega)] at z; omega, fun z => absurd z.1 (by decide)⟩
  · rw [v3 (by omega), (u4 e).1, (u4 e).2]
    exact ⟨fun z => ⟨rfl, z⟩, fun z => z.2⟩
theorem tk_name {t : Nat × Nat} {V U : Mem} {c : Nat} (hc : 97 ≤ c ∧ c ≤ 122) (hV : TKV t V) (hU : TKU t U) (hk : okT t) : (V 2 4 = nI c) ↔ (U 0 14 = 2 ∧ U 0 15 = nI c) := by
  obtain ⟨k0, k1, k3, k4⟩ := hk
  obtain ⟨v0, v1, v2, v3⟩ := hV
  obtain ⟨u0, u1, u2, u3, u4⟩ := hU
  rcases (show t.1 = 0 ∨ t.1 = 1 ∨ t.1 = 2 ∨ t.1 = 3 ∨ t.1 = 4 by omega) with e | e | e | e | e
  · rw [v0 e, u0 e]
    exact ⟨fun z => by rw [show (0 : Int32) = nI 0 from rfl, neq (by omega) (by omega)] at z; omega, fun z => absurd z.1 (by decide)⟩
  · rw [(v1 e).1, (u1 e).1]
    exact ⟨fun z => by rw [show (1 : Int32) = nI 1 from rfl, neq (by omega) (by omega)] at z; omega, fun z => absurd z.1 (by decide)⟩
  · rw [v2 e, u2 e]
    exact ⟨fun z => by rw [show (2 : Int32) = nI 2 from rfl, neq (by omega) (by omega)] at z; omega, fun z => absurd z.1 (by decide)⟩
  · rw [v3 (by omega), (u3 e).1, (u3 e).2]
    exact ⟨fun z => ⟨rfl, z⟩, fun z => z.2⟩
  · have := k4 e
    rw [v3 (by omega), (u4 e).1]
    exact ⟨fun z => by rw [neq (by omega) (by omega)] at z; omega, fun z => absurd z.1 (by decide)⟩
theorem tk_num {t : Nat × Nat} {V U : Mem} (hV : TKV t V) (hU : TKU t U) (hk : okT t) : ((V 2 4 = 1) ↔ t.1 = 1) ∧ ((U 0 14 = 3) ↔ t.1 = 1) ∧ ((V 2 4 = 0) ↔ t.1 = 0) ∧ ((U 0 14 = 1) ↔ t.1 = 0) ∧ ((U 0 14 = 2) ↔ t.1 = 3) := by
  obtain ⟨k0, k1, k3, k4⟩ := hk
  obtain ⟨v0, v1, v2, v3⟩ := hV
  obtain ⟨u0, u1, u2, u3, u4⟩ := hU
  rcases (show t.1 = 0 ∨ t.1 = 1 ∨ t.1 = 2 ∨ t.1 = 3 ∨ t.1 = 4 by omega) with e | e | e | e | e
  · rw [v0 e, u0 e, e]; decide
  · rw [(v1 e).1, (u1 e).1, e]; decide
  · rw [v2 e, u2 e, e]; decide
  · have := k3 e
    rw [v3 (by omega), (u3 e).1, e, show (1 : Int32) = nI 1 from rfl, show (0 : Int32) = nI 0 from rfl, neq (by omega) (by omega), neq (by omega) (by omega)]
    refine ⟨⟨fun z => by omega, fun z => by omega⟩, ⟨fun z => absurd z (by decide), fun z => absurd z (by decide)⟩, ⟨fun z => by omega, fun z => by omega⟩, ⟨fun z => absurd z (by decide), fun z => absurd z (by decide)⟩, ⟨fun _ => rfl, fun _ => rfl⟩⟩
  · have := k4 e
    rw [v3 (by omega), (u4 e).1, e, show (1 : Int32) = nI 1 from rfl, show (0 : Int32) = nI 0 from rfl, neq (by omega) (by omega), neq (by omega) (by omega)]
    refine ⟨⟨fun z => by omega, fun z => by omega⟩, ⟨fun z => absurd z (by decide), fun z => absurd z (by decide)⟩, ⟨fun z => by omega, fun z => by omega⟩, ⟨fun z => absurd z (by decide), fun z => absurd z (by decide)⟩, ⟨fun z => absurd z (by decide), fun z => absurd z (by decide)⟩⟩
/-- the reference goes on, or stays at a fault -/
theorem must_f {U : Mem} (x : Int32) (h : ¬ U 0 16 = 0) : f_X7_must x U = some U := by
  unfold f_X7_must f_X7_must_9 f_X7_bad
  by_cases c : x = 0
  · rw [if_pos c, if_neg h, Option.bind_some, if_neg h]
  · rw [if_neg c, if_neg h]
theorem must_1 {U U' : Mem} (h : U 0 16 = 0) (hn : f_X7_nextToken U = some U') : f_X7_must 1 U = some U' := by
  unfold f_X7_must f_X7_must_9
  rw [if_neg (by decide), if_pos h, hn, Option.bind_some]
theorem must_0 {U U' : Mem} (hb : f_X7_bad 1 U = some U') (h : ¬ U' 0 16 = 0) : f_X7_must 0 U = some U' := by
  unfold f_X7_must f_X7_must_9
  rw [if_pos rfl, hb, Option.bind_some, if_neg h]
theorem pass_g {b : Nat → Nat} {n c : Nat} {V U : Mem} {x : Int32} (hP : PS b n V U) (hx : (∃ t p q, GD n V U t p q) → (x = 1 ∧ V 2 4 = nI c) ∨ (x = 0 ∧ ¬ V 2 4 = nI c)) : ∃ V' U', f_X5_pass 2 (nI c) V = some V' ∧ f_X7_must x U = some U' ∧ KX V V' ∧ KU U U' ∧ PS b n V' U' ∧ (V' 2 6 = 0 → V 2 6 = 0) := by
  obtain ⟨hV, hU, hs⟩ := id hP
  rcases hs with ⟨t, p, q, h⟩ | ⟨f, h⟩
  · obtain ⟨g1, g2, g3, g4, g5, g6, g7, g8, g9, g10⟩ := id h
    unfold f_X5_pass f_X5_pass_20
    rw [if_pos g1]
    rcases hx ⟨t, p, q, h⟩ with ⟨x1, x2⟩ | ⟨x1, x2⟩
    · obtain ⟨V', U', s1, s2, s3, s4, s5, s6⟩ := step_b hV hU g1 g2 g5 g6 g7
      rw [if_pos x2, s1, Option.bind_some, x1, must_1 g2 s2]
      exact ⟨V', U', rfl, rfl, s3, s4, s5, fun _ => g1⟩
    · obtain ⟨U', s1, s2, s3, s4, s5, s6⟩ := fault_b (f := 1) (by omega) hV hU h
      have s5' : ¬ st V 2 6 1 2 6 = 0 := s5
      rw [if_neg x2, stop_x s5', Option.bind_some, x1, must_0 s1 s6]
      exact ⟨_, U', rfl, rfl, s2, s3, s4, fun z => absurd z s5⟩
  · obtain ⟨g1, g2, g3, g4, g5⟩ := h
    have n6 : ¬ V 2 6 = 0 := by rw [g3]; exact ft_n ⟨g1, g2⟩
    have n16 : ¬ U 0 16 = 0 := by rw [g4]; exact ft_n ⟨g1, g2⟩
    unfold f_X5_pass f_X5_pass_20
    rw [if_neg n6, stop_x n6, Option.bind_some, must_f x n16]
    exact ⟨V, U, rfl, rfl, KX.rf, KU.rf, hP, fun z => z⟩
theorem pass_b {b : Nat → Nat} {n c : Nat} {V U : Mem} (hc : c = 44 ∨ c = 59) (hP : PS b n V U) : ∃ V' U', f_X5_pass 2 (nI c) V = some V' ∧ f_X7_mustSign (nI c) U = some U' ∧ KX V V' ∧ KU U U' ∧ PS b n V' U' ∧ (V' 2 6 = 0 → V 2 6 = 0) := by
  unfold f_X7_mustSign f_X7_mustSign_22_c0
  by_cases a : U 0 14 = 4
  · rw [if_pos a]
    by_cases a2 : U 0 15 = nI c
    · obtain ⟨V', U', p1, p2, p3⟩ := pass_g (x := 1) (c := c) hP (fun ⟨t, p, q, h⟩ => Or.inl ⟨rfl, (tk_sign hc h.2.2.2.2.2.2.2.1 h.2.2.2.2.2.2.2.2.1 h.2.2.2.2.2.2.2.2.2).mpr ⟨a, a2⟩⟩)
      rw [if_pos a2, p2, Option.bind_some]
      exact ⟨V', U', p1, rfl, p3⟩
    · obtain ⟨V', U', p1, p2, p3⟩ := pass_g (x := 0) (c := c) hP (fun ⟨t, p, q, h⟩ => Or.inr ⟨rfl, fun z => a2 ((tk_sign hc h.2.2.2.2.2.2.2.1 h.2.2.2.2.2.2.2.2.1 h.2.2.2.2.2.2.2.2.2).mp z).2⟩)
      rw [if_neg a2, p2, Option.bind_some]
      exact ⟨V', U', p1, rfl, p3⟩
  · obtain ⟨V', U', p1, p2, p3⟩ := pass_g (x := 0) (c := c) hP (fun ⟨t, p, q, h⟩ => Or.inr ⟨rfl, fun z => a ((tk_sign hc h.2.2.2.2.2.2.2.1 h.2.2.2.2.2.2.2.2.1 h.2.2.2.2.2.2.2.2.2).mp z).1⟩)
    rw [if_neg a, p2, Option.bind_some]
    exact ⟨V', U', p1, rfl, p3⟩
theorem letter_b {b : Nat → Nat} {n : Nat} {V U : Mem} (hP : PS b n V U) : ∃ x V' U', f_X5_pass 2 110 V = some V' ∧ f_X7_isLetter 110 U = some (x, U) ∧ f_X7_must x U = some U' ∧ KX V V' ∧ KU U U' ∧ PS b n V' U' ∧ (V' 2 6 = 0 → V 2 6 = 0) := by
  unfold f_X7_isLetter
  by_cases a0 : U 0 16 = 0
  · rw [if_pos a0]
    by_cases a : U 0 14 = 2
    · rw [if_pos a]
      by_cases a2 : U 0 15 = 110
      · obtain ⟨V', U', p1, p2, p3⟩ := pass_g (x := 1) (c := 110) hP (fun ⟨t, p, q, h⟩ => Or.inl ⟨rfl, (tk_name (c := 110) (by omega) h.2.2.2.2.2.2.2.1 h.2.2.2.2.2.2.2.2.1 h.2.2.2.2.2.2.2.2.2).mpr ⟨a, a2⟩⟩)
        rw [if_pos a2]
        exact ⟨1, V', U', p1, rfl, p2, p3⟩
      · obtain ⟨V', U', p1, p2, p3⟩ := pass_g (x := 0) (c := 110) hP (fun ⟨t, p, q, h⟩ => Or.inr ⟨rfl, fun z => a2 ((tk_name (c := 110) (by omega) h.2.2.2.2.2.2.2.1 h.2.2.2.2.2.2.2.2.1 h.2.2.2.2.2.2.2.2.2).mp z).2⟩)
        rw [if_neg a2]
        exact ⟨0, V', U', p1, rfl, p2, p3⟩
    · obtain ⟨V', U', p1, p2, p3⟩ := pass_g (x := 0) (c := 110) hP (fun ⟨t, p, q, h⟩ => Or.inr ⟨rfl, fun z => a ((tk_name (c := 110) (by omega) h.2.2.2.2.2.2.2.1 h.2.2.2.2.2.2.2.2.1 h.2.2.2.2.2.2.2.2.2).mp z).1⟩)
      rw [if_neg a]
      exact ⟨0, V', U', p1, rfl, p2, p3⟩
  · obtain ⟨V', U', p1, p2, p3⟩ := pass_g (x := 0) (c := 110) hP (fun ⟨t, p, q, h⟩ => absurd h.2.1 a0)
    rw [if_neg a0]
    exact ⟨0, V', U', p1, rfl, p2, p3⟩
theorem number_b {b : Nat → Nat} {n h : Nat} {V U : Mem} (hh : h ≤ 20) (hP : PS b n V U) : ∃ x y V' U', f_X5_passNumber 2 (nI h) V = some (x, V') ∧ f_X7_number 0 (nI h) U = some (y, U') ∧ KX V V' ∧ KU U U' ∧ PS b n V' U' ∧ (V' 2 6 = 0 → V 2 6 = 0 ∧ ∃ v, v ≤ h ∧ x = nI v ∧ y = nI v) := by
  obtain ⟨hV, hU, hs⟩ := id hP
  rcases hs with ⟨t, p, q, g⟩ | ⟨f, g⟩
  · obtain ⟨g1, g2, g3, g4, g5, g6, g7, g8, g9, g10⟩ := id g
    obtain ⟨n1, n2, -⟩ := tk_num g8 g9 g10
    unfold f_X5_passNumber f_X5_passNumber_20 f_X5_passNumber_40 f_X7_number f_X7_number_20 f_X7_number_47 f_X7_number_62
    rw [if_pos g1, if_pos g2]
    by_cases a : t.1 = 1
    · have v5 := (g8.2.1 a).2
      have u15 := (g9.2.1 a).2
      have h99 := g10.2.1 a
      have hin : f_X7_in (nI t.2).toInt64 (0 : Int32).toInt64 (nI h).toInt64 U = some (if t.2 ≤ h then 1 else 0, U) := by
        rw [inw]
        have e : ((0 : Int32) ≤ nI t.2 ∧ nI t.2 ≤ nI h) ↔ (t.2 ≤ h) := by
          rw [nle (by omega) (by omega)]
          exact ⟨fun z => z.2, fun z => ⟨nI_pos' (by omega), z⟩⟩
        simp only [e]
      rw [if_pos (n1.mpr a), if_pos (n2.mpr a), if_pos g1, if_pos g2, v5, u15, hin, Option.bind_some]
      by_cases c : t.2 ≤ h
      · obtain ⟨V', U', s1, s2, s3, s4, s5, s6⟩ := step_b hV hU g1 g2 g5 g6 g7
        rw [if_pos (by rw [nle (by omega) (by omega)]; exact c), s1, Option.bind_some, if_neg (fun z => ((b01z _).mp z) c)]
        simp only [g2, if_true, u15]
        rw [must_1 g2 s2, Option.bind_some]
        exact ⟨_, _, V', U', rfl, rfl, s3, s4, s5, fun _ => ⟨g1, t.2, c, rfl, rfl⟩⟩
      · obtain ⟨U', s1, s2, s3, s4, s5, s6⟩ := fault_b (f := 2) (by omega) hV hU g
        have s5' : ¬ st V 2 6 2 2 6 = 0 := s5
        have s1' : f_X7_bad 2 U = some U' := s1
        rw [if_neg (by rw [nle (by omega) (by omega)]; exact c), stop_x s5', Option.bind_some, if_pos ((b01z _).mpr c)]
        dsimp only
        rw [s1', Option.bind_some, if_neg s6, must_f 1 s6, Option.bind_some]
        exact ⟨_, _, _, U', rfl, rfl, s2, s3, s4, fun z => absurd z s5⟩
    · obtain ⟨U', s1, s2, s3, s4, s5, s6⟩ := fault_b (f := 1) (by omega) hV hU g
      have s5' : ¬ st V 2 6 1 2 6 = 0 := s5
      have s1' : f_X7_bad 1 U = some U' := s1
      rw [if_neg (fun z => a (n1.mp z)), if_neg (fun z => a (n2.mp z)), if_neg s5', stop_x s5', Option.bind_some, s1', Option.bind_some, if_neg s6, if_neg s6, must_f 1 s6, Option.bind_some]
      exact ⟨_, _, _, U', rfl, rfl, s2, s3, s4, fun z => absurd z s5⟩
  · obtain ⟨g1, g2, g3, g4, g5⟩ := g
    have n6 : ¬ V 2 6 = 0 := by rw [g3]; exact ft_n ⟨g1, g2⟩
    have n16 : ¬ U 0 16 = 0 := by rw [g4]; exact ft_n ⟨g1, g2⟩
    unfold f_X5_passNumber f_X5_passNumber_20 f_X5_passNumber_40 f_X7_number f_X7_number_20 f_X7_number_47 f_X7_number_62
    rw [if_neg n6, if_neg n6, stop_x n6, Option.bind_some, if_neg n16, if_neg n16, if_neg n16, must_f 1 n16, Option.bind_some]
    exact ⟨_, _, V, U, rfl, rfl, KX.rf, KU.rf, hP, fun z => absurd z n6⟩
def kd (c : Nat) : Nat := if c = 105 then 1 else if c = 114 then 2 else if c = 99 then 3 else if c = 116 then 4 else if c = 104 then 5 else 0
theorem kd_le (c : Nat) : kd c ≤ 5 := by
  unfold kd
  repeat' split
  all_goals omega
theorem kindBy_m {c : Nat} {U : Mem} (hc : c < 256) : f_X7_kindBy (nI c) U = some (if kd c = 0 then -1000000 else nI (kd c), U) := by
  unfold f_X7_kindBy kd
  by_cases c1 : c = 105
  · rw [if_pos (by rw [c1]; rfl), if_pos c1]; rfl
  rw [if_neg (by rw [li, neq (by omega) (by omega)]; exact c1), if_neg c1]
  by_cases c2 : c = 114
  · rw [if_pos (by rw [c2]; rfl), if_pos c2]; rfl
  rw [if_neg (by rw [li, neq (by omega) (by omega)]; exact c2), if_neg c2]
  by_cases c3 : c = 99
  · rw [if_pos (by rw [c3]; rfl), if_pos c3]; rfl
  rw [if_neg (by rw [li, neq (by omega) (by omega)]; exact c3), if_neg c3]
  by_cases c4 : c = 116
  · rw [if_pos (by rw [c4]; rfl), if_pos c4]; rfl
  rw [if_neg (by rw [li, neq (by omega) (by omega)]; exact c4), if_neg c4]
  by_cases c5 : c = 104
  · rw [if_pos (by rw [c5]; rfl), if_pos c5]; rfl
  rw [if_neg (by rw [li, neq (by omega) (by omega)]; exact c5), if_neg c5]
  rfl
abbrev srt (t : Nat × Nat) : Prop := t.1 = 3 ∧ ¬ kd t.2 = 0
theorem isSort_m {n p q : Nat} {t : Nat × Nat} {V U : Mem} (h : GD n V U t p q) : f_X7_isSort U = some (if srt t then 1 else 0, U) := by
  obtain ⟨g1, g2, g3, g4, g5, g6, g7, g8, g9, g10⟩ := h
  obtain ⟨-, -, -, -, n5⟩ := tk_num g8 g9 g10
  unfold f_X7_isSort
  rw [if_pos g2]
  by_cases a : t.1 = 3
  · have hc := g10.2.2.1 a
    rw [if_pos (n5.mpr a), (g9.2.2.2.1 a).2, kindBy_m (by omega), Option.bind_some]
    by_cases k : kd t.2 = 0
    · have e : (if kd t.2 = 0 then (-1000000 : Int32) else nI (kd t.2)) = -1000000 := if_pos k
      rw [e, if_pos rfl, if_neg (fun z => z.2 k)]
    · have e : (if kd t.2 = 0 then (-1000000 : Int32) else nI (kd t.2)) = nI (kd t.2) := if_neg k
      have k5 := kd_le t.2
      have nn : ¬ nI (kd t.2) = -1000000 := fun z => absurd (z ▸ nI_pos' (show kd t.2 < 2147483648 by omega)) (by decide)
      rw [e, if_neg nn, if_pos ⟨a, k⟩]
  · rw [if_neg (fun z => a (n5.mp z)), if_neg (fun z => a z.1)]
/-- the sort that the class finds -/
theorem sort_yes {c k : Nat} {V : Mem} (hc : c < 256) (h4 : V 2 4 = nI c) (h6 : V 2 6 = 0) (hk : ¬ kd c = 0) : f_X5_passSort 2 (nI k) V = f_X5_passSort_49 2 (nI k) (nI (kd c)) V := by
  have go : ∀ m, f_X5_passSort_2 2 (m + 5) (nI k) 1 V = f_X5_passSort_49 2 (nI k) (nI (kd c)) V := by
    intro m
    unfold kd at hk ⊢
    by_cases c1 : c = 105
    · subst c1
      rw [f_X5_passSort_2, if_neg (by decide), if_pos (by decide), h4, if_pos (by decide), f_X5_passSort_25, if_pos h6, if_pos (by decide), h4, if_pos (by decide)]
      rfl
    by_cases c2 : c = 114
    · subst c2
      rw [f_X5_passSort_2, if_neg (by decide), if_pos (by decide), h4, if_neg (by decide), f_X5_passSort_2, if_neg (by decide), if_pos (by decide), h4, if_pos (by decide), f_X5_passSort_25, if_pos h6, if_pos (by decide), h4, if_pos (by decide)]
      rfl
    by_cases c3 : c = 99
    · subst c3
      rw [f_X5_passSort_2, if_neg (by decide), if_pos (by decide), h4, if_neg (by decide), f_X5_passSort_2, if_neg (by decide), if_pos (by decide), h4, if_neg (by decide), f_X5_passSort_2, if_neg (by decide), if_pos (by decide), h4, if_pos (by decide), f_X5_passSort_25, if_pos h6, if_pos (by decide), h4, if_pos (by decide)]
      rfl
    by_cases c4 : c = 116
    · subst c4
      rw [f_X5_passSort_2, if_neg (by decide), if_pos (by decide), h4, if_neg (by decide), f_X5_passSort_2, if_neg (by decide), if_pos (by decide), h4, if_neg (by decide), f_X5_passSort_2, if_neg (by decide), if_pos (by decide), h4, if_neg (by decide), f_X5_passSort_2, if_neg (by decide), if_pos (by decide), h4, if_pos (by decide), f_X5_passSort_25, if_pos h6, if_pos (by decide), h4, if_pos (by decide)]
      rfl
    by_cases c5 : c = 104
    · subst c5
      rw [f_X5_passSort_2, if_neg (by decide), if_pos (by decide), h4, if_neg (by decide), f_X5_passSort_2, if_neg (by decide), if_pos (by decide), h4, if_neg (by decide), f_X5_passSort_2, if_neg (by decide), if_pos (by decide), h4, if_neg (by decide), f_X5_passSort_2, if_neg (by decide), if_pos (by decide), h4, if_neg (by decide), f_X5_passSort_2, if_pos (by decide), f_X5_passSort_25, if_pos h6, if_pos (by decide), h4, if_pos (by decide)]
      rfl
    rw [if_neg c1, if_neg c2, if_neg c3, if_neg c4, if_neg c5] at hk
    exact absurd rfl hk
  exact go 4091
theorem sort_no {k : Nat} {V : Mem} (h6 : V 2 6 = 0) (h1 : ¬ V 2 4 = 105) (h2 : ¬ V 2 4 = 114) (h3 : ¬ V 2 4 = 99) (h4 : ¬ V 2 4 = 116) (h5 : ¬ V 2 4 = 104) : f_X5_passSort 2 (nI k) V = some (5, st V 2 6 1) := by
  have e1 : ¬ tba 1 (Int32.toNatClampNeg 1) = V 2 4 := fun z => h1 z.symm
  have e2 : ¬ tba 1 (Int32.toNatClampNeg (1 + 1)) = V 2 4 := fun z => h2 z.symm
  have e3 : ¬ tba 1 (Int32.toNatClampNeg (1 + 1 + 1)) = V 2 4 := fun z => h3 z.symm
  have e4 : ¬ tba 1 (Int32.toNatClampNeg (1 + 1 + 1 + 1)) = V 2 4 := fun z => h4 z.symm
  have e5 : ¬ tba 1 (Int32.toNatClampNeg (1 + 1 + 1 + 1 + 1)) = V 2 4 := fun z => h5 z.symm
  have s5 : ¬ st V 2 6 1 2 6 = 0 := by rw [st_same]; decide
  have go : ∀ m, f_X5_passSort_2 2 (m + 5) (nI k) 1 V = some (5, st V 2 6 1) := by
    intro m
    rw [f_X5_passSort_2, if_neg (by decide), if_pos (by decide), if_neg e1, f_X5_passSort_2, if_neg (by decide), if_pos (by decide), if_neg e2, f_X5_passSort_2, if_neg (by decide), if_pos (by decide), if_neg e3, f_X5_passSort_2, if_neg (by decide), if_pos (by decide), if_neg e4, f_X5_passSort_2, if_pos (by decide), f_X5_passSort_25, if_pos h6, if_pos (by decide), if_neg e5, f_X5_passSort_49, if_neg s5, f_X5_passSort_67, stop_x s5, Option.bind_some]
    rfl
  exact go 4091
end
