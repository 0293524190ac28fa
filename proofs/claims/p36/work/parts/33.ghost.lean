/-! the model's functions (definitions alone; no object stands for them here) -/
def f_X7_holdsRow_31  (z : St) (s0 : Int32) : Option (St × Int32) :=
  if zb s0 = true then some (z, s0) else none
def f_X7_holdsRow_26  (z : St)  : Option (St × Int32) :=
  f_X7_holdsRow_31 z 1
def f_X7_holdsRow_30  (z : St)  : Option (St × Int32) :=
  f_X7_holdsRow_31 z 0
def f_X7_holdsRow_16  (z : St) (o0 : Nat) (x1 : Int32) (x2 : Int32) : Option (St × Int32) :=
  if ((z.1 o0 2) - x2) < x1 then f_X7_holdsRow_30 z else f_X7_holdsRow_26 z
def f_X7_holdsRow_8  (z : St) (o0 : Nat) (x1 : Int32) (x2 : Int32) : Option (St × Int32) :=
  if (z.1 o0 2) < x2 then f_X7_holdsRow_30 z else f_X7_holdsRow_16 z o0 x1 x2
def f_X7_holdsRow_4  (z : St) (o0 : Nat) (x1 : Int32) (x2 : Int32) : Option (St × Int32) :=
  if x2 < 0 then f_X7_holdsRow_30 z else f_X7_holdsRow_8 z o0 x1 x2
def f_X7_holdsRow_0  (z : St) (o0 : Nat) (x1 : Int32) (x2 : Int32) : Option (St × Int32) :=
  if x1 < 0 then f_X7_holdsRow_30 z else f_X7_holdsRow_4 z o0 x1 x2
def f_X7_holdsRow (z : St) (o0 : Nat) (x1 : Int32) (x2 : Int32) : Option (St × Int32) := f_X7_holdsRow_0 z o0 x1 x2
def f_X7_takeOver_35  (z : St)  : Option (St) :=
  some z
def f_X7_takeOver_20  (z : St) (o0 : Nat) (o1 : Nat) (x2 : Int32) (x3 : Int32) (x4 : Int32) : Option (St) :=
  if cpOk x2 x3 x4 40 40 = true then (f_X7_takeOver_35 (zC z (rf o0 0) (va_cpy (z.2 (rf o1 0)) (z.2 (rf o0 0)) (Int32.toNatClampNeg x2) (Int32.toNatClampNeg x3) (Int32.toNatClampNeg x4)))) else none
def f_X7_takeOver_10  (z : St) (o0 : Nat) (o1 : Nat) (x2 : Int32) (x3 : Int32) (x4 : Int32) : Option (St) :=
  ((f_X7_holdsRow z o0 x3 x4).bind fun r1 => if r1.2 = 0 then f_X7_takeOver_35 r1.1 else f_X7_takeOver_20 r1.1 o0 o1 x2 x3 x4)
def f_X7_takeOver_0  (z : St) (o0 : Nat) (o1 : Nat) (x2 : Int32) (x3 : Int32) (x4 : Int32) : Option (St) :=
  ((f_X7_holdsRow z o1 x2 x4).bind fun r1 => if r1.2 = 0 then f_X7_takeOver_35 r1.1 else f_X7_takeOver_10 r1.1 o0 o1 x2 x3 x4)
def f_X7_takeOver (z : St) (o0 : Nat) (o1 : Nat) (x2 : Int32) (x3 : Int32) (x4 : Int32) : Option (St) := f_X7_takeOver_0 z o0 o1 x2 x3 x4
def f_X10_findBlock_0  (z : St) (o0 : Nat) : Option (St) :=
  ((f_X3_layGreedy z (rf o0 6) (rf o0 4)).bind fun r1 => ((f_X0_find r1 (rf o0 8) (rf o0 4) (rf o0 6)).bind fun r3 => some r3))
def f_X10_findBlock (z : St) (o0 : Nat) : Option (St) := f_X10_findBlock_0 z o0
def f_X10_critical_9  (z : St)  : Option (St × Int32) :=
  some (z, (-2))
def f_X10_critical_22  (z : St)  : Option (St × Int32) :=
  some (z, (-3))
def f_X10_critical_60  (z : St) (o0 : Nat) : Option (St × Int32) :=
  some (z, z.1 (rf o0 8) 0)
def f_X10_critical_68  (z : St) (o0 : Nat) : Option (St × Int32) :=
  some (z, z.1 (rf o0 8) 1)
def f_X10_critical_76  (z : St) (o0 : Nat) : Option (St × Int32) :=
  some (z, z.1 (rf o0 8) 2)
def f_X10_critical_84  (z : St) (o0 : Nat) : Option (St × Int32) :=
  some (z, z.1 (rf o0 8) 3)
def f_X10_critical_92  (z : St) (o0 : Nat) : Option (St × Int32) :=
  some (z, z.1 (rf o0 8) 4)
def f_X10_critical_25  (z : St) (o0 : Nat) (x1 : Int32) : Option (St × Int32) :=
  ((f_X10_findBlock z o0).bind fun r1 => if x1 = 0 then f_X10_critical_60 r1 o0 else if x1 = 1 then f_X10_critical_68 r1 o0 else if x1 = 2 then f_X10_critical_76 r1 o0 else if x1 = 3 then f_X10_critical_84 r1 o0 else f_X10_critical_92 r1 o0)
def f_X10_critical_12  (z : St) (o0 : Nat) (x1 : Int32) : Option (St × Int32) :=
  if (z.1 (rf o0 0) 1) = 0 then f_X10_critical_22 z else f_X10_critical_25 z o0 x1
def f_X10_critical_4  (z : St) (o0 : Nat) (x1 : Int32) : Option (St × Int32) :=
  if x1 ≤ 4 then f_X10_critical_12 z o0 x1 else f_X10_critical_9 z
def f_X10_critical_0  (z : St) (o0 : Nat) (x1 : Int32) : Option (St × Int32) :=
  if x1 < 0 then f_X10_critical_9 z else f_X10_critical_4 z o0 x1
def f_X10_critical (z : St) (o0 : Nat) (x1 : Int32) : Option (St × Int32) := f_X10_critical_0 z o0 x1
def f_X10_branch_18  (z : St)  : Option (St × Int32) :=
  some (z, (-2))
def f_X10_branch_36  (z : St)  : Option (St × Int32) :=
  some (z, (-3))
def f_X10_branch_65  (z : St) (s0 : Int32) : Option (St × Int32) :=
  some (z, s0)
def f_X10_branch_48  (z : St) (o0 : Nat) : Option (St × Int32) :=
  f_X10_branch_65 z (z.1 (rf o0 8) 5)
def f_X10_branch_58  (z : St) (o0 : Nat) : Option (St × Int32) :=
  f_X10_branch_65 z (z.1 (rf o0 8) 6)
def f_X10_branch_44  (z : St) (o0 : Nat) (x1 : Int32) : Option (St × Int32) :=
  if x1 = 0 then f_X10_branch_48 z o0 else f_X10_branch_58 z o0
def f_X10_branch_132  (z : St) (o0 : Nat) : Option (St × Int32) :=
  ((f_X3_layGreedy z (rf o0 6) (rf o0 5)).bind fun r1 => some (r1, r1.1 (rf o0 6) 6))
def f_X10_branch_151  (z : St) (o0 : Nat) : Option (St × Int32) :=
  ((f_X1_run z (rf o0 9) (rf o0 5)).bind fun r1 => some (r1, r1.1 (rf o0 9) 1))
def f_X10_branch_128  (z : St) (o0 : Nat) (x2 : Int32) : Option (St × Int32) :=
  if x2 = 0 then f_X10_branch_132 z o0 else f_X10_branch_151 z o0
def f_X10_branch_81  (z : St) (o0 : Nat) (x2 : Int32) : Option (St × Int32) :=
  ((f_X4_changeCools z (rf o0 5) (z.1 (rf o0 8) 2) (z.1 (rf o0 8) 5)).bind fun r1 => f_X10_branch_128 r1.1 o0 x2)
def f_X10_branch_106  (z : St) (o0 : Nat) (x2 : Int32) : Option (St × Int32) :=
  ((f_X4_changeComes z (rf o0 5) (z.1 (rf o0 8) 2) (z.1 (rf o0 8) 6)).bind fun r1 => f_X10_branch_128 r1.1 o0 x2)
def f_X10_branch_66  (z : St) (o0 : Nat) (x1 : Int32) (x2 : Int32) : Option (St × Int32) :=
  ((f_X4_becomeAs z (rf o0 5) (rf o0 4)).bind fun r1 => if x1 = 0 then f_X10_branch_81 r1 o0 x2 else f_X10_branch_106 r1 o0 x2)
def f_X10_branch_39  (z : St) (o0 : Nat) (x1 : Int32) (x2 : Int32) : Option (St × Int32) :=
  if x2 = 2 then f_X10_branch_44 z o0 x1 else f_X10_branch_66 z o0 x1 x2
def f_X10_branch_21  (z : St) (o0 : Nat) (x1 : Int32) (x2 : Int32) : Option (St × Int32) :=
  ((f_X10_findBlock z o0).bind fun r1 => if (r1.1 (rf o0 8) 2) = ((-1)) then f_X10_branch_36 r1 else f_X10_branch_39 r1 o0 x1 x2)
def f_X10_branch_13  (z : St) (o0 : Nat) (x1 : Int32) (x2 : Int32) : Option (St × Int32) :=
  if x2 ≤ 2 then f_X10_branch_21 z o0 x1 x2 else f_X10_branch_18 z
def f_X10_branch_9  (z : St) (o0 : Nat) (x1 : Int32) (x2 : Int32) : Option (St × Int32) :=
  if x2 < 0 then f_X10_branch_18 z else f_X10_branch_13 z o0 x1 x2
def f_X10_branch_4  (z : St) (o0 : Nat) (x1 : Int32) (x2 : Int32) : Option (St × Int32) :=
  if 1 < x1 then f_X10_branch_18 z else f_X10_branch_9 z o0 x1 x2
def f_X10_branch_0  (z : St) (o0 : Nat) (x1 : Int32) (x2 : Int32) : Option (St × Int32) :=
  if x1 < 0 then f_X10_branch_18 z else f_X10_branch_4 z o0 x1 x2
def f_X10_branch (z : St) (o0 : Nat) (x1 : Int32) (x2 : Int32) : Option (St × Int32) := f_X10_branch_0 z o0 x1 x2
def f_X10_bound_16  (z : St)  : Option (St × Int32) :=
  some (z, (-2))
def f_X10_bound_19  (z : St) (o0 : Nat) (x1 : Int32) : Option (St × Int32) :=
  ((f_X4_boundOf z (rf o0 4) x1).bind fun r1 => some (r1.1, r1.2))
def f_X10_bound_5  (z : St) (o0 : Nat) (x1 : Int32) : Option (St × Int32) :=
  ((f_X4_everyone z (rf o0 4)).bind fun r1 => if x1 ≤ r1.2 then f_X10_bound_19 r1.1 o0 x1 else f_X10_bound_16 r1.1)
def f_X10_bound_0  (z : St) (o0 : Nat) (x1 : Int32) : Option (St × Int32) :=
  if x1 < 1 then f_X10_bound_16 z else f_X10_bound_5 z o0 x1
def f_X10_bound (z : St) (o0 : Nat) (x1 : Int32) : Option (St × Int32) := f_X10_bound_0 z o0 x1
def f_X10_order_15  (z : St)  : Option (St × Int32) :=
  some (z, (-12))
def f_X10_order_18  (z : St) (o0 : Nat) (x1 : Int32) : Option (St × Int32) :=
  ((f_X10_knowLeast z o0).bind fun r1 => ((f_X5_layFirst r1 (rf o0 11) (rf o0 4) (rf o0 7)).bind fun r3 => ((f_X3_jobAt r3 (rf o0 7) x1).bind fun r5 => some (r5.1, r5.2))))
def f_X10_order_4  (z : St) (o0 : Nat) (x1 : Int32) : Option (St × Int32) :=
  if x1 < (z.1 (rf o0 0) 1) then f_X10_order_18 z o0 x1 else f_X10_order_15 z
def f_X10_order_0  (z : St) (o0 : Nat) (x1 : Int32) : Option (St × Int32) :=
  if x1 < 0 then f_X10_order_15 z else f_X10_order_4 z o0 x1
def f_X10_order (z : St) (o0 : Nat) (x1 : Int32) : Option (St × Int32) := f_X10_order_0 z o0 x1
def f_X10_chance_45  (z : St)  : Option (St × Int32) :=
  some (z, (-2))
def f_X10_chance_109 (K54 : St → Nat → Int32 → Int32 → Int32 → Int32 → Int32 → Int32 → Int32 → Option (St × Int32)) (z : St) (o0 : Nat) (x1 : Int32) (x2 : Int32) (x3 : Int32) (x4 : Int32) (x5 : Int32) (x6 : Int32) (x7 : Int32) : Option (St × Int32) :=
  K54 z o0 x1 x2 x3 x4 x5 x6 (x7 + 1)
def f_X10_chance_106 (K54 : St → Nat → Int32 → Int32 → Int32 → Int32 → Int32 → Int32 → Int32 → Option (St × Int32)) (z : St) (o0 : Nat) (x1 : Int32) (x2 : Int32) (x3 : Int32) (x4 : Int32) (x5 : Int32) (x6 : Int32) (x7 : Int32) : Option (St × Int32) :=
  f_X10_chance_109 K54 z o0 x1 x2 x3 x4 x5 (x6 + 1) x7
def f_X10_chance_60 (K54 : St → Nat → Int32 → Int32 → Int32 → Int32 → Int32 → Int32 → Int32 → Option (St × Int32)) (z : St) (o0 : Nat) (x1 : Int32) (x2 : Int32) (x3 : Int32) (x4 : Int32) (x5 : Int32) (x6 : Int32) (x7 : Int32) : Option (St × Int32) :=
  ((f_X4_becomeAs z (rf o0 5) (rf o0 4)).bind fun r1 => ((f_X4_comeLater r1 (rf o0 5) (x1 + x7) x3).bind fun r3 => ((f_X3_layGreedy r3 (rf o0 6) (rf o0 5)).bind fun r5 => if x4 < (r5.1 (rf o0 6) 6) then f_X10_chance_109 K54 r5 o0 x1 x2 x3 x4 x5 x6 x7 else f_X10_chance_106 K54 r5 o0 x1 x2 x3 x4 x5 x6 x7)))
def f_X10_chance_152  (z : St) (x7 : Int32) (x8 : Int32) : Option (St × Int32) :=
  if decide (x8 ≠ 0) = true then (some (z, x7 / x8)) else none
def f_X10_chance_158 (K131 : St → Int32 → Int32 → Int32 → Int32 → Option (St × Int32)) (z : St) (x2 : Int32) (x6 : Int32) (x7 : Int32) (x8 : Int32) : Option (St × Int32) :=
  K131 z x2 x6 x7 (x8 + (-1))
def f_X10_chance_145 (K131 : St → Int32 → Int32 → Int32 → Int32 → Option (St × Int32)) (z : St) (x2 : Int32) (x6 : Int32) (x7 : Int32) (x8 : Int32) : Option (St × Int32) :=
  if decide (x8 ≠ 0) = true then (if (x2 - x2 / x8 * x8) = 0 then f_X10_chance_152 z x7 x8 else f_X10_chance_158 K131 z x2 x6 x7 x8) else none
def f_X10_chance_137 (K131 : St → Int32 → Int32 → Int32 → Int32 → Option (St × Int32)) (z : St) (x2 : Int32) (x6 : Int32) (x7 : Int32) (x8 : Int32) : Option (St × Int32) :=
  if decide (x8 ≠ 0) = true then (if (x6 - x6 / x8 * x8) = 0 then f_X10_chance_145 K131 z x2 x6 x7 x8 else f_X10_chance_158 K131 z x2 x6 x7 x8) else none
def f_X10_chance_164  (z : St) (x7 : Int32) : Option (St × Int32) :=
  some (z, x7)
def f_X10_chance_131  : Nat → St → Int32 → Int32 → Int32 → Int32 → Option (St × Int32)
  | 0, _, _, _, _, _ => none
  | n + 1, z, x2, x6, x7, x8 => if x8 ≤ 1 then f_X10_chance_164 z x7 else f_X10_chance_137 (f_X10_chance_131 n) z x2 x6 x7 x8
def f_X10_chance_126  (z : St) (x2 : Int32) (x6 : Int32) (s0 : Int32) : Option (St × Int32) :=
  f_X10_chance_131 FU z x2 x6 s0 x2
def f_X10_chance_120  (z : St) (x2 : Int32) (x6 : Int32) : Option (St × Int32) :=
  f_X10_chance_126 z x2 x6 x6
def f_X10_chance_125  (z : St) (x2 : Int32) (x6 : Int32) : Option (St × Int32) :=
  f_X10_chance_126 z x2 x6 x2
def f_X10_chance_115  (z : St) (x2 : Int32) (x5 : Int32) (x6 : Int32) : Option (St × Int32) :=
  if x5 = 0 then f_X10_chance_120 z x2 x6 else f_X10_chance_125 z x2 x6
def f_X10_chance_54  : Nat → St → Nat → Int32 → Int32 → Int32 → Int32 → Int32 → Int32 → Int32 → Option (St × Int32)
  | 0, _, _, _, _, _, _, _, _, _ => none
  | n + 1, z, o0, x1, x2, x3, x4, x5, x6, x7 => if x2 ≤ x7 then f_X10_chance_115 z x2 x5 x6 else f_X10_chance_60 (f_X10_chance_54 n) z o0 x1 x2 x3 x4 x5 x6 x7
def f_X10_chance_48  (z : St) (o0 : Nat) (x1 : Int32) (x2 : Int32) (x3 : Int32) (x4 : Int32) (x5 : Int32) : Option (St × Int32) :=
  f_X10_chance_54 FU z o0 x1 x2 x3 x4 x5 0 0
def f_X10_chance_39  (z : St) (o0 : Nat) (x1 : Int32) (x2 : Int32) (x3 : Int32) (x4 : Int32) (x5 : Int32) : Option (St × Int32) :=
  if x5 ≤ 1 then f_X10_chance_48 z o0 x1 x2 x3 x4 x5 else f_X10_chance_45 z
def f_X10_chance_34  (z : St) (o0 : Nat) (x1 : Int32) (x2 : Int32) (x3 : Int32) (x4 : Int32) (x5 : Int32) : Option (St × Int32) :=
  if x5 < 0 then f_X10_chance_45 z else f_X10_chance_39 z o0 x1 x2 x3 x4 x5
def f_X10_chance_26  (z : St) (o0 : Nat) (x1 : Int32) (x2 : Int32) (x3 : Int32) (x4 : Int32) (x5 : Int32) : Option (St × Int32) :=
  if 999 < x4 then f_X10_chance_45 z else f_X10_chance_34 z o0 x1 x2 x3 x4 x5
def f_X10_chance_21  (z : St) (o0 : Nat) (x1 : Int32) (x2 : Int32) (x3 : Int32) (x4 : Int32) (x5 : Int32) : Option (St × Int32) :=
  if x4 < 0 then f_X10_chance_45 z else f_X10_chance_26 z o0 x1 x2 x3 x4 x5
def f_X10_chance_15  (z : St) (o0 : Nat) (x1 : Int32) (x2 : Int32) (x3 : Int32) (x4 : Int32) (x5 : Int32) : Option (St × Int32) :=
  if 30 < x3 then f_X10_chance_45 z else f_X10_chance_21 z o0 x1 x2 x3 x4 x5
def f_X10_chance_11  (z : St) (o0 : Nat) (x1 : Int32) (x2 : Int32) (x3 : Int32) (x4 : Int32) (x5 : Int32) : Option (St × Int32) :=
  if x3 < 0 then f_X10_chance_45 z else f_X10_chance_15 z o0 x1 x2 x3 x4 x5
def f_X10_chance_5  (z : St) (o0 : Nat) (x1 : Int32) (x2 : Int32) (x3 : Int32) (x4 : Int32) (x5 : Int32) : Option (St × Int32) :=
  if 8 < x2 then f_X10_chance_45 z else f_X10_chance_11 z o0 x1 x2 x3 x4 x5
def f_X10_chance_0  (z : St) (o0 : Nat) (x1 : Int32) (x2 : Int32) (x3 : Int32) (x4 : Int32) (x5 : Int32) : Option (St × Int32) :=
  if x2 < 1 then f_X10_chance_45 z else f_X10_chance_5 z o0 x1 x2 x3 x4 x5
def f_X10_chance (z : St) (o0 : Nat) (x1 : Int32) (x2 : Int32) (x3 : Int32) (x4 : Int32) (x5 : Int32) : Option (St × Int32) := f_X10_chance_0 z o0 x1 x2 x3 x4 x5
def f_X10_sheet_18  (z : St)  : Option (St × Int32) :=
  some (z, (-2))
def f_X10_sheet_26  (z : St) (o0 : Nat) (x1 : Int32) : Option (St × Int32) :=
  if inb x1 4 = true then (((f_X7_become z (rf (rf o0 13) (Int32.toNatClampNeg x1)) ((-1)) 0).bind fun r2 => some (r2, 1))) else none
def f_X10_sheet_45  (z : St)  : Option (St × Int32) :=
  some (z, (-2))
def f_X10_sheet_52  (z : St)  : Option (St × Int32) :=
  some (z, (-14))
def f_X10_sheet_55  (z : St) (o0 : Nat) (x1 : Int32) (x2 : Int32) (x3 : Int32) : Option (St × Int32) :=
  if inb x1 4 = true then (((f_X7_become z (rf (rf o0 13) (Int32.toNatClampNeg x1)) x2 x3).bind fun r2 => some (r2, 1))) else none
def f_X10_sheet_48  (z : St) (o0 : Nat) (x1 : Int32) (x2 : Int32) (x3 : Int32) : Option (St × Int32) :=
  if 0 ≤ x3 then f_X10_sheet_55 z o0 x1 x2 x3 else f_X10_sheet_52 z
def f_X10_sheet_39  (z : St) (o0 : Nat) (x1 : Int32) (x2 : Int32) (x3 : Int32) : Option (St × Int32) :=
  if x3 ≤ 40 then f_X10_sheet_48 z o0 x1 x2 x3 else f_X10_sheet_45 z
def f_X10_sheet_21  (z : St) (o0 : Nat) (x1 : Int32) (x2 : Int32) (x3 : Int32) : Option (St × Int32) :=
  if x2 = ((-1)) then f_X10_sheet_26 z o0 x1 else f_X10_sheet_39 z o0 x1 x2 x3
def f_X10_sheet_13  (z : St) (o0 : Nat) (x1 : Int32) (x2 : Int32) (x3 : Int32) : Option (St × Int32) :=
  if x2 ≤ 1 then f_X10_sheet_21 z o0 x1 x2 x3 else f_X10_sheet_18 z
def f_X10_sheet_8  (z : St) (o0 : Nat) (x1 : Int32) (x2 : Int32) (x3 : Int32) : Option (St × Int32) :=
  if x2 < ((-1)) then f_X10_sheet_18 z else f_X10_sheet_13 z o0 x1 x2 x3
def f_X10_sheet_0  (z : St) (o0 : Nat) (x1 : Int32) (x2 : Int32) (x3 : Int32) : Option (St × Int32) :=
  ((f_X10_isSheet z o0 x1).bind fun r1 => if r1.2 = 0 then f_X10_sheet_18 r1.1 else f_X10_sheet_8 r1.1 o0 x1 x2 x3)
def f_X10_sheet (z : St) (o0 : Nat) (x1 : Int32) (x2 : Int32) (x3 : Int32) : Option (St × Int32) := f_X10_sheet_0 z o0 x1 x2 x3
def f_X10_put_8  (z : St)  : Option (St × Int32) :=
  some (z, (-2))
def f_X10_put_23  (z : St)  : Option (St × Int32) :=
  some (z, (-11))
def f_X10_put_39  (z : St)  : Option (St × Int32) :=
  some (z, (-12))
def f_X10_put_42  (z : St) (o0 : Nat) (x1 : Int32) (x2 : Int32) (y3 : Int64) : Option (St × Int32) :=
  if inb x1 4 = true then (((f_X7_write z (rf (rf o0 13) (Int32.toNatClampNeg x1)) x2 y3).bind fun r2 => some (r2, 1))) else none
def f_X10_put_26  (z : St) (o0 : Nat) (x1 : Int32) (x2 : Int32) (y3 : Int64) : Option (St × Int32) :=
  if inb x1 4 = true then (((f_X7_holds z (rf (rf o0 13) (Int32.toNatClampNeg x1)) x2).bind fun r2 => if r2.2 = 0 then f_X10_put_39 r2.1 else f_X10_put_42 r2.1 o0 x1 x2 y3)) else none
def f_X10_put_11  (z : St) (o0 : Nat) (x1 : Int32) (x2 : Int32) (y3 : Int64) : Option (St × Int32) :=
  if inb x1 4 = true then (((f_X7_isMissing z (rf (rf o0 13) (Int32.toNatClampNeg x1))).bind fun r2 => if r2.2 = 0 then f_X10_put_26 r2.1 o0 x1 x2 y3 else f_X10_put_23 r2.1)) else none
def f_X10_put_0  (z : St) (o0 : Nat) (x1 : Int32) (x2 : Int32) (y3 : Int64) : Option (St × Int32) :=
  ((f_X10_isSheet z o0 x1).bind fun r1 => if r1.2 = 0 then f_X10_put_8 r1.1 else f_X10_put_11 r1.1 o0 x1 x2 y3)
def f_X10_put (z : St) (o0 : Nat) (x1 : Int32) (x2 : Int32) (y3 : Int64) : Option (St × Int32) := f_X10_put_0 z o0 x1 x2 y3
def f_X10_item_21  (z : St)  : Option (St × Int64) :=
  some (z, (-4611686018427387904))
def f_X10_item_25  (z : St) (o0 : Nat) (x1 : Int32) (x2 : Int32) : Option (St × Int64) :=
  if inb x1 4 = true then (((f_X7_read z (rf (rf o0 13) (Int32.toNatClampNeg x1)) x2).bind fun r2 => some (r2.1, r2.2))) else none
def f_X10_item_8  (z : St) (o0 : Nat) (x1 : Int32) (x2 : Int32) : Option (St × Int64) :=
  if inb x1 4 = true then (((f_X7_holds z (rf (rf o0 13) (Int32.toNatClampNeg x1)) x2).bind fun r2 => if r2.2 = 0 then f_X10_item_21 r2.1 else f_X10_item_25 r2.1 o0 x1 x2)) else none
def f_X10_item_0  (z : St) (o0 : Nat) (x1 : Int32) (x2 : Int32) : Option (St × Int64) :=
  ((f_X10_isSheet z o0 x1).bind fun r1 => if r1.2 = 0 then f_X10_item_21 r1.1 else f_X10_item_8 r1.1 o0 x1 x2)
def f_X10_item (z : St) (o0 : Nat) (x1 : Int32) (x2 : Int32) : Option (St × Int64) := f_X10_item_0 z o0 x1 x2
def f_X10_copy_16  (z : St)  : Option (St × Int32) :=
  some (z, (-2))
def f_X10_copy_51  (z : St)  : Option (St × Int32) :=
  some (z, (-11))
def f_X10_copy_67  (z : St)  : Option (St × Int32) :=
  some (z, (-13))
def f_X10_copy_93  (z : St)  : Option (St × Int32) :=
  some (z, (-12))
def f_X10_copy_96  (z : St) (x2 : Int32) (x4 : Int32) (x5 : Int32) (o6 : Nat) (o7 : Nat) : Option (St × Int32) :=
  ((f_X7_takeOver z o7 o6 x2 x4 x5).bind fun r1 => some (r1, x5))
def f_X10_copy_81  (z : St) (x2 : Int32) (x4 : Int32) (x5 : Int32) (o6 : Nat) (o7 : Nat) : Option (St × Int32) :=
  ((f_X7_holdsRow z o7 x4 x5).bind fun r1 => if r1.2 = 0 then f_X10_copy_93 r1.1 else f_X10_copy_96 r1.1 x2 x4 x5 o6 o7)
def f_X10_copy_70  (z : St) (x2 : Int32) (x4 : Int32) (x5 : Int32) (o6 : Nat) (o7 : Nat) : Option (St × Int32) :=
  ((f_X7_holdsRow z o6 x2 x5).bind fun r1 => if r1.2 = 0 then f_X10_copy_93 r1.1 else f_X10_copy_81 r1.1 x2 x4 x5 o6 o7)
def f_X10_copy_54  (z : St) (x2 : Int32) (x4 : Int32) (x5 : Int32) (o6 : Nat) (o7 : Nat) : Option (St × Int32) :=
  if (z.1 o6 1) = (z.1 o7 1) then f_X10_copy_70 z x2 x4 x5 o6 o7 else f_X10_copy_67 z
def f_X10_copy_43  (z : St) (x2 : Int32) (x4 : Int32) (x5 : Int32) (o6 : Nat) (o7 : Nat) : Option (St × Int32) :=
  ((f_X7_isMissing z o7).bind fun r1 => if r1.2 = 0 then f_X10_copy_54 r1.1 x2 x4 x5 o6 o7 else f_X10_copy_51 r1.1)
def f_X10_copy_19  (z : St) (o0 : Nat) (x1 : Int32) (x2 : Int32) (x3 : Int32) (x4 : Int32) (x5 : Int32) : Option (St × Int32) :=
  if inb x1 4 = true then (if inb x3 4 = true then (((f_X7_isMissing z (rf (rf o0 13) (Int32.toNatClampNeg x1))).bind fun r3 => if r3.2 = 0 then f_X10_copy_43 r3.1 x2 x4 x5 (rf (rf o0 13) (Int32.toNatClampNeg x1)) (rf (rf o0 13) (Int32.toNatClampNeg x3)) else f_X10_copy_51 r3.1)) else none) else none
def f_X10_copy_8  (z : St) (o0 : Nat) (x1 : Int32) (x2 : Int32) (x3 : Int32) (x4 : Int32) (x5 : Int32) : Option (St × Int32) :=
  ((f_X10_isSheet z o0 x3).bind fun r1 => if r1.2 = 0 then f_X10_copy_16 r1.1 else f_X10_copy_19 r1.1 o0 x1 x2 x3 x4 x5)
def f_X10_copy_0  (z : St) (o0 : Nat) (x1 : Int32) (x2 : Int32) (x3 : Int32) (x4 : Int32) (x5 : Int32) : Option (St × Int32) :=
  ((f_X10_isSheet z o0 x1).bind fun r1 => if r1.2 = 0 then f_X10_copy_16 r1.1 else f_X10_copy_8 r1.1 o0 x1 x2 x3 x4 x5)
def f_X10_copy (z : St) (o0 : Nat) (x1 : Int32) (x2 : Int32) (x3 : Int32) (x4 : Int32) (x5 : Int32) : Option (St × Int32) := f_X10_copy_0 z o0 x1 x2 x3 x4 x5
def f_X11_in_15  (z : St) (s0 : Int32) : Option (St × Int32) :=
  if zb s0 = true then some (z, s0) else none
def f_X11_in_10  (z : St)  : Option (St × Int32) :=
  f_X11_in_15 z 1
def f_X11_in_14  (z : St)  : Option (St × Int32) :=
  f_X11_in_15 z 0
def f_X11_in_5  (z : St) (x0 : Int32) (x2 : Int32) : Option (St × Int32) :=
  if x2 < x0 then f_X11_in_14 z else f_X11_in_10 z
def f_X11_in_0  (z : St) (x0 : Int32) (x1 : Int32) (x2 : Int32) : Option (St × Int32) :=
  if x0 < x1 then f_X11_in_14 z else f_X11_in_5 z x0 x2
def f_X11_in (z : St) (x0 : Int32) (x1 : Int32) (x2 : Int32) : Option (St × Int32) := f_X11_in_0 z x0 x1 x2
def f_X11_isJob_0  (z : St) (o0 : Nat) (x1 : Int32) : Option (St × Int32) :=
  ((f_X11_in z x1 0 ((z.1 o0 5) - 1)).bind fun r1 => if zb r1.2 = true then some (r1.1, r1.2) else none)
def f_X11_isJob (z : St) (o0 : Nat) (x1 : Int32) : Option (St × Int32) := f_X11_isJob_0 z o0 x1
def f_X11_mayBe_35  (z : St) (s0 : Int32) : Option (St × Int32) :=
  if zb s0 = true then some (z, s0) else none
def f_X11_mayBe_4  (z : St) (x1 : Int32) : Option (St × Int32) :=
  ((f_X11_in z x1 0 5).bind fun r1 => f_X11_mayBe_35 r1.1 r1.2)
def f_X11_mayBe_18  (z : St) (x1 : Int32) : Option (St × Int32) :=
  ((f_X11_in z x1 1 20).bind fun r1 => f_X11_mayBe_35 r1.1 r1.2)
def f_X11_mayBe_28  (z : St) (x1 : Int32) : Option (St × Int32) :=
  ((f_X11_in z x1 0 60).bind fun r1 => f_X11_mayBe_35 r1.1 r1.2)
def f_X11_mayBe_13  (z : St) (x0 : Int32) (x1 : Int32) : Option (St × Int32) :=
  if x0 = 2 then f_X11_mayBe_18 z x1 else f_X11_mayBe_28 z x1
def f_X11_mayBe_0  (z : St) (x0 : Int32) (x1 : Int32) : Option (St × Int32) :=
  if x0 = 0 then f_X11_mayBe_4 z x1 else f_X11_mayBe_13 z x0 x1
def f_X11_mayBe (z : St) (x0 : Int32) (x1 : Int32) : Option (St × Int32) := f_X11_mayBe_0 z x0 x1
def f_X11_over_36  (z : St) (s0 : Int32) : Option (St × Int32) :=
  some (z, s0)
def f_X11_over_4  (z : St)  : Option (St × Int32) :=
  f_X11_over_36 z ((-1))
def f_X11_over_13  (z : St)  : Option (St × Int32) :=
  f_X11_over_36 z 1
def f_X11_over_22  (z : St)  : Option (St × Int32) :=
  f_X11_over_36 z 2
def f_X11_over_31  (z : St)  : Option (St × Int32) :=
  f_X11_over_36 z 4
def f_X11_over_35  (z : St)  : Option (St × Int32) :=
  f_X11_over_36 z 0
def f_X11_over_26  (z : St) (x0 : Int32) : Option (St × Int32) :=
  if x0 = 5 then f_X11_over_31 z else f_X11_over_35 z
def f_X11_over_17  (z : St) (x0 : Int32) : Option (St × Int32) :=
  if x0 = 4 then f_X11_over_22 z else f_X11_over_26 z x0
def f_X11_over_8  (z : St) (x0 : Int32) : Option (St × Int32) :=
  if x0 = 3 then f_X11_over_13 z else f_X11_over_17 z x0
def f_X11_over_0  (z : St) (x0 : Int32) : Option (St × Int32) :=
  if x0 = 0 then f_X11_over_4 z else f_X11_over_8 z x0
def f_X11_over (z : St) (x0 : Int32) : Option (St × Int32) := f_X11_over_0 z x0
def f_X11_isUnder_12 (K2 : St → Int32 → Int32 → Option (St × Int32)) (z : St) (x1 : Int32) (x2 : Int32) : Option (St × Int32) :=
  ((f_X11_over z x2).bind fun r1 => K2 r1.1 x1 r1.2)
def f_X11_isUnder_30  (z : St) (s0 : Int32) : Option (St × Int32) :=
  if zb s0 = true then some (z, s0) else none
def f_X11_isUnder_25  (z : St)  : Option (St × Int32) :=
  f_X11_isUnder_30 z 1
def f_X11_isUnder_29  (z : St)  : Option (St × Int32) :=
  f_X11_isUnder_30 z 0
def f_X11_isUnder_20  (z : St) (x1 : Int32) (x2 : Int32) : Option (St × Int32) :=
  if x2 = x1 then f_X11_isUnder_25 z else f_X11_isUnder_29 z
def f_X11_isUnder_7 (K2 : St → Int32 → Int32 → Option (St × Int32)) (z : St) (x1 : Int32) (x2 : Int32) : Option (St × Int32) :=
  if x2 = x1 then f_X11_isUnder_20 z x1 x2 else f_X11_isUnder_12 K2 z x1 x2
def f_X11_isUnder_2  : Nat → St → Int32 → Int32 → Option (St × Int32)
  | 0, _, _, _ => none
  | n + 1, z, x1, x2 => if x2 = ((-1)) then f_X11_isUnder_20 z x1 x2 else f_X11_isUnder_7 (f_X11_isUnder_2 n) z x1 x2
def f_X11_isUnder_0  (z : St) (x0 : Int32) (x1 : Int32) : Option (St × Int32) :=
  f_X11_isUnder_2 FU z x1 x0
def f_X11_isUnder (z : St) (x0 : Int32) (x1 : Int32) : Option (St × Int32) := f_X11_isUnder_0 z x0 x1
def f_X11_comesOf_10  (z : St) (o0 : Nat) (x1 : Int32) : Option (St × Int32) :=
  if inb x1 8 = true then (some (z, (z.1 (rf o0 2) (Int32.toNatClampNeg x1)) / 2)) else none
def f_X11_comesOf_49  (z : St) (s0 : Int32) : Option (St × Int32) :=
  some (z, s0)
def f_X11_comesOf_32  (z : St) (o0 : Nat) (x1 : Int32) : Option (St × Int32) :=
  if inb x1 8 = true then (f_X11_comesOf_49 z ((z.1 (rf o0 2) (Int32.toNatClampNeg x1)) + 3)) else none
def f_X11_comesOf_43  (z : St) (o0 : Nat) (x1 : Int32) : Option (St × Int32) :=
  if inb x1 8 = true then (f_X11_comesOf_49 z (z.1 (rf o0 2) (Int32.toNatClampNeg x1))) else none
def f_X11_comesOf_19  (z : St) (o0 : Nat) (x1 : Int32) : Option (St × Int32) :=
  if inb x1 8 = true then (((f_X11_isUnder z (z.1 (rf o0 1) (Int32.toNatClampNeg x1)) 4).bind fun r2 => if r2.2 = 0 then f_X11_comesOf_43 r2.1 o0 x1 else f_X11_comesOf_32 r2.1 o0 x1)) else none
def f_X11_comesOf_0  (z : St) (o0 : Nat) (x1 : Int32) : Option (St × Int32) :=
  if inb x1 8 = true then (if (z.1 (rf o0 1) (Int32.toNatClampNeg x1)) = 3 then f_X11_comesOf_10 z o0 x1 else f_X11_comesOf_19 z o0 x1) else none
def f_X11_comesOf (z : St) (o0 : Nat) (x1 : Int32) : Option (St × Int32) := f_X11_comesOf_0 z o0 x1
def f_X11_takesOf_59  (z : St) (s0 : Int32) : Option (St × Int32) :=
  some (z, s0)
def f_X11_takesOf_48  (z : St) (x2 : Int32) : Option (St × Int32) :=
  f_X11_takesOf_59 z (imax 1 (x2 - 1))
def f_X11_takesOf_58  (z : St) (x2 : Int32) : Option (St × Int32) :=
  f_X11_takesOf_59 z x2
def f_X11_takesOf_37  (z : St) (o0 : Nat) (x1 : Int32) (s0 : Int32) : Option (St × Int32) :=
  if inb x1 8 = true then (if (z.1 (rf o0 1) (Int32.toNatClampNeg x1)) = 5 then f_X11_takesOf_48 z s0 else f_X11_takesOf_58 z s0) else none
def f_X11_takesOf_13  (z : St) (o0 : Nat) (x1 : Int32) : Option (St × Int32) :=
  if inb x1 8 = true then (if inb x1 8 = true then (f_X11_takesOf_37 z o0 x1 ((z.1 (rf o0 3) (Int32.toNatClampNeg x1)) + ((z.1 (rf o0 3) (Int32.toNatClampNeg x1)) / 4))) else none) else none
def f_X11_takesOf_31  (z : St) (o0 : Nat) (x1 : Int32) : Option (St × Int32) :=
  if inb x1 8 = true then (f_X11_takesOf_37 z o0 x1 (z.1 (rf o0 3) (Int32.toNatClampNeg x1))) else none
def f_X11_takesOf_0  (z : St) (o0 : Nat) (x1 : Int32) : Option (St × Int32) :=
  if inb x1 8 = true then (((f_X11_isUnder z (z.1 (rf o0 1) (Int32.toNatClampNeg x1)) 2).bind fun r2 => if r2.2 = 0 then f_X11_takesOf_31 r2.1 o0 x1 else f_X11_takesOf_13 r2.1 o0 x1)) else none
def f_X11_takesOf (z : St) (o0 : Nat) (x1 : Int32) : Option (St × Int32) := f_X11_takesOf_0 z o0 x1
def f_X11_coolsOf_51  (z : St) (s0 : Int32) : Option (St × Int32) :=
  some (z, s0)
def f_X11_coolsOf_44  (z : St) (x2 : Int32) : Option (St × Int32) :=
  f_X11_coolsOf_51 z (2 * x2)
def f_X11_coolsOf_50  (z : St) (x2 : Int32) : Option (St × Int32) :=
  f_X11_coolsOf_51 z x2
def f_X11_coolsOf_30  (z : St) (o0 : Nat) (x1 : Int32) (s0 : Int32) : Option (St × Int32) :=
  if inb x1 8 = true then (((f_X11_isUnder z (z.1 (rf o0 1) (Int32.toNatClampNeg x1)) 4).bind fun r2 => if r2.2 = 0 then f_X11_coolsOf_50 r2.1 s0 else f_X11_coolsOf_44 r2.1 s0)) else none
def f_X11_coolsOf_13  (z : St) (o0 : Nat) (x1 : Int32) : Option (St × Int32) :=
  if inb x1 8 = true then (f_X11_coolsOf_30 z o0 x1 ((z.1 (rf o0 4) (Int32.toNatClampNeg x1)) + 5)) else none
def f_X11_coolsOf_24  (z : St) (o0 : Nat) (x1 : Int32) : Option (St × Int32) :=
  if inb x1 8 = true then (f_X11_coolsOf_30 z o0 x1 (z.1 (rf o0 4) (Int32.toNatClampNeg x1))) else none
def f_X11_coolsOf_0  (z : St) (o0 : Nat) (x1 : Int32) : Option (St × Int32) :=
  if inb x1 8 = true then (((f_X11_isUnder z (z.1 (rf o0 1) (Int32.toNatClampNeg x1)) 1).bind fun r2 => if r2.2 = 0 then f_X11_coolsOf_24 r2.1 o0 x1 else f_X11_coolsOf_13 r2.1 o0 x1)) else none
def f_X11_coolsOf (z : St) (o0 : Nat) (x1 : Int32) : Option (St × Int32) := f_X11_coolsOf_0 z o0 x1
def f_X11_adds_0  (z : St) (o0 : Nat) (x1 : Int32) (x2 : Int32) (x3 : Int32) (x4 : Int32) : Option (St) :=
  if inb (z.1 o0 5) 8 = true then (if inb ((zI z (rf o0 1) (Int32.toNatClampNeg (z.1 o0 5)) x1).1 o0 5) 8 = true then (if inb ((zI (zI z (rf o0 1) (Int32.toNatClampNeg (z.1 o0 5)) x1) (rf o0 2) (Int32.toNatClampNeg ((zI z (rf o0 1) (Int32.toNatClampNeg (z.1 o0 5)) x1).1 o0 5)) x2).1 o0 5) 8 = true then (if inb ((zI (zI (zI z (rf o0 1) (Int32.toNatClampNeg (z.1 o0 5)) x1) (rf o0 2) (Int32.toNatClampNeg ((zI z (rf o0 1) (Int32.toNatClampNeg (z.1 o0 5)) x1).1 o0 5)) x2) (rf o0 3) (Int32.toNatClampNeg ((zI (zI z (rf o0 1) (Int32.toNatClampNeg (z.1 o0 5)) x1) (rf o0 2) (Int32.toNatClampNeg ((zI z (rf o0 1) (Int32.toNatClampNeg (z.1 o0 5)) x1).1 o0 5)) x2).1 o0 5)) x3).1 o0 5) 8 = true then (some (zI (zI (zI (zI (zI z (rf o0 1) (Int32.toNatClampNeg (z.1 o0 5)) x1) (rf o0 2) (Int32.toNatClampNeg ((zI z (rf o0 1) (Int32.toNatClampNeg (z.1 o0 5)) x1).1 o0 5)) x2) (rf o0 3) (Int32.toNatClampNeg ((zI (zI z (rf o0 1) (Int32.toNatClampNeg (z.1 o0 5)) x1) (rf o0 2) (Int32.toNatClampNeg ((zI z (rf o0 1) (Int32.toNatClampNeg (z.1 o0 5)) x1).1 o0 5)) x2).1 o0 5)) x3) (rf o0 4) (Int32.toNatClampNeg ((zI (zI (zI z (rf o0 1) (Int32.toNatClampNeg (z.1 o0 5)) x1) (rf o0 2) (Int32.toNatClampNeg ((zI z (rf o0 1) (Int32.toNatClampNeg (z.1 o0 5)) x1).1 o0 5)) x2) (rf o0 3) (Int32.toNatClampNeg ((zI (zI z (rf o0 1) (Int32.toNatClampNeg (z.1 o0 5)) x1) (rf o0 2) (Int32.toNatClampNeg ((zI z (rf o0 1) (Int32.toNatClampNeg (z.1 o0 5)) x1).1 o0 5)) x2).1 o0 5)) x3).1 o0 5)) x4) o0 5 (((zI (zI (zI (zI z (rf o0 1) (Int32.toNatClampNeg (z.1 o0 5)) x1) (rf o0 2) (Int32.toNatClampNeg ((zI z (rf o0 1) (Int32.toNatClampNeg (z.1 o0 5)) x1).1 o0 5)) x2) (rf o0 3) (Int32.toNatClampNeg ((zI (zI z (rf o0 1) (Int32.toNatClampNeg (z.1 o0 5)) x1) (rf o0 2) (Int32.toNatClampNeg ((zI z (rf o0 1) (Int32.toNatClampNeg (z.1 o0 5)) x1).1 o0 5)) x2).1 o0 5)) x3) (rf o0 4) (Int32.toNatClampNeg ((zI (zI (zI z (rf o0 1) (Int32.toNatClampNeg (z.1 o0 5)) x1) (rf o0 2) (Int32.toNatClampNeg ((zI z (rf o0 1) (Int32.toNatClampNeg (z.1 o0 5)) x1).1 o0 5)) x2) (rf o0 3) (Int32.toNatClampNeg ((zI (zI z (rf o0 1) (Int32.toNatClampNeg (z.1 o0 5)) x1) (rf o0 2) (Int32.toNatClampNeg ((zI z (rf o0 1) (Int32.toNatClampNeg (z.1 o0 5)) x1).1 o0 5)) x2).1 o0 5)) x3).1 o0 5)) x4).1 o0 5) + 1))) else none) else none) else none) else none
def f_X11_adds (z : St) (o0 : Nat) (x1 : Int32) (x2 : Int32) (x3 : Int32) (x4 : Int32) : Option (St) := f_X11_adds_0 z o0 x1 x2 x3 x4
def f_X11_anew_38 (K32 : St → Nat → Int32 → Option (St)) (z : St) (o0 : Nat) (x1 : Int32) : Option (St) :=
  if inb x1 8 = true then (K32 (zI z (rf o0 51) (Int32.toNatClampNeg x1) ((-1))) o0 (x1 + 1)) else none
def f_X11_anew_51  (z : St)  : Option (St) :=
  some z
def f_X11_anew_32  : Nat → St → Nat → Int32 → Option (St)
  | 0, _, _, _ => none
  | n + 1, z, o0, x1 => if 8 ≤ x1 then f_X11_anew_51 z else f_X11_anew_38 (f_X11_anew_32 n) z o0 x1
def f_X11_anew_0  (z : St) (o0 : Nat) : Option (St) :=
  f_X11_anew_32 FU (zI (zI (zI (zI (zI (zI z o0 45 0) o0 46 ((-1))) o0 47 0) o0 48 0) o0 49 0) o0 50 0) o0 0
def f_X11_anew (z : St) (o0 : Nat) : Option (St) := f_X11_anew_0 z o0
def f_X11_job_33  (z : St)  : Option (St × Int32) :=
  some (z, (-2))
def f_X11_job_45  (z : St)  : Option (St × Int32) :=
  some (z, (-4))
def f_X11_job_48  (z : St) (o0 : Nat) (x1 : Int32) (x2 : Int32) (x3 : Int32) (x4 : Int32) : Option (St × Int32) :=
  ((f_X11_adds z o0 x1 x2 x3 x4).bind fun r1 => ((f_X11_anew r1 o0).bind fun r3 => some (r3, (r3.1 o0 5) - 1)))
def f_X11_job_36  (z : St) (o0 : Nat) (x1 : Int32) (x2 : Int32) (x3 : Int32) (x4 : Int32) : Option (St × Int32) :=
  if (z.1 o0 5) = 8 then f_X11_job_45 z else f_X11_job_48 z o0 x1 x2 x3 x4
def f_X11_job_24  (z : St) (o0 : Nat) (x1 : Int32) (x2 : Int32) (x3 : Int32) (x4 : Int32) : Option (St × Int32) :=
  ((f_X11_mayBe z 3 x4).bind fun r1 => if r1.2 = 0 then f_X11_job_33 r1.1 else f_X11_job_36 r1.1 o0 x1 x2 x3 x4)
def f_X11_job_16  (z : St) (o0 : Nat) (x1 : Int32) (x2 : Int32) (x3 : Int32) (x4 : Int32) : Option (St × Int32) :=
  ((f_X11_mayBe z 2 x3).bind fun r1 => if r1.2 = 0 then f_X11_job_33 r1.1 else f_X11_job_24 r1.1 o0 x1 x2 x3 x4)
def f_X11_job_8  (z : St) (o0 : Nat) (x1 : Int32) (x2 : Int32) (x3 : Int32) (x4 : Int32) : Option (St × Int32) :=
  ((f_X11_mayBe z 1 x2).bind fun r1 => if r1.2 = 0 then f_X11_job_33 r1.1 else f_X11_job_16 r1.1 o0 x1 x2 x3 x4)
def f_X11_job_0  (z : St) (o0 : Nat) (x1 : Int32) (x2 : Int32) (x3 : Int32) (x4 : Int32) : Option (St × Int32) :=
  ((f_X11_mayBe z 0 x1).bind fun r1 => if r1.2 = 0 then f_X11_job_33 r1.1 else f_X11_job_8 r1.1 o0 x1 x2 x3 x4)
def f_X11_job (z : St) (o0 : Nat) (x1 : Int32) (x2 : Int32) (x3 : Int32) (x4 : Int32) : Option (St × Int32) := f_X11_job_0 z o0 x1 x2 x3 x4
def f_X11_its_40  (z : St) (o0 : Nat) (x1 : Int32) : Option (St × Int32) :=
  if inb x1 8 = true then (some (z, z.1 (rf o0 1) (Int32.toNatClampNeg x1))) else none
def f_X11_its_47  (z : St) (o0 : Nat) (x1 : Int32) : Option (St × Int32) :=
  if inb x1 8 = true then (some (z, z.1 (rf o0 2) (Int32.toNatClampNeg x1))) else none
def f_X11_its_54  (z : St) (o0 : Nat) (x1 : Int32) : Option (St × Int32) :=
  if inb x1 8 = true then (some (z, z.1 (rf o0 3) (Int32.toNatClampNeg x1))) else none
def f_X11_its_61  (z : St) (o0 : Nat) (x1 : Int32) : Option (St × Int32) :=
  if inb x1 8 = true then (some (z, z.1 (rf o0 4) (Int32.toNatClampNeg x1))) else none
def f_X11_its_68  (z : St) (o0 : Nat) (x1 : Int32) : Option (St × Int32) :=
  ((f_X11_comesOf z o0 x1).bind fun r1 => some (r1.1, r1.2))
def f_X11_its_74  (z : St) (o0 : Nat) (x1 : Int32) : Option (St × Int32) :=
  ((f_X11_takesOf z o0 x1).bind fun r1 => some (r1.1, r1.2))
def f_X11_its_80  (z : St) (o0 : Nat) (x1 : Int32) : Option (St × Int32) :=
  ((f_X11_coolsOf z o0 x1).bind fun r1 => some (r1.1, r1.2))
def f_X11_its_0  (z : St) (o0 : Nat) (x1 : Int32) (x2 : Int32) : Option (St × Int32) :=
  if x2 = 0 then f_X11_its_40 z o0 x1 else if x2 = 1 then f_X11_its_47 z o0 x1 else if x2 = 2 then f_X11_its_54 z o0 x1 else if x2 = 3 then f_X11_its_61 z o0 x1 else if x2 = 4 then f_X11_its_68 z o0 x1 else if x2 = 5 then f_X11_its_74 z o0 x1 else f_X11_its_80 z o0 x1
def f_X11_its (z : St) (o0 : Nat) (x1 : Int32) (x2 : Int32) : Option (St × Int32) := f_X11_its_0 z o0 x1 x2
def f_X11_set_25  (z : St)  : Option (St × Int32) :=
  some (z, (-2))
def f_X11_set_87  (z : St) (o0 : Nat) (x4 : Int32) : Option (St × Int32) :=
  ((f_X11_anew z o0).bind fun r1 => some (r1, x4))
def f_X11_set_40  (z : St) (o0 : Nat) (x1 : Int32) (x3 : Int32) (x4 : Int32) : Option (St × Int32) :=
  if inb x1 8 = true then (f_X11_set_87 (zI z (rf o0 1) (Int32.toNatClampNeg x1) x3) o0 x4) else none
def f_X11_set_55  (z : St) (o0 : Nat) (x1 : Int32) (x3 : Int32) (x4 : Int32) : Option (St × Int32) :=
  if inb x1 8 = true then (f_X11_set_87 (zI z (rf o0 2) (Int32.toNatClampNeg x1) x3) o0 x4) else none
def f_X11_set_70  (z : St) (o0 : Nat) (x1 : Int32) (x3 : Int32) (x4 : Int32) : Option (St × Int32) :=
  if inb x1 8 = true then (f_X11_set_87 (zI z (rf o0 3) (Int32.toNatClampNeg x1) x3) o0 x4) else none
def f_X11_set_80  (z : St) (o0 : Nat) (x1 : Int32) (x3 : Int32) (x4 : Int32) : Option (St × Int32) :=
  if inb x1 8 = true then (f_X11_set_87 (zI z (rf o0 4) (Int32.toNatClampNeg x1) x3) o0 x4) else none
def f_X11_set_65  (z : St) (o0 : Nat) (x1 : Int32) (x2 : Int32) (x3 : Int32) (x4 : Int32) : Option (St × Int32) :=
  if x2 = 2 then f_X11_set_70 z o0 x1 x3 x4 else f_X11_set_80 z o0 x1 x3 x4
def f_X11_set_50  (z : St) (o0 : Nat) (x1 : Int32) (x2 : Int32) (x3 : Int32) (x4 : Int32) : Option (St × Int32) :=
  if x2 = 1 then f_X11_set_55 z o0 x1 x3 x4 else f_X11_set_65 z o0 x1 x2 x3 x4
def f_X11_set_28  (z : St) (o0 : Nat) (x1 : Int32) (x2 : Int32) (x3 : Int32) : Option (St × Int32) :=
  ((f_X11_its z o0 x1 x2).bind fun r1 => if x2 = 0 then f_X11_set_40 r1.1 o0 x1 x3 r1.2 else f_X11_set_50 r1.1 o0 x1 x2 x3 r1.2)
def f_X11_set_17  (z : St) (o0 : Nat) (x1 : Int32) (x2 : Int32) (x3 : Int32) : Option (St × Int32) :=
  ((f_X11_mayBe z x2 x3).bind fun r1 => if r1.2 = 0 then f_X11_set_25 r1.1 else f_X11_set_28 r1.1 o0 x1 x2 x3)
def f_X11_set_8  (z : St) (o0 : Nat) (x1 : Int32) (x2 : Int32) (x3 : Int32) : Option (St × Int32) :=
  ((f_X11_in z x2 0 3).bind fun r1 => if r1.2 = 0 then f_X11_set_25 r1.1 else f_X11_set_17 r1.1 o0 x1 x2 x3)
def f_X11_set_0  (z : St) (o0 : Nat) (x1 : Int32) (x2 : Int32) (x3 : Int32) : Option (St × Int32) :=
  ((f_X11_isJob z o0 x1).bind fun r1 => if r1.2 = 0 then f_X11_set_25 r1.1 else f_X11_set_8 r1.1 o0 x1 x2 x3)
def f_X11_set (z : St) (o0 : Nat) (x1 : Int32) (x2 : Int32) (x3 : Int32) : Option (St × Int32) := f_X11_set_0 z o0 x1 x2 x3
def f_X11_told_29  (z : St) (s0 : Int32) : Option (St × Int32) :=
  some (z, s0)
def f_X11_told_18  (z : St) (o0 : Nat) (x1 : Int32) (x2 : Int32) : Option (St × Int32) :=
  ((f_X11_its z o0 x1 x2).bind fun r1 => f_X11_told_29 r1.1 r1.2)
def f_X11_told_27  (z : St)  : Option (St × Int32) :=
  f_X11_told_29 z ((-2))
def f_X11_told_8  (z : St) (o0 : Nat) (x1 : Int32) (x2 : Int32) : Option (St × Int32) :=
  ((f_X11_in z x2 0 6).bind fun r1 => if r1.2 = 0 then f_X11_told_27 r1.1 else f_X11_told_18 r1.1 o0 x1 x2)
def f_X11_told_0  (z : St) (o0 : Nat) (x1 : Int32) (x2 : Int32) : Option (St × Int32) :=
  ((f_X11_isJob z o0 x1).bind fun r1 => if r1.2 = 0 then f_X11_told_27 r1.1 else f_X11_told_8 r1.1 o0 x1 x2)
def f_X11_told (z : St) (o0 : Nat) (x1 : Int32) (x2 : Int32) : Option (St × Int32) := f_X11_told_0 z o0 x1 x2
def f_X11_drop_8  (z : St)  : Option (St × Int32) :=
  some (z, (-2))
def f_X11_drop_23 (K15 : St → Nat → Int32 → Option (St × Int32)) (z : St) (o0 : Nat) (x2 : Int32) : Option (St × Int32) :=
  if inb x2 8 = true then (if inb (x2 - 1) 8 = true then (if inb x2 8 = true then (if inb (x2 - 1) 8 = true then (if inb x2 8 = true then (if inb (x2 - 1) 8 = true then (if inb x2 8 = true then (if inb (x2 - 1) 8 = true then (K15 (zI (zI (zI (zI z (rf o0 1) (Int32.toNatClampNeg (x2 - 1)) (z.1 (rf o0 1) (Int32.toNatClampNeg x2))) (rf o0 2) (Int32.toNatClampNeg (x2 - 1)) ((zI z (rf o0 1) (Int32.toNatClampNeg (x2 - 1)) (z.1 (rf o0 1) (Int32.toNatClampNeg x2))).1 (rf o0 2) (Int32.toNatClampNeg x2))) (rf o0 3) (Int32.toNatClampNeg (x2 - 1)) ((zI (zI z (rf o0 1) (Int32.toNatClampNeg (x2 - 1)) (z.1 (rf o0 1) (Int32.toNatClampNeg x2))) (rf o0 2) (Int32.toNatClampNeg (x2 - 1)) ((zI z (rf o0 1) (Int32.toNatClampNeg (x2 - 1)) (z.1 (rf o0 1) (Int32.toNatClampNeg x2))).1 (rf o0 2) (Int32.toNatClampNeg x2))).1 (rf o0 3) (Int32.toNatClampNeg x2))) (rf o0 4) (Int32.toNatClampNeg (x2 - 1)) ((zI (zI (zI z (rf o0 1) (Int32.toNatClampNeg (x2 - 1)) (z.1 (rf o0 1) (Int32.toNatClampNeg x2))) (rf o0 2) (Int32.toNatClampNeg (x2 - 1)) ((zI z (rf o0 1) (Int32.toNatClampNeg (x2 - 1)) (z.1 (rf o0 1) (Int32.toNatClampNeg x2))).1 (rf o0 2) (Int32.toNatClampNeg x2))) (rf o0 3) (Int32.toNatClampNeg (x2 - 1)) ((zI (zI z (rf o0 1) (Int32.toNatClampNeg (x2 - 1)) (z.1 (rf o0 1) (Int32.toNatClampNeg x2))) (rf o0 2) (Int32.toNatClampNeg (x2 - 1)) ((zI z (rf o0 1) (Int32.toNatClampNeg (x2 - 1)) (z.1 (rf o0 1) (Int32.toNatClampNeg x2))).1 (rf o0 2) (Int32.toNatClampNeg x2))).1 (rf o0 3) (Int32.toNatClampNeg x2))).1 (rf o0 4) (Int32.toNatClampNeg x2))) o0 (x2 + 1)) else none) else none) else none) else none) else none) else none) else none) else none
def f_X11_drop_85  (z : St) (o0 : Nat) : Option (St × Int32) :=
  ((f_X11_anew (zI z o0 5 ((z.1 o0 5) - 1)) o0).bind fun r1 => some (r1, r1.1 o0 5))
def f_X11_drop_15  : Nat → St → Nat → Int32 → Option (St × Int32)
  | 0, _, _, _ => none
  | n + 1, z, o0, x2 => if (z.1 o0 5) ≤ x2 then f_X11_drop_85 z o0 else f_X11_drop_23 (f_X11_drop_15 n) z o0 x2
def f_X11_drop_11  (z : St) (o0 : Nat) (x1 : Int32) : Option (St × Int32) :=
  f_X11_drop_15 FU z o0 (x1 + 1)
def f_X11_drop_0  (z : St) (o0 : Nat) (x1 : Int32) : Option (St × Int32) :=
  ((f_X11_isJob z o0 x1).bind fun r1 => if r1.2 = 0 then f_X11_drop_8 r1.1 else f_X11_drop_11 r1.1 o0 x1)
def f_X11_drop (z : St) (o0 : Nat) (x1 : Int32) : Option (St × Int32) := f_X11_drop_0 z o0 x1
def f_X11_taken_17  (z : St)  : Option (St × Int32) :=
  some (z, (-2))
def f_X11_taken_49  (z : St) (s0 : Int32) : Option (St × Int32) :=
  some (z, s0)
def f_X11_taken_33  (z : St) (o0 : Nat) (x1 : Int32) : Option (St × Int32) :=
  ((f_X11_takesOf z o0 x1).bind fun r1 => ((f_X11_coolsOf r1.1 o0 x1).bind fun r3 => f_X11_taken_49 r3.1 (r1.2 + r3.2)))
def f_X11_taken_47  (z : St)  : Option (St × Int32) :=
  f_X11_taken_49 z ((-13))
def f_X11_taken_20  (z : St) (o0 : Nat) (x1 : Int32) (x2 : Int32) : Option (St × Int32) :=
  if inb x1 8 = true then (((f_X11_isUnder z (z.1 (rf o0 1) (Int32.toNatClampNeg x1)) x2).bind fun r2 => if r2.2 = 0 then f_X11_taken_47 r2.1 else f_X11_taken_33 r2.1 o0 x1)) else none
def f_X11_taken_8  (z : St) (o0 : Nat) (x1 : Int32) (x2 : Int32) : Option (St × Int32) :=
  ((f_X11_in z x2 0 5).bind fun r1 => if r1.2 = 0 then f_X11_taken_17 r1.1 else f_X11_taken_20 r1.1 o0 x1 x2)
def f_X11_taken_0  (z : St) (o0 : Nat) (x1 : Int32) (x2 : Int32) : Option (St × Int32) :=
  ((f_X11_isJob z o0 x1).bind fun r1 => if r1.2 = 0 then f_X11_taken_17 r1.1 else f_X11_taken_8 r1.1 o0 x1 x2)
def f_X11_taken (z : St) (o0 : Nat) (x1 : Int32) (x2 : Int32) : Option (St × Int32) := f_X11_taken_0 z o0 x1 x2
def f_X11_feed_67  (z : St)  : Option (St × Int32) :=
  some (z, (-2))
def f_X11_feed_81  (z : St)  : Option (St × Int32) :=
  some (z, (-4))
def f_X11_feed_144 (K87 : St → Nat → Int32 → Int32 → Int32 → Int32 → Int32 → Int32 → Int32 → Option (St × Int32)) (z : St) (o0 : Nat) (x1 : Int32) (x2 : Int32) (x3 : Int32) (x4 : Int32) (x5 : Int32) (x6 : Int32) (x7 : Int32) (s0 : Nat) (s1 : Int32) (s2 : Int32) : Option (St × Int32) :=
  if inb s1 60 = true then (K87 (zI (zI z s0 (Int32.toNatClampNeg s1) s2) o0 7 (((zI z s0 (Int32.toNatClampNeg s1) s2).1 o0 7) + 1)) o0 x1 x2 x3 x4 x5 x6 (x7 + 1)) else none
def f_X11_feed_106 (K87 : St → Nat → Int32 → Int32 → Int32 → Int32 → Int32 → Int32 → Int32 → Option (St × Int32)) (z : St) (o0 : Nat) (x1 : Int32) (x2 : Int32) (x3 : Int32) (x4 : Int32) (x5 : Int32) (x6 : Int32) (x7 : Int32) (s0 : Nat) (s1 : Int32) : Option (St × Int32) :=
  f_X11_feed_144 K87 z o0 x1 x2 x3 x4 x5 x6 x7 s0 s1 x2
def f_X11_feed_116 (K87 : St → Nat → Int32 → Int32 → Int32 → Int32 → Int32 → Int32 → Int32 → Option (St × Int32)) (z : St) (o0 : Nat) (x1 : Int32) (x2 : Int32) (x3 : Int32) (x4 : Int32) (x5 : Int32) (x6 : Int32) (x7 : Int32) (s0 : Nat) (s1 : Int32) : Option (St × Int32) :=
  f_X11_feed_144 K87 z o0 x1 x2 x3 x4 x5 x6 x7 s0 s1 x3
def f_X11_feed_126 (K87 : St → Nat → Int32 → Int32 → Int32 → Int32 → Int32 → Int32 → Int32 → Option (St × Int32)) (z : St) (o0 : Nat) (x1 : Int32) (x2 : Int32) (x3 : Int32) (x4 : Int32) (x5 : Int32) (x6 : Int32) (x7 : Int32) (s0 : Nat) (s1 : Int32) : Option (St × Int32) :=
  f_X11_feed_144 K87 z o0 x1 x2 x3 x4 x5 x6 x7 s0 s1 x4
def f_X11_feed_137 (K87 : St → Nat → Int32 → Int32 → Int32 → Int32 → Int32 → Int32 → Int32 → Option (St × Int32)) (z : St) (o0 : Nat) (x1 : Int32) (x2 : Int32) (x3 : Int32) (x4 : Int32) (x5 : Int32) (x6 : Int32) (x7 : Int32) (s0 : Nat) (s1 : Int32) : Option (St × Int32) :=
  f_X11_feed_144 K87 z o0 x1 x2 x3 x4 x5 x6 x7 s0 s1 x5
def f_X11_feed_142 (K87 : St → Nat → Int32 → Int32 → Int32 → Int32 → Int32 → Int32 → Int32 → Option (St × Int32)) (z : St) (o0 : Nat) (x1 : Int32) (x2 : Int32) (x3 : Int32) (x4 : Int32) (x5 : Int32) (x6 : Int32) (x7 : Int32) (s0 : Nat) (s1 : Int32) : Option (St × Int32) :=
  f_X11_feed_144 K87 z o0 x1 x2 x3 x4 x5 x6 x7 s0 s1 x6
def f_X11_feed_131 (K87 : St → Nat → Int32 → Int32 → Int32 → Int32 → Int32 → Int32 → Int32 → Option (St × Int32)) (z : St) (o0 : Nat) (x1 : Int32) (x2 : Int32) (x3 : Int32) (x4 : Int32) (x5 : Int32) (x6 : Int32) (x7 : Int32) (s0 : Nat) (s1 : Int32) : Option (St × Int32) :=
  if x7 = 3 then f_X11_feed_137 K87 z o0 x1 x2 x3 x4 x5 x6 x7 s0 s1 else f_X11_feed_142 K87 z o0 x1 x2 x3 x4 x5 x6 x7 s0 s1
def f_X11_feed_120 (K87 : St → Nat → Int32 → Int32 → Int32 → Int32 → Int32 → Int32 → Int32 → Option (St × Int32)) (z : St) (o0 : Nat) (x1 : Int32) (x2 : Int32) (x3 : Int32) (x4 : Int32) (x5 : Int32) (x6 : Int32) (x7 : Int32) (s0 : Nat) (s1 : Int32) : Option (St × Int32) :=
  if x7 = 2 then f_X11_feed_126 K87 z o0 x1 x2 x3 x4 x5 x6 x7 s0 s1 else f_X11_feed_131 K87 z o0 x1 x2 x3 x4 x5 x6 x7 s0 s1
def f_X11_feed_110 (K87 : St → Nat → Int32 → Int32 → Int32 → Int32 → Int32 → Int32 → Int32 → Option (St × Int32)) (z : St) (o0 : Nat) (x1 : Int32) (x2 : Int32) (x3 : Int32) (x4 : Int32) (x5 : Int32) (x6 : Int32) (x7 : Int32) (s0 : Nat) (s1 : Int32) : Option (St × Int32) :=
  if x7 = 1 then f_X11_feed_116 K87 z o0 x1 x2 x3 x4 x5 x6 x7 s0 s1 else f_X11_feed_120 K87 z o0 x1 x2 x3 x4 x5 x6 x7 s0 s1
def f_X11_feed_93 (K87 : St → Nat → Int32 → Int32 → Int32 → Int32 → Int32 → Int32 → Int32 → Option (St × Int32)) (z : St) (o0 : Nat) (x1 : Int32) (x2 : Int32) (x3 : Int32) (x4 : Int32) (x5 : Int32) (x6 : Int32) (x7 : Int32) : Option (St × Int32) :=
  if x7 = 0 then f_X11_feed_106 K87 z o0 x1 x2 x3 x4 x5 x6 x7 (rf o0 6) (z.1 o0 7) else f_X11_feed_110 K87 z o0 x1 x2 x3 x4 x5 x6 x7 (rf o0 6) (z.1 o0 7)
def f_X11_feed_161  (z : St) (o0 : Nat) : Option (St × Int32) :=
  some (z, z.1 o0 7)
def f_X11_feed_87  : Nat → St → Nat → Int32 → Int32 → Int32 → Int32 → Int32 → Int32 → Int32 → Option (St × Int32)
  | 0, _, _, _, _, _, _, _, _, _ => none
  | n + 1, z, o0, x1, x2, x3, x4, x5, x6, x7 => if x1 ≤ x7 then f_X11_feed_161 z o0 else f_X11_feed_93 (f_X11_feed_87 n) z o0 x1 x2 x3 x4 x5 x6 x7
def f_X11_feed_84  (z : St) (o0 : Nat) (x1 : Int32) (x2 : Int32) (x3 : Int32) (x4 : Int32) (x5 : Int32) (x6 : Int32) : Option (St × Int32) :=
  f_X11_feed_87 FU z o0 x1 x2 x3 x4 x5 x6 0
def f_X11_feed_70  (z : St) (o0 : Nat) (x1 : Int32) (x2 : Int32) (x3 : Int32) (x4 : Int32) (x5 : Int32) (x6 : Int32) : Option (St × Int32) :=
  if ((z.1 o0 7) + x1) ≤ 60 then f_X11_feed_84 z o0 x1 x2 x3 x4 x5 x6 else f_X11_feed_81 z
def f_X11_feed_55  (z : St) (o0 : Nat) (x1 : Int32) (x2 : Int32) (x3 : Int32) (x4 : Int32) (x5 : Int32) (x6 : Int32) : Option (St × Int32) :=
  ((f_X11_in z x6 0 255).bind fun r1 => if r1.2 = 0 then f_X11_feed_67 r1.1 else f_X11_feed_70 r1.1 o0 x1 x2 x3 x4 x5 x6)
def f_X11_feed_43  (z : St) (o0 : Nat) (x1 : Int32) (x2 : Int32) (x3 : Int32) (x4 : Int32) (x5 : Int32) (x6 : Int32) : Option (St × Int32) :=
  ((f_X11_in z x5 0 255).bind fun r1 => if r1.2 = 0 then f_X11_feed_67 r1.1 else f_X11_feed_55 r1.1 o0 x1 x2 x3 x4 x5 x6)
def f_X11_feed_31  (z : St) (o0 : Nat) (x1 : Int32) (x2 : Int32) (x3 : Int32) (x4 : Int32) (x5 : Int32) (x6 : Int32) : Option (St × Int32) :=
  ((f_X11_in z x4 0 255).bind fun r1 => if r1.2 = 0 then f_X11_feed_67 r1.1 else f_X11_feed_43 r1.1 o0 x1 x2 x3 x4 x5 x6)
def f_X11_feed_20  (z : St) (o0 : Nat) (x1 : Int32) (x2 : Int32) (x3 : Int32) (x4 : Int32) (x5 : Int32) (x6 : Int32) : Option (St × Int32) :=
  ((f_X11_in z x3 0 255).bind fun r1 => if r1.2 = 0 then f_X11_feed_67 r1.1 else f_X11_feed_31 r1.1 o0 x1 x2 x3 x4 x5 x6)
def f_X11_feed_9  (z : St) (o0 : Nat) (x1 : Int32) (x2 : Int32) (x3 : Int32) (x4 : Int32) (x5 : Int32) (x6 : Int32) : Option (St × Int32) :=
  ((f_X11_in z x2 0 255).bind fun r1 => if r1.2 = 0 then f_X11_feed_67 r1.1 else f_X11_feed_20 r1.1 o0 x1 x2 x3 x4 x5 x6)
def f_X11_feed_0  (z : St) (o0 : Nat) (x1 : Int32) (x2 : Int32) (x3 : Int32) (x4 : Int32) (x5 : Int32) (x6 : Int32) : Option (St × Int32) :=
  ((f_X11_in z x1 1 5).bind fun r1 => if r1.2 = 0 then f_X11_feed_67 r1.1 else f_X11_feed_9 r1.1 o0 x1 x2 x3 x4 x5 x6)
def f_X11_feed (z : St) (o0 : Nat) (x1 : Int32) (x2 : Int32) (x3 : Int32) (x4 : Int32) (x5 : Int32) (x6 : Int32) : Option (St × Int32) := f_X11_feed_0 z o0 x1 x2 x3 x4 x5 x6
def f_X11_here_24  (z : St) (s0 : Int32) : Option (St × Int32) :=
  some (z, s0)
def f_X11_here_11  (z : St) (o0 : Nat) : Option (St × Int32) :=
  if inb (z.1 o0 8) 60 = true then (f_X11_here_24 z (z.1 (rf o0 6) (Int32.toNatClampNeg (z.1 o0 8)))) else none
def f_X11_here_23  (z : St)  : Option (St × Int32) :=
  f_X11_here_24 z ((-1))
def f_X11_here_0  (z : St) (o0 : Nat) : Option (St × Int32) :=
  if (z.1 o0 9) ≤ (z.1 o0 8) then f_X11_here_23 z else f_X11_here_11 z o0
def f_X11_here (z : St) (o0 : Nat) : Option (St × Int32) := f_X11_here_0 z o0
def f_X11_fails_12  (z : St)  : Option (St) :=
  some z
def f_X11_fails_7  (z : St) (o0 : Nat) (x1 : Int32) : Option (St) :=
  f_X11_fails_12 (zI z o0 10 x1)
def f_X11_fails_0  (z : St) (o0 : Nat) (x1 : Int32) : Option (St) :=
  if 0 ≤ (z.1 o0 10) then f_X11_fails_12 z else f_X11_fails_7 z o0 x1
def f_X11_fails (z : St) (o0 : Nat) (x1 : Int32) : Option (St) := f_X11_fails_0 z o0 x1
def f_X11_kindOf_76  (z : St)  : Option (St × Int32) :=
  some (z, 0)
def f_X11_kindOf_78  (z : St)  : Option (St × Int32) :=
  some (z, 1)
def f_X11_kindOf_80  (z : St)  : Option (St × Int32) :=
  some (z, 2)
def f_X11_kindOf_82  (z : St)  : Option (St × Int32) :=
  some (z, 3)
def f_X11_kindOf_84  (z : St)  : Option (St × Int32) :=
  some (z, 4)
def f_X11_kindOf_97  (z : St) (s0 : Int32) : Option (St × Int32) :=
  some (z, s0)
def f_X11_kindOf_92  (z : St)  : Option (St × Int32) :=
  f_X11_kindOf_97 z 5
def f_X11_kindOf_96  (z : St)  : Option (St × Int32) :=
  f_X11_kindOf_97 z ((-1))
def f_X11_kindOf_86  (z : St) (x0 : Int32) : Option (St × Int32) :=
  if x0 = 115 then f_X11_kindOf_92 z else f_X11_kindOf_96 z
def f_X11_kindOf_0  (z : St) (x0 : Int32) : Option (St × Int32) :=
  if x0 = 100 then f_X11_kindOf_82 z else if x0 = 101 then f_X11_kindOf_86 z x0 else if x0 = 102 then f_X11_kindOf_86 z x0 else if x0 = 103 then f_X11_kindOf_86 z x0 else if x0 = 104 then f_X11_kindOf_80 z else if x0 = 105 then f_X11_kindOf_86 z x0 else if x0 = 106 then f_X11_kindOf_86 z x0 else if x0 = 107 then f_X11_kindOf_86 z x0 else if x0 = 108 then f_X11_kindOf_86 z x0 else if x0 = 109 then f_X11_kindOf_84 z else if x0 = 110 then f_X11_kindOf_86 z x0 else if x0 = 111 then f_X11_kindOf_86 z x0 else if x0 = 112 then f_X11_kindOf_76 z else if x0 = 113 then f_X11_kindOf_86 z x0 else if x0 = 114 then f_X11_kindOf_78 z else f_X11_kindOf_86 z x0
def f_X11_kindOf (z : St) (x0 : Int32) : Option (St × Int32) := f_X11_kindOf_0 z x0
def f_X11_takes_29  (z : St)  : Option (St) :=
  some z
def f_X11_takes_8  (z : St) (o0 : Nat) : Option (St) :=
  f_X11_takes_29 (zI z o0 8 ((z.1 o0 8) + 1))
def f_X11_takes_21  (z : St) (o0 : Nat) : Option (St) :=
  ((f_X11_fails z o0 (z.1 o0 8)).bind fun r1 => f_X11_takes_29 r1)
def f_X11_takes_0  (z : St) (o0 : Nat) (x1 : Int32) : Option (St) :=
  ((f_X11_here z o0).bind fun r1 => if r1.2 = x1 then f_X11_takes_8 r1.1 o0 else f_X11_takes_21 r1.1 o0)
def f_X11_takes (z : St) (o0 : Nat) (x1 : Int32) : Option (St) := f_X11_takes_0 z o0 x1
def f_X11_number_31 (K7 : St → Nat → Int32 → Int32 → Int32 → Option (St × Int32)) (z : St) (o0 : Nat) (x1 : Int32) (x2 : Int32) (x3 : Int32) : Option (St × Int32) :=
  ((f_X11_here z o0).bind fun r1 => K7 (zI r1.1 o0 8 ((r1.1.1 o0 8) + 1)) o0 x1 x2 (((10 * x3) + r1.2) - 48))
def f_X11_number_78  (z : St) (x3 : Int32) : Option (St × Int32) :=
  some (z, x3)
def f_X11_number_73  (z : St) (o0 : Nat) (x2 : Int32) (x3 : Int32) : Option (St × Int32) :=
  ((f_X11_fails z o0 x2).bind fun r1 => f_X11_number_78 r1 x3)
def f_X11_number_65  (z : St) (o0 : Nat) (x1 : Int32) (x2 : Int32) (x3 : Int32) : Option (St × Int32) :=
  ((f_X11_mayBe z x1 x3).bind fun r1 => if r1.2 = 0 then f_X11_number_73 r1.1 o0 x2 x3 else f_X11_number_78 r1.1 x3)
def f_X11_number_57  (z : St) (o0 : Nat) (x1 : Int32) (x2 : Int32) (x3 : Int32) : Option (St × Int32) :=
  if (z.1 o0 8) = x2 then f_X11_number_73 z o0 x2 x3 else f_X11_number_65 z o0 x1 x2 x3
def f_X11_number_17 (K7 : St → Nat → Int32 → Int32 → Int32 → Option (St × Int32)) (z : St) (o0 : Nat) (x1 : Int32) (x2 : Int32) (x3 : Int32) : Option (St × Int32) :=
  ((f_X11_here z o0).bind fun r1 => ((f_X11_in r1.1 r1.2 48 57).bind fun r3 => if r3.2 = 0 then f_X11_number_57 r3.1 o0 x1 x2 x3 else f_X11_number_31 K7 r3.1 o0 x1 x2 x3))
def f_X11_number_7  : Nat → St → Nat → Int32 → Int32 → Int32 → Option (St × Int32)
  | 0, _, _, _, _, _ => none
  | n + 1, z, o0, x1, x2, x3 => if (x2 + 2) ≤ (z.1 o0 8) then f_X11_number_57 z o0 x1 x2 x3 else f_X11_number_17 (f_X11_number_7 n) z o0 x1 x2 x3
def f_X11_number_0  (z : St) (o0 : Nat) (x1 : Int32) : Option (St × Int32) :=
  f_X11_number_7 FU z o0 x1 (z.1 o0 8) 0
def f_X11_number (z : St) (o0 : Nat) (x1 : Int32) : Option (St × Int32) := f_X11_number_0 z o0 x1
def f_X11_item_12  (z : St) (o0 : Nat) : Option (St) :=
  ((f_X11_fails z o0 (z.1 o0 8)).bind fun r1 => some r1)
def f_X11_item_93 (K45 : St → Nat → Int32 → Option (St)) (z : St) (o0 : Nat) (x2 : Int32) : Option (St) :=
  K45 z o0 (x2 + 1)
def f_X11_item_75 (K45 : St → Nat → Int32 → Option (St)) (z : St) (o0 : Nat) (x2 : Int32) : Option (St) :=
  ((f_X11_number z o0 x2).bind fun r1 => if inb ((4 * (z.1 o0 11)) + x2) 120 = true then (f_X11_item_93 K45 (zI r1.1 (rf o0 12) (Int32.toNatClampNeg ((4 * (z.1 o0 11)) + x2)) r1.2) o0 x2) else none)
def f_X11_item_68 (K45 : St → Nat → Int32 → Option (St)) (z : St) (o0 : Nat) (x2 : Int32) : Option (St) :=
  if 0 ≤ (z.1 o0 10) then f_X11_item_93 K45 z o0 x2 else f_X11_item_75 K45 z o0 x2
def f_X11_item_62 (K45 : St → Nat → Int32 → Option (St)) (z : St) (o0 : Nat) (x2 : Int32) : Option (St) :=
  ((f_X11_takes z o0 44).bind fun r1 => f_X11_item_68 K45 r1 o0 x2)
def f_X11_item_57 (K45 : St → Nat → Int32 → Option (St)) (z : St) (o0 : Nat) (x2 : Int32) : Option (St) :=
  if x2 ≤ 1 then f_X11_item_68 K45 z o0 x2 else f_X11_item_62 K45 z o0 x2
def f_X11_item_99  (z : St) (o0 : Nat) : Option (St) :=
  some (zI z o0 11 ((z.1 o0 11) + 1))
def f_X11_item_50 (K45 : St → Nat → Int32 → Option (St)) (z : St) (o0 : Nat) (x2 : Int32) : Option (St) :=
  if 0 ≤ (z.1 o0 10) then f_X11_item_99 z o0 else f_X11_item_57 K45 z o0 x2
def f_X11_item_45  : Nat → St → Nat → Int32 → Option (St)
  | 0, _, _, _ => none
  | n + 1, z, o0, x2 => if 4 ≤ x2 then f_X11_item_99 z o0 else f_X11_item_50 (f_X11_item_45 n) z o0 x2
def f_X11_item_21  (z : St) (o0 : Nat) (x1 : Int32) : Option (St) :=
  if inb (4 * ((zI z o0 8 ((z.1 o0 8) + 1)).1 o0 11)) 120 = true then (f_X11_item_45 FU (zI (zI z o0 8 ((z.1 o0 8) + 1)) (rf o0 12) (Int32.toNatClampNeg (4 * ((zI z o0 8 ((z.1 o0 8) + 1)).1 o0 11))) x1) o0 1) else none
def f_X11_item_0  (z : St) (o0 : Nat) : Option (St) :=
  ((f_X11_here z o0).bind fun r1 => ((f_X11_kindOf r1.1 r1.2).bind fun r3 => if 0 ≤ r3.2 then f_X11_item_21 r3.1 o0 r3.2 else f_X11_item_12 r3.1 o0))
def f_X11_item (z : St) (o0 : Nat) : Option (St) := f_X11_item_0 z o0
def f_X11_text_63 (K32 : St → Nat → Option (St × Int32)) (z : St) (o0 : Nat) : Option (St × Int32) :=
  ((f_X11_item z o0).bind fun r1 => K32 r1 o0)
def f_X11_text_50 (K32 : St → Nat → Option (St × Int32)) (z : St) (o0 : Nat) : Option (St × Int32) :=
  ((f_X11_takes z o0 59).bind fun r1 => if 0 ≤ (r1.1 o0 10) then K32 r1 o0 else f_X11_text_63 K32 r1 o0)
def f_X11_text_77  (z : St) (o0 : Nat) : Option (St × Int32) :=
  some (z, ((-100)) - (z.1 o0 10))
def f_X11_text_99  (z : St)  : Option (St × Int32) :=
  some (z, (-4))
def f_X11_text_112 (K104 : St → Nat → Int32 → Option (St × Int32)) (z : St) (o0 : Nat) (x1 : Int32) : Option (St × Int32) :=
  if inb (4 * x1) 120 = true then (if inb ((4 * x1) + 1) 120 = true then (if inb ((4 * x1) + 2) 120 = true then (if inb ((4 * x1) + 3) 120 = true then (((f_X11_adds z o0 (z.1 (rf o0 12) (Int32.toNatClampNeg (4 * x1))) (z.1 (rf o0 12) (Int32.toNatClampNeg ((4 * x1) + 1))) (z.1 (rf o0 12) (Int32.toNatClampNeg ((4 * x1) + 2))) (z.1 (rf o0 12) (Int32.toNatClampNeg ((4 * x1) + 3)))).bind fun r5 => K104 r5 o0 (x1 + 1))) else none) else none) else none) else none
def f_X11_text_160  (z : St) (o0 : Nat) : Option (St × Int32) :=
  ((f_X11_anew z o0).bind fun r1 => some (r1, r1.1 o0 5))
def f_X11_text_104  : Nat → St → Nat → Int32 → Option (St × Int32)
  | 0, _, _, _ => none
  | n + 1, z, o0, x1 => if (z.1 o0 11) ≤ x1 then f_X11_text_160 z o0 else f_X11_text_112 (f_X11_text_104 n) z o0 x1
def f_X11_text_102  (z : St) (o0 : Nat) : Option (St × Int32) :=
  f_X11_text_104 FU z o0 0
def f_X11_text_85  (z : St) (o0 : Nat) : Option (St × Int32) :=
  if ((z.1 o0 5) + (z.1 o0 11)) ≤ 8 then f_X11_text_102 z o0 else f_X11_text_99 z
def f_X11_text_70  (z : St) (o0 : Nat) : Option (St × Int32) :=
  if (z.1 o0 10) < 0 then f_X11_text_85 z o0 else f_X11_text_77 z o0
def f_X11_text_39 (K32 : St → Nat → Option (St × Int32)) (z : St) (o0 : Nat) : Option (St × Int32) :=
  if (z.1 o0 9) ≤ (z.1 o0 8) then f_X11_text_70 z o0 else f_X11_text_50 K32 z o0
def f_X11_text_32  : Nat → St → Nat → Option (St × Int32)
  | 0, _, _ => none
  | n + 1, z, o0 => if 0 ≤ (z.1 o0 10) then f_X11_text_70 z o0 else f_X11_text_39 (f_X11_text_32 n) z o0
def f_X11_text_0  (z : St) (o0 : Nat) : Option (St × Int32) :=
  ((f_X11_item (zI (zI (zI (zI (zI z o0 9 (z.1 o0 7)) o0 7 0) o0 8 0) o0 10 ((-1))) o0 11 0) o0).bind fun r1 => f_X11_text_32 FU r1 o0)
def f_X11_text (z : St) (o0 : Nat) : Option (St × Int32) := f_X11_text_0 z o0
def f_X11_thinks_10 (K2 : St → Nat → Int32 → Option (St)) (z : St) (o0 : Nat) (x1 : Int32) : Option (St) :=
  ((f_X11_comesOf z o0 x1).bind fun r1 => if inb x1 8 = true then (((f_X11_takesOf (zI r1.1 (rf o0 13) (Int32.toNatClampNeg x1) r1.2) o0 x1).bind fun r4 => if inb x1 8 = true then (((f_X11_coolsOf (zI r4.1 (rf o0 14) (Int32.toNatClampNeg x1) r4.2) o0 x1).bind fun r7 => if inb x1 8 = true then (K2 (zI r7.1 (rf o0 15) (Int32.toNatClampNeg x1) r7.2) o0 (x1 + 1)) else none)) else none)) else none)
def f_X11_thinks_49  (z : St)  : Option (St) :=
  some z
def f_X11_thinks_2  : Nat → St → Nat → Int32 → Option (St)
  | 0, _, _, _ => none
  | n + 1, z, o0, x1 => if (z.1 o0 5) ≤ x1 then f_X11_thinks_49 z else f_X11_thinks_10 (f_X11_thinks_2 n) z o0 x1
def f_X11_thinks_0  (z : St) (o0 : Nat) : Option (St) :=
  f_X11_thinks_2 FU z o0 0
def f_X11_thinks (z : St) (o0 : Nat) : Option (St) := f_X11_thinks_0 z o0
def f_X11_isAhead_35  (z : St) (s0 : Int32) : Option (St × Int32) :=
  if zb s0 = true then some (z, s0) else none
def f_X11_isAhead_30  (z : St)  : Option (St × Int32) :=
  f_X11_isAhead_35 z 1
def f_X11_isAhead_34  (z : St)  : Option (St × Int32) :=
  f_X11_isAhead_35 z 0
def f_X11_isAhead_15  (z : St) (o0 : Nat) (x1 : Int32) (x2 : Int32) : Option (St × Int32) :=
  if inb x1 8 = true then (if inb x2 8 = true then (if (z.1 (rf o0 15) (Int32.toNatClampNeg x1)) ≤ (z.1 (rf o0 15) (Int32.toNatClampNeg x2)) then f_X11_isAhead_34 z else f_X11_isAhead_30 z) else none) else none
def f_X11_isAhead_84  (z : St) (s0 : Int32) : Option (St × Int32) :=
  if zb s0 = true then some (z, s0) else none
def f_X11_isAhead_66  (z : St)  : Option (St × Int32) :=
  f_X11_isAhead_84 z 1
def f_X11_isAhead_70  (z : St)  : Option (St × Int32) :=
  f_X11_isAhead_84 z 0
def f_X11_isAhead_51  (z : St) (o0 : Nat) (x1 : Int32) (x2 : Int32) : Option (St × Int32) :=
  if inb x1 8 = true then (if inb x2 8 = true then (if (z.1 (rf o0 14) (Int32.toNatClampNeg x1)) ≤ (z.1 (rf o0 14) (Int32.toNatClampNeg x2)) then f_X11_isAhead_70 z else f_X11_isAhead_66 z) else none) else none
def f_X11_isAhead_79  (z : St)  : Option (St × Int32) :=
  f_X11_isAhead_84 z 1
def f_X11_isAhead_83  (z : St)  : Option (St × Int32) :=
  f_X11_isAhead_84 z 0
def f_X11_isAhead_74  (z : St) (x1 : Int32) (x2 : Int32) : Option (St × Int32) :=
  if x2 ≤ x1 then f_X11_isAhead_83 z else f_X11_isAhead_79 z
def f_X11_isAhead_36  (z : St) (o0 : Nat) (x1 : Int32) (x2 : Int32) : Option (St × Int32) :=
  if inb x1 8 = true then (if inb x2 8 = true then (if (z.1 (rf o0 14) (Int32.toNatClampNeg x1)) = (z.1 (rf o0 14) (Int32.toNatClampNeg x2)) then f_X11_isAhead_74 z x1 x2 else f_X11_isAhead_51 z o0 x1 x2) else none) else none
def f_X11_isAhead_0  (z : St) (o0 : Nat) (x1 : Int32) (x2 : Int32) : Option (St × Int32) :=
  if inb x1 8 = true then (if inb x2 8 = true then (if (z.1 (rf o0 15) (Int32.toNatClampNeg x1)) = (z.1 (rf o0 15) (Int32.toNatClampNeg x2)) then f_X11_isAhead_36 z o0 x1 x2 else f_X11_isAhead_15 z o0 x1 x2) else none) else none
def f_X11_isAhead (z : St) (o0 : Nat) (x1 : Int32) (x2 : Int32) : Option (St × Int32) := f_X11_isAhead_0 z o0 x1 x2
def f_X11_chosen_51 (K5 : St → Nat → Int32 → Int32 → Int32 → Int32 → Option (St × Int32)) (z : St) (o0 : Nat) (x1 : Int32) (x2 : Int32) (x3 : Int32) (x4 : Int32) : Option (St × Int32) :=
  K5 z o0 x1 x2 x3 (x4 + 1)
def f_X11_chosen_48 (K5 : St → Nat → Int32 → Int32 → Int32 → Int32 → Option (St × Int32)) (z : St) (o0 : Nat) (x1 : Int32) (x2 : Int32) (x4 : Int32) : Option (St × Int32) :=
  f_X11_chosen_51 K5 z o0 x1 x2 x4 x4
def f_X11_chosen_38 (K5 : St → Nat → Int32 → Int32 → Int32 → Int32 → Option (St × Int32)) (z : St) (o0 : Nat) (x1 : Int32) (x2 : Int32) (x3 : Int32) (x4 : Int32) : Option (St × Int32) :=
  ((f_X11_isAhead z o0 x4 x3).bind fun r1 => if r1.2 = 0 then f_X11_chosen_51 K5 r1.1 o0 x1 x2 x3 x4 else f_X11_chosen_48 K5 r1.1 o0 x1 x2 x4)
def f_X11_chosen_34 (K5 : St → Nat → Int32 → Int32 → Int32 → Int32 → Option (St × Int32)) (z : St) (o0 : Nat) (x1 : Int32) (x2 : Int32) (x3 : Int32) (x4 : Int32) : Option (St × Int32) :=
  if x3 < 0 then f_X11_chosen_48 K5 z o0 x1 x2 x4 else f_X11_chosen_38 K5 z o0 x1 x2 x3 x4
def f_X11_chosen_23 (K5 : St → Nat → Int32 → Int32 → Int32 → Int32 → Option (St × Int32)) (z : St) (o0 : Nat) (x1 : Int32) (x2 : Int32) (x3 : Int32) (x4 : Int32) : Option (St × Int32) :=
  if inb x4 8 = true then (if x1 < (z.1 (rf o0 13) (Int32.toNatClampNeg x4)) then f_X11_chosen_51 K5 z o0 x1 x2 x3 x4 else f_X11_chosen_34 K5 z o0 x1 x2 x3 x4) else none
def f_X11_chosen_14 (K5 : St → Nat → Int32 → Int32 → Int32 → Int32 → Option (St × Int32)) (z : St) (o0 : Nat) (x1 : Int32) (x2 : Int32) (x3 : Int32) (x4 : Int32) : Option (St × Int32) :=
  if ((x2 >>> (x4 &&& 31)) &&& 1) = 0 then f_X11_chosen_23 K5 z o0 x1 x2 x3 x4 else f_X11_chosen_51 K5 z o0 x1 x2 x3 x4
def f_X11_chosen_57  (z : St) (x3 : Int32) : Option (St × Int32) :=
  some (z, x3)
def f_X11_chosen_5  : Nat → St → Nat → Int32 → Int32 → Int32 → Int32 → Option (St × Int32)
  | 0, _, _, _, _, _, _ => none
  | n + 1, z, o0, x1, x2, x3, x4 => if (z.1 o0 5) ≤ x4 then f_X11_chosen_57 z x3 else f_X11_chosen_14 (f_X11_chosen_5 n) z o0 x1 x2 x3 x4
def f_X11_chosen_0  (z : St) (o0 : Nat) (x1 : Int32) (x2 : Int32) : Option (St × Int32) :=
  f_X11_chosen_5 FU z o0 x1 x2 ((-1)) 0
def f_X11_chosen (z : St) (o0 : Nat) (x1 : Int32) (x2 : Int32) : Option (St × Int32) := f_X11_chosen_0 z o0 x1 x2
def f_X11_nextCome_33 (K6 : St → Nat → Int32 → Int32 → Int32 → Option (St × Int32)) (z : St) (o0 : Nat) (x1 : Int32) (x2 : Int32) (x3 : Int32) : Option (St × Int32) :=
  K6 z o0 x1 x2 (x3 + 1)
def f_X11_nextCome_22 (K6 : St → Nat → Int32 → Int32 → Int32 → Option (St × Int32)) (z : St) (o0 : Nat) (x1 : Int32) (x2 : Int32) (x3 : Int32) : Option (St × Int32) :=
  if inb x3 8 = true then (f_X11_nextCome_33 K6 z o0 x1 (imin x2 (z.1 (rf o0 13) (Int32.toNatClampNeg x3))) x3) else none
def f_X11_nextCome_14 (K6 : St → Nat → Int32 → Int32 → Int32 → Option (St × Int32)) (z : St) (o0 : Nat) (x1 : Int32) (x2 : Int32) (x3 : Int32) : Option (St × Int32) :=
  if ((x1 >>> (x3 &&& 31)) &&& 1) = 0 then f_X11_nextCome_22 K6 z o0 x1 x2 x3 else f_X11_nextCome_33 K6 z o0 x1 x2 x3
def f_X11_nextCome_39  (z : St) (x2 : Int32) : Option (St × Int32) :=
  some (z, x2)
def f_X11_nextCome_6  : Nat → St → Nat → Int32 → Int32 → Int32 → Option (St × Int32)
  | 0, _, _, _, _, _ => none
  | n + 1, z, o0, x1, x2, x3 => if (z.1 o0 5) ≤ x3 then f_X11_nextCome_39 z x2 else f_X11_nextCome_14 (f_X11_nextCome_6 n) z o0 x1 x2 x3
def f_X11_nextCome_0  (z : St) (o0 : Nat) (x1 : Int32) : Option (St × Int32) :=
  f_X11_nextCome_6 FU z o0 x1 999 0
def f_X11_nextCome (z : St) (o0 : Nat) (x1 : Int32) : Option (St × Int32) := f_X11_nextCome_0 z o0 x1
def f_X11_greedily_45 (K9 : St → Nat → Int32 → Int32 → Int32 → Int32 → Option (St × Int32)) (z : St) (o0 : Nat) (x1 : Int32) (x2 : Int32) (x3 : Int32) (x4 : Int32) (x5 : Int32) : Option (St × Int32) :=
  if inb x4 8 = true then (if inb x5 8 = true then (if inb x5 8 = true then (if inb x5 8 = true then (if inb x5 8 = true then (K9 (zI (zI (zI z (rf o0 16) (Int32.toNatClampNeg x4) x5) (rf o0 17) (Int32.toNatClampNeg x5) x1) (rf o0 18) (Int32.toNatClampNeg x5) (x1 + ((zI (zI z (rf o0 16) (Int32.toNatClampNeg x4) x5) (rf o0 17) (Int32.toNatClampNeg x5) x1).1 (rf o0 14) (Int32.toNatClampNeg x5)))) o0 (x1 + ((zI (zI z (rf o0 16) (Int32.toNatClampNeg x4) x5) (rf o0 17) (Int32.toNatClampNeg x5) x1).1 (rf o0 14) (Int32.toNatClampNeg x5))) (x2 ||| ((1 : Int32) <<< (x5 &&& 31))) (imax x3 ((x1 + ((zI (zI z (rf o0 16) (Int32.toNatClampNeg x4) x5) (rf o0 17) (Int32.toNatClampNeg x5) x1).1 (rf o0 14) (Int32.toNatClampNeg x5))) + ((zI (zI (zI z (rf o0 16) (Int32.toNatClampNeg x4) x5) (rf o0 17) (Int32.toNatClampNeg x5) x1) (rf o0 18) (Int32.toNatClampNeg x5) (x1 + ((zI (zI z (rf o0 16) (Int32.toNatClampNeg x4) x5) (rf o0 17) (Int32.toNatClampNeg x5) x1).1 (rf o0 14) (Int32.toNatClampNeg x5)))).1 (rf o0 15) (Int32.toNatClampNeg x5)))) (x4 + 1)) else none) else none) else none) else none) else none
def f_X11_greedily_31 (K9 : St → Nat → Int32 → Int32 → Int32 → Int32 → Option (St × Int32)) (z : St) (o0 : Nat) (x2 : Int32) (x3 : Int32) (x4 : Int32) : Option (St × Int32) :=
  ((f_X11_nextCome z o0 x2).bind fun r1 => ((f_X11_chosen r1.1 o0 r1.2 x2).bind fun r3 => f_X11_greedily_45 K9 r3.1 o0 r1.2 x2 x3 x4 r3.2))
def f_X11_greedily_18 (K9 : St → Nat → Int32 → Int32 → Int32 → Int32 → Option (St × Int32)) (z : St) (o0 : Nat) (x1 : Int32) (x2 : Int32) (x3 : Int32) (x4 : Int32) : Option (St × Int32) :=
  ((f_X11_chosen z o0 x1 x2).bind fun r1 => if 0 ≤ r1.2 then f_X11_greedily_45 K9 r1.1 o0 x1 x2 x3 x4 r1.2 else f_X11_greedily_31 K9 r1.1 o0 x2 x3 x4)
def f_X11_greedily_107  (z : St) (o0 : Nat) (x1 : Int32) (x3 : Int32) : Option (St × Int32) :=
  some (zI z o0 19 x1, x3)
def f_X11_greedily_9  : Nat → St → Nat → Int32 → Int32 → Int32 → Int32 → Option (St × Int32)
  | 0, _, _, _, _, _, _ => none
  | n + 1, z, o0, x1, x2, x3, x4 => if (z.1 o0 5) ≤ x4 then f_X11_greedily_107 z o0 x1 x3 else f_X11_greedily_18 (f_X11_greedily_9 n) z o0 x1 x2 x3 x4
def f_X11_greedily_0  (z : St) (o0 : Nat) : Option (St × Int32) :=
  f_X11_greedily_9 FU z o0 0 0 0 0
def f_X11_greedily (z : St) (o0 : Nat) : Option (St × Int32) := f_X11_greedily_0 z o0
def f_X11_allTake_12 (K4 : St → Nat → Int32 → Int32 → Option (St × Int32)) (z : St) (o0 : Nat) (x1 : Int32) (x2 : Int32) : Option (St × Int32) :=
  if inb x2 8 = true then (K4 z o0 (x1 + (z.1 (rf o0 14) (Int32.toNatClampNeg x2))) (x2 + 1)) else none
def f_X11_allTake_27  (z : St) (x1 : Int32) : Option (St × Int32) :=
  some (z, x1)
def f_X11_allTake_4  : Nat → St → Nat → Int32 → Int32 → Option (St × Int32)
  | 0, _, _, _, _ => none
  | n + 1, z, o0, x1, x2 => if (z.1 o0 5) ≤ x2 then f_X11_allTake_27 z x1 else f_X11_allTake_12 (f_X11_allTake_4 n) z o0 x1 x2
def f_X11_allTake_0  (z : St) (o0 : Nat) : Option (St × Int32) :=
  f_X11_allTake_4 FU z o0 0 0
def f_X11_allTake (z : St) (o0 : Nat) : Option (St × Int32) := f_X11_allTake_0 z o0
def f_X11_greedy_9  (z : St)  : Option (St × Int32) :=
  some (z, (-2))
def f_X11_greedy_26  (z : St)  : Option (St × Int32) :=
  some (z, (-12))
def f_X11_greedy_59  (z : St) (s0 : Int32) : Option (St × Int32) :=
  some (z, s0)
def f_X11_greedy_46  (z : St) (x3 : Int32) : Option (St × Int32) :=
  f_X11_greedy_59 z x3
def f_X11_greedy_50  (z : St) (o0 : Nat) : Option (St × Int32) :=
  ((f_X11_allTake z o0).bind fun r1 => f_X11_greedy_59 r1.1 ((z.1 o0 19) - r1.2))
def f_X11_greedy_42  (z : St) (o0 : Nat) (x2 : Int32) (x3 : Int32) : Option (St × Int32) :=
  if x2 = 0 then f_X11_greedy_46 z x3 else f_X11_greedy_50 z o0
def f_X11_greedy_84  (z : St) (s0 : Int32) : Option (St × Int32) :=
  some (z, s0)
def f_X11_greedy_64  (z : St) (o0 : Nat) (x1 : Int32) : Option (St × Int32) :=
  if inb x1 8 = true then (f_X11_greedy_84 z (z.1 (rf o0 16) (Int32.toNatClampNeg x1))) else none
def f_X11_greedy_73  (z : St) (o0 : Nat) (x1 : Int32) : Option (St × Int32) :=
  if inb x1 8 = true then (if inb (z.1 (rf o0 16) (Int32.toNatClampNeg x1)) 8 = true then (f_X11_greedy_84 z (z.1 (rf o0 17) (Int32.toNatClampNeg (z.1 (rf o0 16) (Int32.toNatClampNeg x1))))) else none) else none
def f_X11_greedy_60  (z : St) (o0 : Nat) (x1 : Int32) (x2 : Int32) : Option (St × Int32) :=
  if x2 = 0 then f_X11_greedy_64 z o0 x1 else f_X11_greedy_73 z o0 x1
def f_X11_greedy_29  (z : St) (o0 : Nat) (x1 : Int32) (x2 : Int32) : Option (St × Int32) :=
  ((f_X11_thinks z o0).bind fun r1 => ((f_X11_greedily r1 o0).bind fun r3 => if 0 ≤ x1 then f_X11_greedy_60 r3.1 o0 x1 x2 else f_X11_greedy_42 r3.1 o0 x2 r3.2))
def f_X11_greedy_12  (z : St) (o0 : Nat) (x1 : Int32) (x2 : Int32) : Option (St × Int32) :=
  ((f_X11_in z x1 ((-1)) ((z.1 o0 5) - 1)).bind fun r1 => if r1.2 = 0 then f_X11_greedy_26 r1.1 else f_X11_greedy_29 r1.1 o0 x1 x2)
def f_X11_greedy_0  (z : St) (o0 : Nat) (x1 : Int32) (x2 : Int32) : Option (St × Int32) :=
  ((f_X11_in z x2 0 1).bind fun r1 => if r1.2 = 0 then f_X11_greedy_9 r1.1 else f_X11_greedy_12 r1.1 o0 x1 x2)
def f_X11_greedy (z : St) (o0 : Nat) (x1 : Int32) (x2 : Int32) : Option (St × Int32) := f_X11_greedy_0 z o0 x1 x2
def f_X11_bestOpen_46 (K4 : St → Nat → Int32 → Int32 → Int32 → Option (St × Int32)) (z : St) (o0 : Nat) (x1 : Int32) (x2 : Int32) (x3 : Int32) : Option (St × Int32) :=
  K4 z o0 x1 x2 (x3 + 1)
def f_X11_bestOpen_44 (K4 : St → Nat → Int32 → Int32 → Int32 → Option (St × Int32)) (z : St) (o0 : Nat) (x1 : Int32) (x3 : Int32) : Option (St × Int32) :=
  f_X11_bestOpen_46 K4 z o0 x1 x3 x3
def f_X11_bestOpen_35 (K4 : St → Nat → Int32 → Int32 → Int32 → Option (St × Int32)) (z : St) (o0 : Nat) (x1 : Int32) (x2 : Int32) (x3 : Int32) : Option (St × Int32) :=
  ((f_X11_isAhead z o0 x3 x2).bind fun r1 => if r1.2 = 0 then f_X11_bestOpen_46 K4 r1.1 o0 x1 x2 x3 else f_X11_bestOpen_44 K4 r1.1 o0 x1 x3)
def f_X11_bestOpen_31 (K4 : St → Nat → Int32 → Int32 → Int32 → Option (St × Int32)) (z : St) (o0 : Nat) (x1 : Int32) (x2 : Int32) (x3 : Int32) : Option (St × Int32) :=
  if x2 < 0 then f_X11_bestOpen_44 K4 z o0 x1 x3 else f_X11_bestOpen_35 K4 z o0 x1 x2 x3
def f_X11_bestOpen_21 (K4 : St → Nat → Int32 → Int32 → Int32 → Option (St × Int32)) (z : St) (o0 : Nat) (x1 : Int32) (x2 : Int32) (x3 : Int32) : Option (St × Int32) :=
  if inb x3 8 = true then (if x1 < (z.1 (rf o0 13) (Int32.toNatClampNeg x3)) then f_X11_bestOpen_46 K4 z o0 x1 x2 x3 else f_X11_bestOpen_31 K4 z o0 x1 x2 x3) else none
def f_X11_bestOpen_12 (K4 : St → Nat → Int32 → Int32 → Int32 → Option (St × Int32)) (z : St) (o0 : Nat) (x1 : Int32) (x2 : Int32) (x3 : Int32) : Option (St × Int32) :=
  if inb x3 8 = true then (if (z.1 (rf o0 20) (Int32.toNatClampNeg x3)) ≤ 0 then f_X11_bestOpen_46 K4 z o0 x1 x2 x3 else f_X11_bestOpen_21 K4 z o0 x1 x2 x3) else none
def f_X11_bestOpen_52  (z : St) (x2 : Int32) : Option (St × Int32) :=
  some (z, x2)
def f_X11_bestOpen_4  : Nat → St → Nat → Int32 → Int32 → Int32 → Option (St × Int32)
  | 0, _, _, _, _, _ => none
  | n + 1, z, o0, x1, x2, x3 => if (z.1 o0 5) ≤ x3 then f_X11_bestOpen_52 z x2 else f_X11_bestOpen_12 (f_X11_bestOpen_4 n) z o0 x1 x2 x3
def f_X11_bestOpen_0  (z : St) (o0 : Nat) (x1 : Int32) : Option (St × Int32) :=
  f_X11_bestOpen_4 FU z o0 x1 ((-1)) 0
def f_X11_bestOpen (z : St) (o0 : Nat) (x1 : Int32) : Option (St × Int32) := f_X11_bestOpen_0 z o0 x1
def f_X11_breakingly_12 (K4 : St → Nat → Int32 → Int32 → Option (St × Int32)) (z : St) (o0 : Nat) (x1 : Int32) (x2 : Int32) : Option (St × Int32) :=
  if inb x2 8 = true then (if inb x2 8 = true then (if inb x2 8 = true then (K4 (zI z (rf o0 20) (Int32.toNatClampNeg x2) (z.1 (rf o0 14) (Int32.toNatClampNeg x2))) o0 (x1 + ((zI z (rf o0 20) (Int32.toNatClampNeg x2) (z.1 (rf o0 14) (Int32.toNatClampNeg x2))).1 (rf o0 14) (Int32.toNatClampNeg x2))) (x2 + 1)) else none) else none) else none
def f_X11_breakingly_149 (K51 : St → Nat → Int32 → Int32 → Int32 → Int32 → Option (St × Int32)) (z : St) (o0 : Nat) (x1 : Int32) (x2 : Int32) (x3 : Int32) (x4 : Int32) : Option (St × Int32) :=
  K51 z o0 x1 x2 x3 (x4 + 1)
def f_X11_breakingly_106 (K51 : St → Nat → Int32 → Int32 → Int32 → Int32 → Option (St × Int32)) (z : St) (o0 : Nat) (x1 : Int32) (x2 : Int32) (x3 : Int32) (x4 : Int32) : Option (St × Int32) :=
  f_X11_breakingly_149 K51 z o0 x1 x2 x3 x4
def f_X11_breakingly_131 (K51 : St → Nat → Int32 → Int32 → Int32 → Int32 → Option (St × Int32)) (z : St) (o0 : Nat) (x1 : Int32) (x2 : Int32) (x3 : Int32) (x4 : Int32) : Option (St × Int32) :=
  if inb x3 8 = true then (f_X11_breakingly_149 K51 z o0 x1 (imax x2 ((x4 + 1) + (z.1 (rf o0 15) (Int32.toNatClampNeg x3)))) ((-1)) x4) else none
def f_X11_breakingly_109 (K51 : St → Nat → Int32 → Int32 → Int32 → Int32 → Option (St × Int32)) (z : St) (o0 : Nat) (x1 : Int32) (x2 : Int32) (x3 : Int32) (x4 : Int32) : Option (St × Int32) :=
  if inb x3 8 = true then (if inb x3 8 = true then (if inb x3 8 = true then (if ((zI z (rf o0 20) (Int32.toNatClampNeg x3) ((z.1 (rf o0 20) (Int32.toNatClampNeg x3)) - 1)).1 (rf o0 20) (Int32.toNatClampNeg x3)) = 0 then f_X11_breakingly_131 K51 (zI z (rf o0 20) (Int32.toNatClampNeg x3) ((z.1 (rf o0 20) (Int32.toNatClampNeg x3)) - 1)) o0 (x1 + (-1)) x2 x3 x4 else f_X11_breakingly_149 K51 (zI z (rf o0 20) (Int32.toNatClampNeg x3) ((z.1 (rf o0 20) (Int32.toNatClampNeg x3)) - 1)) o0 (x1 + (-1)) x2 x3 x4) else none) else none) else none
def f_X11_breakingly_102 (K51 : St → Nat → Int32 → Int32 → Int32 → Int32 → Option (St × Int32)) (z : St) (o0 : Nat) (x1 : Int32) (x2 : Int32) (x3 : Int32) (x4 : Int32) : Option (St × Int32) :=
  if 0 ≤ x3 then f_X11_breakingly_109 K51 z o0 x1 x2 x3 x4 else f_X11_breakingly_106 K51 z o0 x1 x2 x3 x4
def f_X11_breakingly_67 (K51 : St → Nat → Int32 → Int32 → Int32 → Int32 → Option (St × Int32)) (z : St) (o0 : Nat) (x1 : Int32) (x2 : Int32) (x4 : Int32) (x5 : Int32) : Option (St × Int32) :=
  f_X11_breakingly_102 K51 z o0 x1 x2 x5 x4
def f_X11_breakingly_89 (K51 : St → Nat → Int32 → Int32 → Int32 → Int32 → Option (St × Int32)) (z : St) (o0 : Nat) (x1 : Int32) (x2 : Int32) (x4 : Int32) (x5 : Int32) : Option (St × Int32) :=
  f_X11_breakingly_102 K51 (zI z o0 21 ((z.1 o0 21) + 1)) o0 x1 x2 x5 x4
def f_X11_breakingly_73 (K51 : St → Nat → Int32 → Int32 → Int32 → Int32 → Option (St × Int32)) (z : St) (o0 : Nat) (x1 : Int32) (x2 : Int32) (x3 : Int32) (x4 : Int32) (x5 : Int32) : Option (St × Int32) :=
  if inb x5 8 = true then (if inb x3 8 = true then (if (z.1 (rf o0 15) (Int32.toNatClampNeg x5)) ≤ (z.1 (rf o0 15) (Int32.toNatClampNeg x3)) then f_X11_breakingly_102 K51 z o0 x1 x2 x3 x4 else f_X11_breakingly_89 K51 z o0 x1 x2 x4 x5) else none) else none
def f_X11_breakingly_55 (K51 : St → Nat → Int32 → Int32 → Int32 → Int32 → Option (St × Int32)) (z : St) (o0 : Nat) (x1 : Int32) (x2 : Int32) (x3 : Int32) (x4 : Int32) : Option (St × Int32) :=
  ((f_X11_bestOpen z o0 x4).bind fun r1 => if 0 ≤ x3 then f_X11_breakingly_73 K51 r1.1 o0 x1 x2 x3 x4 r1.2 else f_X11_breakingly_67 K51 r1.1 o0 x1 x2 x4 r1.2)
def f_X11_breakingly_155  (z : St) (x2 : Int32) : Option (St × Int32) :=
  some (z, x2)
def f_X11_breakingly_51  : Nat → St → Nat → Int32 → Int32 → Int32 → Int32 → Option (St × Int32)
  | 0, _, _, _, _, _, _ => none
  | n + 1, z, o0, x1, x2, x3, x4 => if x1 ≤ 0 then f_X11_breakingly_155 z x2 else f_X11_breakingly_55 (f_X11_breakingly_51 n) z o0 x1 x2 x3 x4
def f_X11_breakingly_39  (z : St) (o0 : Nat) (x1 : Int32) : Option (St × Int32) :=
  f_X11_breakingly_51 FU (zI z o0 21 0) o0 x1 0 ((-1)) 0
def f_X11_breakingly_4  : Nat → St → Nat → Int32 → Int32 → Option (St × Int32)
  | 0, _, _, _, _ => none
  | n + 1, z, o0, x1, x2 => if (z.1 o0 5) ≤ x2 then f_X11_breakingly_39 z o0 x1 else f_X11_breakingly_12 (f_X11_breakingly_4 n) z o0 x1 x2
def f_X11_breakingly_0  (z : St) (o0 : Nat) : Option (St × Int32) :=
  f_X11_breakingly_4 FU z o0 0 0
def f_X11_breakingly (z : St) (o0 : Nat) : Option (St × Int32) := f_X11_breakingly_0 z o0
def f_X11_breaking_9  (z : St)  : Option (St × Int32) :=
  some (z, (-2))
def f_X11_breaking_33  (z : St) (s0 : Int32) : Option (St × Int32) :=
  some (z, s0)
def f_X11_breaking_25  (z : St) (x2 : Int32) : Option (St × Int32) :=
  f_X11_breaking_33 z x2
def f_X11_breaking_29  (z : St) (o0 : Nat) : Option (St × Int32) :=
  f_X11_breaking_33 z (z.1 o0 21)
def f_X11_breaking_12  (z : St) (o0 : Nat) (x1 : Int32) : Option (St × Int32) :=
  ((f_X11_thinks z o0).bind fun r1 => ((f_X11_breakingly r1 o0).bind fun r3 => if x1 = 0 then f_X11_breaking_25 r3.1 r3.2 else f_X11_breaking_29 r3.1 o0))
def f_X11_breaking_0  (z : St) (o0 : Nat) (x1 : Int32) : Option (St × Int32) :=
  ((f_X11_in z x1 0 1).bind fun r1 => if r1.2 = 0 then f_X11_breaking_9 r1.1 else f_X11_breaking_12 r1.1 o0 x1)
def f_X11_breaking (z : St) (o0 : Nat) (x1 : Int32) : Option (St × Int32) := f_X11_breaking_0 z o0 x1
def f_X11_looks_41 (K4 : St → Nat → Int32 → Int32 → Int32 → Option (St)) (z : St) (o0 : Nat) (x1 : Int32) (x2 : Int32) (x3 : Int32) : Option (St) :=
  K4 z o0 x1 x2 (x3 + 1)
def f_X11_looks_39 (K4 : St → Nat → Int32 → Int32 → Int32 → Option (St)) (z : St) (o0 : Nat) (x1 : Int32) (x3 : Int32) : Option (St) :=
  f_X11_looks_41 K4 z o0 x1 x3 x3
def f_X11_looks_12 (K4 : St → Nat → Int32 → Int32 → Int32 → Option (St)) (z : St) (o0 : Nat) (x1 : Int32) (x2 : Int32) (x3 : Int32) : Option (St) :=
  if inb x3 8 = true then (if inb (z.1 (rf o0 16) (Int32.toNatClampNeg x3)) 8 = true then (if inb x3 8 = true then (if inb (z.1 (rf o0 16) (Int32.toNatClampNeg x3)) 8 = true then (if ((z.1 (rf o0 18) (Int32.toNatClampNeg (z.1 (rf o0 16) (Int32.toNatClampNeg x3)))) + (z.1 (rf o0 15) (Int32.toNatClampNeg (z.1 (rf o0 16) (Int32.toNatClampNeg x3))))) = x1 then f_X11_looks_39 K4 z o0 x1 x3 else f_X11_looks_41 K4 z o0 x1 x2 x3) else none) else none) else none) else none
def f_X11_looks_80 (K49 : St → Nat → Int32 → Int32 → Option (St)) (z : St) (o0 : Nat) (x2 : Int32) (x3 : Int32) : Option (St) :=
  K49 z o0 x2 (x3 + (-1))
def f_X11_looks_158 (K128 : St → Nat → Int32 → Int32 → Int32 → Option (St)) (z : St) (o0 : Nat) (x2 : Int32) (x3 : Int32) (x4 : Int32) : Option (St) :=
  K128 z o0 x2 x3 (x4 + (-1))
def f_X11_looks_170  (z : St)  : Option (St) :=
  some z
def f_X11_looks_194 (K188 : St → Nat → Int32 → Int32 → Option (St)) (z : St) (o0 : Nat) (x2 : Int32) (x5 : Int32) : Option (St) :=
  if inb x5 8 = true then (K188 (zI z o0 25 ((z.1 o0 25) ||| ((1 : Int32) <<< ((z.1 (rf o0 16) (Int32.toNatClampNeg x5)) &&& 31)))) o0 x2 (x5 + 1)) else none
def f_X11_looks_218  (z : St)  : Option (St) :=
  some z
def f_X11_looks_188  : Nat → St → Nat → Int32 → Int32 → Option (St)
  | 0, _, _, _, _ => none
  | n + 1, z, o0, x2, x5 => if x2 < x5 then f_X11_looks_218 z else f_X11_looks_194 (f_X11_looks_188 n) z o0 x2 x5
def f_X11_looks_171  (z : St) (o0 : Nat) (x2 : Int32) (x4 : Int32) : Option (St) :=
  if inb x4 8 = true then (f_X11_looks_188 FU (zI z o0 24 (z.1 (rf o0 16) (Int32.toNatClampNeg x4))) o0 x2 (x4 + 1)) else none
def f_X11_looks_164  (z : St) (o0 : Nat) (x2 : Int32) (x3 : Int32) (x4 : Int32) : Option (St) :=
  if x3 ≤ x4 then f_X11_looks_171 z o0 x2 x4 else f_X11_looks_170 z
def f_X11_looks_134 (K128 : St → Nat → Int32 → Int32 → Int32 → Option (St)) (z : St) (o0 : Nat) (x2 : Int32) (x3 : Int32) (x4 : Int32) : Option (St) :=
  if inb x4 8 = true then (if inb (z.1 (rf o0 16) (Int32.toNatClampNeg x4)) 8 = true then (if inb (z.1 o0 22) 8 = true then (if (z.1 (rf o0 15) (Int32.toNatClampNeg (z.1 (rf o0 16) (Int32.toNatClampNeg x4)))) < (z.1 (rf o0 15) (Int32.toNatClampNeg (z.1 o0 22))) then f_X11_looks_164 z o0 x2 x3 x4 else f_X11_looks_158 K128 z o0 x2 x3 x4) else none) else none) else none
def f_X11_looks_128  : Nat → St → Nat → Int32 → Int32 → Int32 → Option (St)
  | 0, _, _, _, _, _ => none
  | n + 1, z, o0, x2, x3, x4 => if x4 < x3 then f_X11_looks_164 z o0 x2 x3 x4 else f_X11_looks_134 (f_X11_looks_128 n) z o0 x2 x3 x4
def f_X11_looks_86  (z : St) (o0 : Nat) (x2 : Int32) (x3 : Int32) : Option (St) :=
  if inb x2 8 = true then (if inb x3 8 = true then (f_X11_looks_128 FU (zI (zI (zI (zI (zI z o0 22 (z.1 (rf o0 16) (Int32.toNatClampNeg x2))) o0 23 ((zI z o0 22 (z.1 (rf o0 16) (Int32.toNatClampNeg x2))).1 (rf o0 16) (Int32.toNatClampNeg x3))) o0 26 ((x2 - x3) + 1)) o0 24 ((-1))) o0 25 0) o0 x2 x3 x2) else none) else none
def f_X11_looks_53 (K49 : St → Nat → Int32 → Int32 → Option (St)) (z : St) (o0 : Nat) (x2 : Int32) (x3 : Int32) : Option (St) :=
  if inb (x3 - 1) 8 = true then (if inb (z.1 (rf o0 16) (Int32.toNatClampNeg (x3 - 1))) 8 = true then (if inb x3 8 = true then (if inb (z.1 (rf o0 16) (Int32.toNatClampNeg x3)) 8 = true then (if (z.1 (rf o0 18) (Int32.toNatClampNeg (z.1 (rf o0 16) (Int32.toNatClampNeg (x3 - 1))))) = (z.1 (rf o0 17) (Int32.toNatClampNeg (z.1 (rf o0 16) (Int32.toNatClampNeg x3)))) then f_X11_looks_80 K49 z o0 x2 x3 else f_X11_looks_86 z o0 x2 x3) else none) else none) else none) else none
def f_X11_looks_49  : Nat → St → Nat → Int32 → Int32 → Option (St)
  | 0, _, _, _, _ => none
  | n + 1, z, o0, x2, x3 => if x3 ≤ 0 then f_X11_looks_86 z o0 x2 x3 else f_X11_looks_53 (f_X11_looks_49 n) z o0 x2 x3
def f_X11_looks_47  (z : St) (o0 : Nat) (x2 : Int32) : Option (St) :=
  f_X11_looks_49 FU z o0 x2 x2
def f_X11_looks_4  : Nat → St → Nat → Int32 → Int32 → Int32 → Option (St)
  | 0, _, _, _, _, _ => none
  | n + 1, z, o0, x1, x2, x3 => if (z.1 o0 5) ≤ x3 then f_X11_looks_47 z o0 x2 else f_X11_looks_12 (f_X11_looks_4 n) z o0 x1 x2 x3
def f_X11_looks_0  (z : St) (o0 : Nat) (x1 : Int32) : Option (St) :=
  f_X11_looks_4 FU z o0 x1 0 0
def f_X11_looks (z : St) (o0 : Nat) (x1 : Int32) : Option (St) := f_X11_looks_0 z o0 x1
def f_X11_critical_9  (z : St)  : Option (St × Int32) :=
  some (z, (-2))
def f_X11_critical_19  (z : St)  : Option (St × Int32) :=
  some (z, (-3))
def f_X11_critical_64  (z : St) (o0 : Nat) : Option (St × Int32) :=
  some (z, z.1 o0 22)
def f_X11_critical_69  (z : St) (o0 : Nat) : Option (St × Int32) :=
  some (z, z.1 o0 23)
def f_X11_critical_74  (z : St) (o0 : Nat) : Option (St × Int32) :=
  some (z, z.1 o0 24)
def f_X11_critical_79  (z : St) (o0 : Nat) : Option (St × Int32) :=
  some (z, z.1 o0 25)
def f_X11_critical_84  (z : St) (o0 : Nat) : Option (St × Int32) :=
  some (z, z.1 o0 26)
def f_X11_critical_22  (z : St) (o0 : Nat) (x1 : Int32) : Option (St × Int32) :=
  ((f_X11_thinks z o0).bind fun r1 => ((f_X11_greedily r1 o0).bind fun r3 => ((f_X11_looks r3.1 o0 r3.2).bind fun r5 => if x1 = 0 then f_X11_critical_64 r5 o0 else if x1 = 1 then f_X11_critical_69 r5 o0 else if x1 = 2 then f_X11_critical_74 r5 o0 else if x1 = 3 then f_X11_critical_79 r5 o0 else f_X11_critical_84 r5 o0)))
def f_X11_critical_12  (z : St) (o0 : Nat) (x1 : Int32) : Option (St × Int32) :=
  if (z.1 o0 5) = 0 then f_X11_critical_19 z else f_X11_critical_22 z o0 x1
def f_X11_critical_0  (z : St) (o0 : Nat) (x1 : Int32) : Option (St × Int32) :=
  ((f_X11_in z x1 0 4).bind fun r1 => if r1.2 = 0 then f_X11_critical_9 r1.1 else f_X11_critical_12 r1.1 o0 x1)
def f_X11_critical (z : St) (o0 : Nat) (x1 : Int32) : Option (St × Int32) := f_X11_critical_0 z o0 x1
def f_X11_behindTakes_35 (K4 : St → Nat → Int32 → Int32 → Option (St × Int32)) (z : St) (o0 : Nat) (x2 : Int32) (s0 : Int32) (s1 : Int32) : Option (St × Int32) :=
  K4 z o0 (s0 + s1) (x2 + 1)
def f_X11_behindTakes_25 (K4 : St → Nat → Int32 → Int32 → Option (St × Int32)) (z : St) (o0 : Nat) (x2 : Int32) (s0 : Int32) : Option (St × Int32) :=
  if inb x2 8 = true then (f_X11_behindTakes_35 K4 z o0 x2 s0 (z.1 (rf o0 14) (Int32.toNatClampNeg x2))) else none
def f_X11_behindTakes_34 (K4 : St → Nat → Int32 → Int32 → Option (St × Int32)) (z : St) (o0 : Nat) (x2 : Int32) (s0 : Int32) : Option (St × Int32) :=
  f_X11_behindTakes_35 K4 z o0 x2 s0 0
def f_X11_behindTakes_12 (K4 : St → Nat → Int32 → Int32 → Option (St × Int32)) (z : St) (o0 : Nat) (x1 : Int32) (x2 : Int32) : Option (St × Int32) :=
  if (((z.1 o0 25) >>> (x2 &&& 31)) &&& 1) = 1 then f_X11_behindTakes_25 K4 z o0 x2 x1 else f_X11_behindTakes_34 K4 z o0 x2 x1
def f_X11_behindTakes_43  (z : St) (x1 : Int32) : Option (St × Int32) :=
  some (z, x1)
def f_X11_behindTakes_4  : Nat → St → Nat → Int32 → Int32 → Option (St × Int32)
  | 0, _, _, _, _ => none
  | n + 1, z, o0, x1, x2 => if (z.1 o0 5) ≤ x2 then f_X11_behindTakes_43 z x1 else f_X11_behindTakes_12 (f_X11_behindTakes_4 n) z o0 x1 x2
def f_X11_behindTakes_0  (z : St) (o0 : Nat) : Option (St × Int32) :=
  f_X11_behindTakes_4 FU z o0 0 0
def f_X11_behindTakes (z : St) (o0 : Nat) : Option (St × Int32) := f_X11_behindTakes_0 z o0
def f_X11_behindComes_40 (K6 : St → Nat → Int32 → Int32 → Option (St × Int32)) (z : St) (o0 : Nat) (x2 : Int32) (s0 : Int32) : Option (St × Int32) :=
  K6 z o0 s0 (x2 + 1)
def f_X11_behindComes_26 (K6 : St → Nat → Int32 → Int32 → Option (St × Int32)) (z : St) (o0 : Nat) (x1 : Int32) (x2 : Int32) : Option (St × Int32) :=
  if inb x2 8 = true then (f_X11_behindComes_40 K6 z o0 x2 (imin x1 (z.1 (rf o0 13) (Int32.toNatClampNeg x2)))) else none
def f_X11_behindComes_39 (K6 : St → Nat → Int32 → Int32 → Option (St × Int32)) (z : St) (o0 : Nat) (x1 : Int32) (x2 : Int32) : Option (St × Int32) :=
  f_X11_behindComes_40 K6 z o0 x2 x1
def f_X11_behindComes_14 (K6 : St → Nat → Int32 → Int32 → Option (St × Int32)) (z : St) (o0 : Nat) (x1 : Int32) (x2 : Int32) : Option (St × Int32) :=
  if (((z.1 o0 25) >>> (x2 &&& 31)) &&& 1) = 1 then f_X11_behindComes_26 K6 z o0 x1 x2 else f_X11_behindComes_39 K6 z o0 x1 x2
def f_X11_behindComes_47  (z : St) (x1 : Int32) : Option (St × Int32) :=
  some (z, x1)
def f_X11_behindComes_6  : Nat → St → Nat → Int32 → Int32 → Option (St × Int32)
  | 0, _, _, _, _ => none
  | n + 1, z, o0, x1, x2 => if (z.1 o0 5) ≤ x2 then f_X11_behindComes_47 z x1 else f_X11_behindComes_14 (f_X11_behindComes_6 n) z o0 x1 x2
def f_X11_behindComes_0  (z : St) (o0 : Nat) : Option (St × Int32) :=
  f_X11_behindComes_6 FU z o0 999 0
def f_X11_behindComes (z : St) (o0 : Nat) : Option (St × Int32) := f_X11_behindComes_0 z o0
def f_X11_branched_54  (z : St) (s0 : Int32) : Option (St × Int32) :=
  some (z, s0)
def f_X11_branched_4  (z : St) (o0 : Nat) : Option (St × Int32) :=
  if inb (z.1 o0 24) 8 = true then (((f_X11_behindTakes z o0).bind fun r2 => if inb (r2.1.1 o0 22) 8 = true then (f_X11_branched_54 r2.1 (imax (z.1 (rf o0 15) (Int32.toNatClampNeg (z.1 o0 24))) (r2.2 + (r2.1.1 (rf o0 15) (Int32.toNatClampNeg (r2.1.1 o0 22)))))) else none)) else none
def f_X11_branched_33  (z : St) (o0 : Nat) : Option (St × Int32) :=
  if inb (z.1 o0 24) 8 = true then (((f_X11_behindComes z o0).bind fun r2 => ((f_X11_behindTakes r2.1 o0).bind fun r4 => f_X11_branched_54 r4.1 (imax (z.1 (rf o0 13) (Int32.toNatClampNeg (z.1 o0 24))) (r2.2 + r4.2))))) else none
def f_X11_branched_0  (z : St) (o0 : Nat) (x1 : Int32) : Option (St × Int32) :=
  if x1 = 0 then f_X11_branched_4 z o0 else f_X11_branched_33 z o0
def f_X11_branched (z : St) (o0 : Nat) (x1 : Int32) : Option (St × Int32) := f_X11_branched_0 z o0 x1
def f_X11_branch_18  (z : St)  : Option (St × Int32) :=
  some (z, (-2))
def f_X11_branch_28  (z : St)  : Option (St × Int32) :=
  some (z, (-3))
def f_X11_branch_50  (z : St)  : Option (St × Int32) :=
  some (z, (-3))
def f_X11_branch_110  (z : St) (s0 : Int32) : Option (St × Int32) :=
  some (z, s0)
def f_X11_branch_91  (z : St) (x3 : Int32) : Option (St × Int32) :=
  f_X11_branch_110 z x3
def f_X11_branch_99  (z : St) (o0 : Nat) : Option (St × Int32) :=
  ((f_X11_greedily z o0).bind fun r1 => f_X11_branch_110 r1.1 r1.2)
def f_X11_branch_106  (z : St) (o0 : Nat) : Option (St × Int32) :=
  ((f_X11_breakingly z o0).bind fun r1 => f_X11_branch_110 r1.1 r1.2)
def f_X11_branch_95  (z : St) (o0 : Nat) (x2 : Int32) : Option (St × Int32) :=
  if x2 = 0 then f_X11_branch_99 z o0 else f_X11_branch_106 z o0
def f_X11_branch_86  (z : St) (o0 : Nat) (x2 : Int32) (x3 : Int32) : Option (St × Int32) :=
  if x2 = 2 then f_X11_branch_91 z x3 else f_X11_branch_95 z o0 x2
def f_X11_branch_63  (z : St) (o0 : Nat) (x2 : Int32) (x3 : Int32) : Option (St × Int32) :=
  if inb (z.1 o0 24) 8 = true then (f_X11_branch_86 (zI z (rf o0 15) (Int32.toNatClampNeg (z.1 o0 24)) x3) o0 x2 x3) else none
def f_X11_branch_76  (z : St) (o0 : Nat) (x2 : Int32) (x3 : Int32) : Option (St × Int32) :=
  if inb (z.1 o0 24) 8 = true then (f_X11_branch_86 (zI z (rf o0 13) (Int32.toNatClampNeg (z.1 o0 24)) x3) o0 x2 x3) else none
def f_X11_branch_53  (z : St) (o0 : Nat) (x1 : Int32) (x2 : Int32) : Option (St × Int32) :=
  ((f_X11_branched z o0 x1).bind fun r1 => if x1 = 0 then f_X11_branch_63 r1.1 o0 x2 r1.2 else f_X11_branch_76 r1.1 o0 x2 r1.2)
def f_X11_branch_31  (z : St) (o0 : Nat) (x1 : Int32) (x2 : Int32) : Option (St × Int32) :=
  ((f_X11_thinks z o0).bind fun r1 => ((f_X11_greedily r1 o0).bind fun r3 => ((f_X11_looks r3.1 o0 r3.2).bind fun r5 => if 0 ≤ (r5.1 o0 24) then f_X11_branch_53 r5 o0 x1 x2 else f_X11_branch_50 r5)))
def f_X11_branch_21  (z : St) (o0 : Nat) (x1 : Int32) (x2 : Int32) : Option (St × Int32) :=
  if (z.1 o0 5) = 0 then f_X11_branch_28 z else f_X11_branch_31 z o0 x1 x2
def f_X11_branch_9  (z : St) (o0 : Nat) (x1 : Int32) (x2 : Int32) : Option (St × Int32) :=
  ((f_X11_in z x2 0 2).bind fun r1 => if r1.2 = 0 then f_X11_branch_18 r1.1 else f_X11_branch_21 r1.1 o0 x1 x2)
def f_X11_branch_0  (z : St) (o0 : Nat) (x1 : Int32) (x2 : Int32) : Option (St × Int32) :=
  ((f_X11_in z x1 0 1).bind fun r1 => if r1.2 = 0 then f_X11_branch_18 r1.1 else f_X11_branch_9 r1.1 o0 x1 x2)
def f_X11_branch (z : St) (o0 : Nat) (x1 : Int32) (x2 : Int32) : Option (St × Int32) := f_X11_branch_0 z o0 x1 x2
def f_X11_boundOf_71 (K14 : St → Nat → Int32 → Int32 → Int32 → Int32 → Int32 → Option (St × Int32)) (z : St) (o0 : Nat) (x1 : Int32) (x2 : Int32) (x3 : Int32) (x4 : Int32) (x5 : Int32) : Option (St × Int32) :=
  K14 z o0 x1 x2 x3 x4 (x5 + 1)
def f_X11_boundOf_32 (K14 : St → Nat → Int32 → Int32 → Int32 → Int32 → Int32 → Option (St × Int32)) (z : St) (o0 : Nat) (x1 : Int32) (x2 : Int32) (x3 : Int32) (x4 : Int32) (x5 : Int32) : Option (St × Int32) :=
  f_X11_boundOf_71 K14 z o0 x1 x2 x3 x4 x5
def f_X11_boundOf_35 (K14 : St → Nat → Int32 → Int32 → Int32 → Int32 → Int32 → Option (St × Int32)) (z : St) (o0 : Nat) (x1 : Int32) (x2 : Int32) (x3 : Int32) (x4 : Int32) (x5 : Int32) : Option (St × Int32) :=
  if inb x5 8 = true then (if inb x5 8 = true then (if inb x5 8 = true then (f_X11_boundOf_71 K14 z o0 x1 (imin x2 (z.1 (rf o0 13) (Int32.toNatClampNeg x5))) (x3 + (z.1 (rf o0 14) (Int32.toNatClampNeg x5))) (imin x4 (z.1 (rf o0 15) (Int32.toNatClampNeg x5))) x5) else none) else none) else none
def f_X11_boundOf_23 (K14 : St → Nat → Int32 → Int32 → Int32 → Int32 → Int32 → Option (St × Int32)) (z : St) (o0 : Nat) (x1 : Int32) (x2 : Int32) (x3 : Int32) (x4 : Int32) (x5 : Int32) : Option (St × Int32) :=
  if ((x1 >>> (x5 &&& 31)) &&& 1) = 0 then f_X11_boundOf_32 K14 z o0 x1 x2 x3 x4 x5 else f_X11_boundOf_35 K14 z o0 x1 x2 x3 x4 x5
def f_X11_boundOf_77  (z : St) (x2 : Int32) (x3 : Int32) (x4 : Int32) : Option (St × Int32) :=
  some (z, (x2 + x3) + x4)
def f_X11_boundOf_14  : Nat → St → Nat → Int32 → Int32 → Int32 → Int32 → Int32 → Option (St × Int32)
  | 0, _, _, _, _, _, _, _ => none
  | n + 1, z, o0, x1, x2, x3, x4, x5 => if (z.1 o0 5) ≤ x5 then f_X11_boundOf_77 z x2 x3 x4 else f_X11_boundOf_23 (f_X11_boundOf_14 n) z o0 x1 x2 x3 x4 x5
def f_X11_boundOf_0  (z : St) (o0 : Nat) (x1 : Int32) : Option (St × Int32) :=
  f_X11_boundOf_14 FU z o0 x1 999 0 999 0
def f_X11_boundOf (z : St) (o0 : Nat) (x1 : Int32) : Option (St × Int32) := f_X11_boundOf_0 z o0 x1
def f_X11_bound_16  (z : St)  : Option (St × Int32) :=
  some (z, (-2))
def f_X11_bound_19  (z : St) (o0 : Nat) (x1 : Int32) : Option (St × Int32) :=
  ((f_X11_thinks z o0).bind fun r1 => ((f_X11_boundOf r1 o0 x1).bind fun r3 => some (r3.1, r3.2)))
def f_X11_bound_0  (z : St) (o0 : Nat) (x1 : Int32) : Option (St × Int32) :=
  ((f_X11_in z x1 1 (((1 : Int32) <<< ((z.1 o0 5) &&& 31)) - 1)).bind fun r1 => if r1.2 = 0 then f_X11_bound_16 r1.1 else f_X11_bound_19 r1.1 o0 x1)
def f_X11_bound (z : St) (o0 : Nat) (x1 : Int32) : Option (St × Int32) := f_X11_bound_0 z o0 x1
def f_X11_many_8 (K4 : St → Int32 → Int32 → Option (St × Int32)) (z : St) (x1 : Int32) (x2 : Int32) : Option (St × Int32) :=
  K4 z (x1 + 1) (x2 &&& (x2 - 1))
def f_X11_many_20  (z : St) (x1 : Int32) : Option (St × Int32) :=
  some (z, x1)
def f_X11_many_4  : Nat → St → Int32 → Int32 → Option (St × Int32)
  | 0, _, _, _ => none
  | n + 1, z, x1, x2 => if x2 = 0 then f_X11_many_20 z x1 else f_X11_many_8 (f_X11_many_4 n) z x1 x2
def f_X11_many_0  (z : St) (x0 : Int32) : Option (St × Int32) :=
  f_X11_many_4 FU z 0 x0
def f_X11_many (z : St) (x0 : Int32) : Option (St × Int32) := f_X11_many_0 z x0
def f_X11_strongest_9  (z : St)  : Option (St × Int32) :=
  some (z, (-2))
def f_X11_strongest_19  (z : St)  : Option (St × Int32) :=
  some (z, (-3))
def f_X11_strongest_86 (K37 : St → Nat → Int32 → Int32 → Int32 → Int32 → Option (St × Int32)) (z : St) (o0 : Nat) (x1 : Int32) (x2 : Int32) (x3 : Int32) (x4 : Int32) : Option (St × Int32) :=
  K37 z o0 x1 x2 x3 (x4 + 1)
def f_X11_strongest_80 (K37 : St → Nat → Int32 → Int32 → Int32 → Int32 → Option (St × Int32)) (z : St) (o0 : Nat) (x1 : Int32) (x4 : Int32) (x5 : Int32) : Option (St × Int32) :=
  f_X11_strongest_86 K37 z o0 x1 x4 x5 x4
def f_X11_strongest_68 (K37 : St → Nat → Int32 → Int32 → Int32 → Int32 → Option (St × Int32)) (z : St) (o0 : Nat) (x1 : Int32) (x2 : Int32) (x3 : Int32) (x4 : Int32) (x5 : Int32) : Option (St × Int32) :=
  ((f_X11_many z x4).bind fun r1 => ((f_X11_many r1.1 x2).bind fun r3 => if r3.2 ≤ r1.2 then f_X11_strongest_86 K37 r3.1 o0 x1 x2 x3 x4 else f_X11_strongest_80 K37 r3.1 o0 x1 x4 x5))
def f_X11_strongest_62 (K37 : St → Nat → Int32 → Int32 → Int32 → Int32 → Option (St × Int32)) (z : St) (o0 : Nat) (x1 : Int32) (x2 : Int32) (x3 : Int32) (x4 : Int32) (x5 : Int32) : Option (St × Int32) :=
  if x5 = x3 then f_X11_strongest_68 K37 z o0 x1 x2 x3 x4 x5 else f_X11_strongest_86 K37 z o0 x1 x2 x3 x4
def f_X11_strongest_48 (K37 : St → Nat → Int32 → Int32 → Int32 → Int32 → Option (St × Int32)) (z : St) (o0 : Nat) (x1 : Int32) (x2 : Int32) (x3 : Int32) (x4 : Int32) : Option (St × Int32) :=
  ((f_X11_boundOf z o0 x4).bind fun r1 => if x3 < r1.2 then f_X11_strongest_80 K37 r1.1 o0 x1 x4 r1.2 else f_X11_strongest_62 K37 r1.1 o0 x1 x2 x3 x4 r1.2)
def f_X11_strongest_101  (z : St) (s0 : Int32) : Option (St × Int32) :=
  some (z, s0)
def f_X11_strongest_96  (z : St) (x2 : Int32) : Option (St × Int32) :=
  f_X11_strongest_101 z x2
def f_X11_strongest_100  (z : St) (x3 : Int32) : Option (St × Int32) :=
  f_X11_strongest_101 z x3
def f_X11_strongest_92  (z : St) (x1 : Int32) (x2 : Int32) (x3 : Int32) : Option (St × Int32) :=
  if x1 = 0 then f_X11_strongest_96 z x2 else f_X11_strongest_100 z x3
def f_X11_strongest_37  : Nat → St → Nat → Int32 → Int32 → Int32 → Int32 → Option (St × Int32)
  | 0, _, _, _, _, _, _ => none
  | n + 1, z, o0, x1, x2, x3, x4 => if ((1 : Int32) <<< ((z.1 o0 5) &&& 31)) ≤ x4 then f_X11_strongest_92 z x1 x2 x3 else f_X11_strongest_48 (f_X11_strongest_37 n) z o0 x1 x2 x3 x4
def f_X11_strongest_22  (z : St) (o0 : Nat) (x1 : Int32) : Option (St × Int32) :=
  ((f_X11_thinks z o0).bind fun r1 => ((f_X11_boundOf r1 o0 1).bind fun r3 => f_X11_strongest_37 FU r3.1 o0 x1 1 r3.2 2))
def f_X11_strongest_12  (z : St) (o0 : Nat) (x1 : Int32) : Option (St × Int32) :=
  if (z.1 o0 5) = 0 then f_X11_strongest_19 z else f_X11_strongest_22 z o0 x1
def f_X11_strongest_0  (z : St) (o0 : Nat) (x1 : Int32) : Option (St × Int32) :=
  ((f_X11_in z x1 0 1).bind fun r1 => if r1.2 = 0 then f_X11_strongest_9 r1.1 else f_X11_strongest_12 r1.1 o0 x1)
def f_X11_strongest (z : St) (o0 : Nat) (x1 : Int32) : Option (St × Int32) := f_X11_strongest_0 z o0 x1
def f_X11_visits_154  (z : St)  : Option (St) :=
  some z
def f_X11_visits_90  (z : St) (o0 : Nat) : Option (St) :=
  if inb (z.1 o0 24) 8 = true then (if inb (z.1 o0 30) 400 = true then (if inb ((zI z (rf o0 33) (Int32.toNatClampNeg (z.1 o0 30)) (z.1 (rf o0 15) (Int32.toNatClampNeg (z.1 o0 24)))).1 o0 24) 8 = true then (if inb ((zI z (rf o0 33) (Int32.toNatClampNeg (z.1 o0 30)) (z.1 (rf o0 15) (Int32.toNatClampNeg (z.1 o0 24)))).1 o0 30) 400 = true then (((f_X11_branched (zI (zI z (rf o0 33) (Int32.toNatClampNeg (z.1 o0 30)) (z.1 (rf o0 15) (Int32.toNatClampNeg (z.1 o0 24)))) (rf o0 34) (Int32.toNatClampNeg ((zI z (rf o0 33) (Int32.toNatClampNeg (z.1 o0 30)) (z.1 (rf o0 15) (Int32.toNatClampNeg (z.1 o0 24)))).1 o0 30)) ((zI z (rf o0 33) (Int32.toNatClampNeg (z.1 o0 30)) (z.1 (rf o0 15) (Int32.toNatClampNeg (z.1 o0 24)))).1 (rf o0 13) (Int32.toNatClampNeg ((zI z (rf o0 33) (Int32.toNatClampNeg (z.1 o0 30)) (z.1 (rf o0 15) (Int32.toNatClampNeg (z.1 o0 24)))).1 o0 24)))) o0 0).bind fun r5 => if inb ((zI (zI z (rf o0 33) (Int32.toNatClampNeg (z.1 o0 30)) (z.1 (rf o0 15) (Int32.toNatClampNeg (z.1 o0 24)))) (rf o0 34) (Int32.toNatClampNeg ((zI z (rf o0 33) (Int32.toNatClampNeg (z.1 o0 30)) (z.1 (rf o0 15) (Int32.toNatClampNeg (z.1 o0 24)))).1 o0 30)) ((zI z (rf o0 33) (Int32.toNatClampNeg (z.1 o0 30)) (z.1 (rf o0 15) (Int32.toNatClampNeg (z.1 o0 24)))).1 (rf o0 13) (Int32.toNatClampNeg ((zI z (rf o0 33) (Int32.toNatClampNeg (z.1 o0 30)) (z.1 (rf o0 15) (Int32.toNatClampNeg (z.1 o0 24)))).1 o0 24)))).1 o0 30) 400 = true then (((f_X11_branched (zI r5.1 (rf o0 35) (Int32.toNatClampNeg ((zI (zI z (rf o0 33) (Int32.toNatClampNeg (z.1 o0 30)) (z.1 (rf o0 15) (Int32.toNatClampNeg (z.1 o0 24)))) (rf o0 34) (Int32.toNatClampNeg ((zI z (rf o0 33) (Int32.toNatClampNeg (z.1 o0 30)) (z.1 (rf o0 15) (Int32.toNatClampNeg (z.1 o0 24)))).1 o0 30)) ((zI z (rf o0 33) (Int32.toNatClampNeg (z.1 o0 30)) (z.1 (rf o0 15) (Int32.toNatClampNeg (z.1 o0 24)))).1 (rf o0 13) (Int32.toNatClampNeg ((zI z (rf o0 33) (Int32.toNatClampNeg (z.1 o0 30)) (z.1 (rf o0 15) (Int32.toNatClampNeg (z.1 o0 24)))).1 o0 24)))).1 o0 30)) r5.2) o0 1).bind fun r8 => if inb ((zI r5.1 (rf o0 35) (Int32.toNatClampNeg ((zI (zI z (rf o0 33) (Int32.toNatClampNeg (z.1 o0 30)) (z.1 (rf o0 15) (Int32.toNatClampNeg (z.1 o0 24)))) (rf o0 34) (Int32.toNatClampNeg ((zI z (rf o0 33) (Int32.toNatClampNeg (z.1 o0 30)) (z.1 (rf o0 15) (Int32.toNatClampNeg (z.1 o0 24)))).1 o0 30)) ((zI z (rf o0 33) (Int32.toNatClampNeg (z.1 o0 30)) (z.1 (rf o0 15) (Int32.toNatClampNeg (z.1 o0 24)))).1 (rf o0 13) (Int32.toNatClampNeg ((zI z (rf o0 33) (Int32.toNatClampNeg (z.1 o0 30)) (z.1 (rf o0 15) (Int32.toNatClampNeg (z.1 o0 24)))).1 o0 24)))).1 o0 30)) r5.2).1 o0 30) 400 = true then (f_X11_visits_154 (zI r8.1 (rf o0 36) (Int32.toNatClampNeg ((zI r5.1 (rf o0 35) (Int32.toNatClampNeg ((zI (zI z (rf o0 33) (Int32.toNatClampNeg (z.1 o0 30)) (z.1 (rf o0 15) (Int32.toNatClampNeg (z.1 o0 24)))) (rf o0 34) (Int32.toNatClampNeg ((zI z (rf o0 33) (Int32.toNatClampNeg (z.1 o0 30)) (z.1 (rf o0 15) (Int32.toNatClampNeg (z.1 o0 24)))).1 o0 30)) ((zI z (rf o0 33) (Int32.toNatClampNeg (z.1 o0 30)) (z.1 (rf o0 15) (Int32.toNatClampNeg (z.1 o0 24)))).1 (rf o0 13) (Int32.toNatClampNeg ((zI z (rf o0 33) (Int32.toNatClampNeg (z.1 o0 30)) (z.1 (rf o0 15) (Int32.toNatClampNeg (z.1 o0 24)))).1 o0 24)))).1 o0 30)) r5.2).1 o0 30)) r8.2)) else none)) else none)) else none) else none) else none) else none
def f_X11_visits_60  (z : St) (o0 : Nat) : Option (St) :=
  if inb (z.1 o0 30) 400 = true then (if inb ((zI z (rf o0 31) (Int32.toNatClampNeg (z.1 o0 30)) (z.1 o0 24)).1 o0 30) 400 = true then (if ((zI (zI z (rf o0 31) (Int32.toNatClampNeg (z.1 o0 30)) (z.1 o0 24)) (rf o0 32) (Int32.toNatClampNeg ((zI z (rf o0 31) (Int32.toNatClampNeg (z.1 o0 30)) (z.1 o0 24)).1 o0 30)) 0).1 o0 24) < 0 then f_X11_visits_154 (zI (zI z (rf o0 31) (Int32.toNatClampNeg (z.1 o0 30)) (z.1 o0 24)) (rf o0 32) (Int32.toNatClampNeg ((zI z (rf o0 31) (Int32.toNatClampNeg (z.1 o0 30)) (z.1 o0 24)).1 o0 30)) 0) else f_X11_visits_90 (zI (zI z (rf o0 31) (Int32.toNatClampNeg (z.1 o0 30)) (z.1 o0 24)) (rf o0 32) (Int32.toNatClampNeg ((zI z (rf o0 31) (Int32.toNatClampNeg (z.1 o0 30)) (z.1 o0 24)).1 o0 30)) 0) o0) else none) else none
def f_X11_visits_55  (z : St) (o0 : Nat) (x1 : Int32) : Option (St) :=
  ((f_X11_looks z o0 x1).bind fun r1 => f_X11_visits_60 r1 o0)
def f_X11_visits_43  (z : St) (o0 : Nat) (x1 : Int32) : Option (St) :=
  if ((zI z o0 24 ((-1))).1 o0 5) ≤ 0 then f_X11_visits_60 (zI z o0 24 ((-1))) o0 else f_X11_visits_55 (zI z o0 24 ((-1))) o0 x1
def f_X11_visits_30  (z : St) (o0 : Nat) (x1 : Int32) : Option (St) :=
  f_X11_visits_43 (zI (zI z o0 27 x1) o0 29 ((zI z o0 27 x1).1 o0 28)) o0 x1
def f_X11_visits_22  (z : St) (o0 : Nat) (x1 : Int32) : Option (St) :=
  if (z.1 o0 27) ≤ x1 then f_X11_visits_43 z o0 x1 else f_X11_visits_30 z o0 x1
def f_X11_visits_0  (z : St) (o0 : Nat) : Option (St) :=
  ((f_X11_greedily (zI z o0 28 ((z.1 o0 28) + 1)) o0).bind fun r1 => if (r1.1.1 o0 27) < 0 then f_X11_visits_30 r1.1 o0 r1.2 else f_X11_visits_22 r1.1 o0 r1.2)
def f_X11_visits (z : St) (o0 : Nat) : Option (St) := f_X11_visits_0 z o0
def f_X11_follows_25  (z : St)  : Option (St) :=
  some z
def f_X11_follows_11  (z : St) (o0 : Nat) : Option (St) :=
  ((f_X11_visits (zI z o0 30 ((z.1 o0 30) + 1)) o0).bind fun r1 => f_X11_follows_25 r1)
def f_X11_follows_0  (z : St) (o0 : Nat) : Option (St) :=
  ((f_X11_breakingly z o0).bind fun r1 => if (r1.1.1 o0 27) ≤ r1.2 then f_X11_follows_25 r1.1 else f_X11_follows_11 r1.1 o0)
def f_X11_follows (z : St) (o0 : Nat) : Option (St) := f_X11_follows_0 z o0
def f_X11_search_164 (K23 : St → Nat → Option (St)) (z : St) (o0 : Nat) : Option (St) :=
  K23 z o0
def f_X11_search_46 (K23 : St → Nat → Option (St)) (z : St) (o0 : Nat) : Option (St) :=
  f_X11_search_164 K23 (zI z o0 30 ((z.1 o0 30) - 1)) o0
def f_X11_search_68 (K23 : St → Nat → Option (St)) (z : St) (o0 : Nat) (x1 : Int32) (x2 : Int32) : Option (St) :=
  if inb x1 400 = true then (if inb x1 400 = true then (if inb x2 8 = true then (((f_X11_follows (zI (zI z (rf o0 32) (Int32.toNatClampNeg x1) 1) (rf o0 15) (Int32.toNatClampNeg x2) ((zI z (rf o0 32) (Int32.toNatClampNeg x1) 1).1 (rf o0 35) (Int32.toNatClampNeg x1))) o0).bind fun r4 => f_X11_search_164 K23 r4 o0)) else none) else none) else none
def f_X11_search_104 (K23 : St → Nat → Option (St)) (z : St) (o0 : Nat) (x1 : Int32) (x2 : Int32) : Option (St) :=
  if inb x1 400 = true then (if inb x1 400 = true then (if inb x2 8 = true then (if inb x1 400 = true then (if inb x2 8 = true then (((f_X11_follows (zI (zI (zI z (rf o0 32) (Int32.toNatClampNeg x1) 2) (rf o0 15) (Int32.toNatClampNeg x2) ((zI z (rf o0 32) (Int32.toNatClampNeg x1) 2).1 (rf o0 33) (Int32.toNatClampNeg x1))) (rf o0 13) (Int32.toNatClampNeg x2) ((zI (zI z (rf o0 32) (Int32.toNatClampNeg x1) 2) (rf o0 15) (Int32.toNatClampNeg x2) ((zI z (rf o0 32) (Int32.toNatClampNeg x1) 2).1 (rf o0 33) (Int32.toNatClampNeg x1))).1 (rf o0 36) (Int32.toNatClampNeg x1))) o0).bind fun r6 => f_X11_search_164 K23 r6 o0)) else none) else none) else none) else none) else none
def f_X11_search_142 (K23 : St → Nat → Option (St)) (z : St) (o0 : Nat) (x1 : Int32) (x2 : Int32) : Option (St) :=
  if inb x1 400 = true then (if inb x2 8 = true then (f_X11_search_164 K23 (zI (zI z (rf o0 13) (Int32.toNatClampNeg x2) (z.1 (rf o0 34) (Int32.toNatClampNeg x1))) o0 30 (((zI z (rf o0 13) (Int32.toNatClampNeg x2) (z.1 (rf o0 34) (Int32.toNatClampNeg x1))).1 o0 30) - 1)) o0) else none) else none
def f_X11_search_94 (K23 : St → Nat → Option (St)) (z : St) (o0 : Nat) (x1 : Int32) (x2 : Int32) : Option (St) :=
  if inb x1 400 = true then (if (z.1 (rf o0 32) (Int32.toNatClampNeg x1)) = 1 then f_X11_search_104 K23 z o0 x1 x2 else f_X11_search_142 K23 z o0 x1 x2) else none
def f_X11_search_59 (K23 : St → Nat → Option (St)) (z : St) (o0 : Nat) (x1 : Int32) (x2 : Int32) : Option (St) :=
  if inb x1 400 = true then (if (z.1 (rf o0 32) (Int32.toNatClampNeg x1)) = 0 then f_X11_search_68 K23 z o0 x1 x2 else f_X11_search_94 K23 z o0 x1 x2) else none
def f_X11_search_30 (K23 : St → Nat → Option (St)) (z : St) (o0 : Nat) : Option (St) :=
  if inb (z.1 o0 30) 400 = true then (if 0 ≤ (z.1 (rf o0 31) (Int32.toNatClampNeg (z.1 o0 30))) then f_X11_search_59 K23 z o0 (z.1 o0 30) (z.1 (rf o0 31) (Int32.toNatClampNeg (z.1 o0 30))) else f_X11_search_46 K23 z o0) else none
def f_X11_search_167  (z : St)  : Option (St) :=
  some z
def f_X11_search_23  : Nat → St → Nat → Option (St)
  | 0, _, _ => none
  | n + 1, z, o0 => if (z.1 o0 30) < 0 then f_X11_search_167 z else f_X11_search_30 (f_X11_search_23 n) z o0
def f_X11_search_0  (z : St) (o0 : Nat) : Option (St) :=
  ((f_X11_thinks z o0).bind fun r1 => ((f_X11_visits (zI (zI (zI r1 o0 27 ((-1))) o0 28 0) o0 30 0) o0).bind fun r3 => f_X11_search_23 FU r3 o0))
def f_X11_search (z : St) (o0 : Nat) : Option (St) := f_X11_search_0 z o0
def f_X11_least_9  (z : St)  : Option (St × Int32) :=
  some (z, (-2))
def f_X11_least_43  (z : St) (s0 : Int32) : Option (St × Int32) :=
  some (z, s0)
def f_X11_least_20  (z : St) (o0 : Nat) : Option (St × Int32) :=
  f_X11_least_43 z (z.1 o0 27)
def f_X11_least_32  (z : St) (o0 : Nat) : Option (St × Int32) :=
  f_X11_least_43 z (z.1 o0 28)
def f_X11_least_39  (z : St) (o0 : Nat) : Option (St × Int32) :=
  f_X11_least_43 z (z.1 o0 29)
def f_X11_least_27  (z : St) (o0 : Nat) (x1 : Int32) : Option (St × Int32) :=
  if x1 = 1 then f_X11_least_32 z o0 else f_X11_least_39 z o0
def f_X11_least_12  (z : St) (o0 : Nat) (x1 : Int32) : Option (St × Int32) :=
  ((f_X11_search z o0).bind fun r1 => if x1 = 0 then f_X11_least_20 r1 o0 else f_X11_least_27 r1 o0 x1)
def f_X11_least_0  (z : St) (o0 : Nat) (x1 : Int32) : Option (St × Int32) :=
  ((f_X11_in z x1 0 2).bind fun r1 => if r1.2 = 0 then f_X11_least_9 r1.1 else f_X11_least_12 r1.1 o0 x1)
def f_X11_least (z : St) (o0 : Nat) (x1 : Int32) : Option (St × Int32) := f_X11_least_0 z o0 x1
def f_X11_lates_103 (K11 : St → Nat → Int32 → Int32 → Option (St)) (K26 : St → Nat → Int32 → Int32 → Int32 → Int32 → Option (St)) (z : St) (o0 : Nat) (x1 : Int32) (x2 : Int32) (x3 : Int32) (x4 : Int32) : Option (St) :=
  K26 z o0 x1 x2 x3 (x4 + 1)
def f_X11_lates_44 (K11 : St → Nat → Int32 → Int32 → Option (St)) (K26 : St → Nat → Int32 → Int32 → Int32 → Int32 → Option (St)) (z : St) (o0 : Nat) (x1 : Int32) (x2 : Int32) (x3 : Int32) (x4 : Int32) : Option (St) :=
  f_X11_lates_103 K11 K26 z o0 x1 x2 x3 x4
def f_X11_lates_102 (K11 : St → Nat → Int32 → Int32 → Option (St)) (K26 : St → Nat → Int32 → Int32 → Int32 → Int32 → Option (St)) (z : St) (o0 : Nat) (x1 : Int32) (x2 : Int32) (x4 : Int32) (s0 : Int32) : Option (St) :=
  f_X11_lates_103 K11 K26 z o0 x1 x2 s0 x4
def f_X11_lates_92 (K11 : St → Nat → Int32 → Int32 → Option (St)) (K26 : St → Nat → Int32 → Int32 → Int32 → Int32 → Option (St)) (z : St) (o0 : Nat) (x1 : Int32) (x2 : Int32) (x3 : Int32) (x4 : Int32) (x5 : Int32) : Option (St) :=
  f_X11_lates_102 K11 K26 z o0 x1 x2 x4 (imax x3 x5)
def f_X11_lates_101 (K11 : St → Nat → Int32 → Int32 → Option (St)) (K26 : St → Nat → Int32 → Int32 → Int32 → Int32 → Option (St)) (z : St) (o0 : Nat) (x1 : Int32) (x2 : Int32) (x3 : Int32) (x4 : Int32) : Option (St) :=
  f_X11_lates_102 K11 K26 z o0 x1 x2 x4 x3
def f_X11_lates_47 (K11 : St → Nat → Int32 → Int32 → Option (St)) (K26 : St → Nat → Int32 → Int32 → Int32 → Int32 → Option (St)) (z : St) (o0 : Nat) (x1 : Int32) (x2 : Int32) (x3 : Int32) (x4 : Int32) : Option (St) :=
  if inb x4 8 = true then (if inb (x2 ^^^ ((1 : Int32) <<< (x4 &&& 31))) 256 = true then (if inb x4 8 = true then (if inb x4 8 = true then (if ((imin (x1 - (z.1 (rf o0 15) (Int32.toNatClampNeg x4))) (z.1 (rf o0 37) (Int32.toNatClampNeg (x2 ^^^ ((1 : Int32) <<< (x4 &&& 31)))))) - (z.1 (rf o0 14) (Int32.toNatClampNeg x4))) < (z.1 (rf o0 13) (Int32.toNatClampNeg x4)) then f_X11_lates_101 K11 K26 z o0 x1 x2 x3 x4 else f_X11_lates_92 K11 K26 z o0 x1 x2 x3 x4 ((imin (x1 - (z.1 (rf o0 15) (Int32.toNatClampNeg x4))) (z.1 (rf o0 37) (Int32.toNatClampNeg (x2 ^^^ ((1 : Int32) <<< (x4 &&& 31)))))) - (z.1 (rf o0 14) (Int32.toNatClampNeg x4)))) else none) else none) else none) else none
def f_X11_lates_35 (K11 : St → Nat → Int32 → Int32 → Option (St)) (K26 : St → Nat → Int32 → Int32 → Int32 → Int32 → Option (St)) (z : St) (o0 : Nat) (x1 : Int32) (x2 : Int32) (x3 : Int32) (x4 : Int32) : Option (St) :=
  if ((x2 >>> (x4 &&& 31)) &&& 1) = 0 then f_X11_lates_44 K11 K26 z o0 x1 x2 x3 x4 else f_X11_lates_47 K11 K26 z o0 x1 x2 x3 x4
def f_X11_lates_109 (K11 : St → Nat → Int32 → Int32 → Option (St)) (z : St) (o0 : Nat) (x1 : Int32) (x2 : Int32) (x3 : Int32) : Option (St) :=
  if inb x2 256 = true then (K11 (zI z (rf o0 37) (Int32.toNatClampNeg x2) x3) o0 x1 (x2 + 1)) else none
def f_X11_lates_26 (K11 : St → Nat → Int32 → Int32 → Option (St)) : Nat → St → Nat → Int32 → Int32 → Int32 → Int32 → Option (St)
  | 0, _, _, _, _, _, _ => none
  | n + 1, z, o0, x1, x2, x3, x4 => if (z.1 o0 5) ≤ x4 then f_X11_lates_109 K11 z o0 x1 x2 x3 else f_X11_lates_35 K11 (f_X11_lates_26 K11 n) z o0 x1 x2 x3 x4
def f_X11_lates_21 (K11 : St → Nat → Int32 → Int32 → Option (St)) (z : St) (o0 : Nat) (x1 : Int32) (x2 : Int32) : Option (St) :=
  f_X11_lates_26 K11 FU z o0 x1 x2 ((-1)) 0
def f_X11_lates_122  (z : St)  : Option (St) :=
  some z
def f_X11_lates_11  : Nat → St → Nat → Int32 → Int32 → Option (St)
  | 0, _, _, _, _ => none
  | n + 1, z, o0, x1, x2 => if ((1 : Int32) <<< ((z.1 o0 5) &&& 31)) ≤ x2 then f_X11_lates_122 z else f_X11_lates_21 (f_X11_lates_11 n) z o0 x1 x2
def f_X11_lates_0  (z : St) (o0 : Nat) (x1 : Int32) : Option (St) :=
  if inb 0 256 = true then (f_X11_lates_11 FU (zI z (rf o0 37) (Int32.toNatClampNeg 0) 999) o0 x1 1) else none
def f_X11_lates (z : St) (o0 : Nat) (x1 : Int32) : Option (St) := f_X11_lates_0 z o0 x1
def f_X11_fits_19  (z : St) (s0 : Int32) : Option (St × Int32) :=
  if zb s0 = true then some (z, s0) else none
def f_X11_fits_14  (z : St)  : Option (St × Int32) :=
  f_X11_fits_19 z 1
def f_X11_fits_18  (z : St)  : Option (St × Int32) :=
  f_X11_fits_19 z 0
def f_X11_fits_0  (z : St) (o0 : Nat) (x1 : Int32) (x2 : Int32) : Option (St × Int32) :=
  ((f_X11_lates z o0 x2).bind fun r1 => if inb x1 256 = true then (if (r1.1 (rf o0 37) (Int32.toNatClampNeg x1)) < 0 then f_X11_fits_18 r1 else f_X11_fits_14 r1) else none)
def f_X11_fits (z : St) (o0 : Nat) (x1 : Int32) (x2 : Int32) : Option (St × Int32) := f_X11_fits_0 z o0 x1 x2
def f_X11_leastOf_41 (K5 : St → Nat → Int32 → Int32 → Int32 → Option (St × Int32)) (z : St) (o0 : Nat) (x1 : Int32) (x3 : Int32) (x4 : Int32) : Option (St × Int32) :=
  K5 z o0 x1 x3 x4
def f_X11_leastOf_31 (K5 : St → Nat → Int32 → Int32 → Int32 → Option (St × Int32)) (z : St) (o0 : Nat) (x1 : Int32) (x3 : Int32) (x5 : Int32) : Option (St × Int32) :=
  f_X11_leastOf_41 K5 z o0 x1 x3 x5
def f_X11_leastOf_38 (K5 : St → Nat → Int32 → Int32 → Int32 → Option (St × Int32)) (z : St) (o0 : Nat) (x1 : Int32) (x4 : Int32) (x5 : Int32) : Option (St × Int32) :=
  f_X11_leastOf_41 K5 z o0 x1 x5 x4
def f_X11_leastOf_13 (K5 : St → Nat → Int32 → Int32 → Int32 → Option (St × Int32)) (z : St) (o0 : Nat) (x1 : Int32) (x3 : Int32) (x4 : Int32) : Option (St × Int32) :=
  ((f_X11_fits z o0 x1 ((x3 + x4) / 2)).bind fun r1 => if r1.2 = 0 then f_X11_leastOf_38 K5 r1.1 o0 x1 x4 ((x3 + x4) / 2) else f_X11_leastOf_31 K5 r1.1 o0 x1 x3 ((x3 + x4) / 2))
def f_X11_leastOf_54  (z : St) (s0 : Int32) : Option (St × Int32) :=
  some (z, s0)
def f_X11_leastOf_48  (z : St)  : Option (St × Int32) :=
  f_X11_leastOf_54 z 0
def f_X11_leastOf_52  (z : St) (x4 : Int32) : Option (St × Int32) :=
  f_X11_leastOf_54 z x4
def f_X11_leastOf_44  (z : St) (x1 : Int32) (x4 : Int32) : Option (St × Int32) :=
  if x1 = 0 then f_X11_leastOf_48 z else f_X11_leastOf_52 z x4
def f_X11_leastOf_5  : Nat → St → Nat → Int32 → Int32 → Int32 → Option (St × Int32)
  | 0, _, _, _, _, _ => none
  | n + 1, z, o0, x1, x3, x4 => if x4 ≤ (x3 + 1) then f_X11_leastOf_44 z x1 x4 else f_X11_leastOf_13 (f_X11_leastOf_5 n) z o0 x1 x3 x4
def f_X11_leastOf_0  (z : St) (o0 : Nat) (x1 : Int32) (x2 : Int32) : Option (St × Int32) :=
  f_X11_leastOf_5 FU z o0 x1 ((-1)) x2
def f_X11_leastOf (z : St) (o0 : Nat) (x1 : Int32) (x2 : Int32) : Option (St × Int32) := f_X11_leastOf_0 z o0 x1 x2
def f_X11_all_0  (z : St) (o0 : Nat) : Option (St × Int32) :=
  some (z, ((1 : Int32) <<< ((z.1 o0 5) &&& 31)) - 1)
def f_X11_all (z : St) (o0 : Nat) : Option (St × Int32) := f_X11_all_0 z o0
def f_X11_leastNow_0  (z : St) (o0 : Nat) : Option (St × Int32) :=
  ((f_X11_all z o0).bind fun r1 => ((f_X11_greedily r1.1 o0).bind fun r3 => ((f_X11_leastOf r3.1 o0 r1.2 r3.2).bind fun r5 => some (r5.1, r5.2))))
def f_X11_leastNow (z : St) (o0 : Nat) : Option (St × Int32) := f_X11_leastNow_0 z o0
def f_X11_spreads_110 (K3 : St → Nat → Int32 → Int32 → Int32 → Int32 → Option (St)) (z : St) (o0 : Nat) (x1 : Int32) (x2 : Int32) (x3 : Int32) (x4 : Int32) : Option (St) :=
  K3 z o0 x1 x2 x3 (x4 + 1)
def f_X11_spreads_22 (K3 : St → Nat → Int32 → Int32 → Int32 → Int32 → Option (St)) (z : St) (o0 : Nat) (x1 : Int32) (x2 : Int32) (x3 : Int32) (x4 : Int32) : Option (St) :=
  f_X11_spreads_110 K3 z o0 x1 x2 x3 x4
def f_X11_spreads_75 (K3 : St → Nat → Int32 → Int32 → Int32 → Int32 → Option (St)) (z : St) (o0 : Nat) (x1 : Int32) (x2 : Int32) (x3 : Int32) (x4 : Int32) (x5 : Int32) (x6 : Int32) : Option (St) :=
  if inb x6 256 = true then (if inb (((64 * x6) + x5) - (z.1 (rf o0 39) (Int32.toNatClampNeg x6))) 16384 = true then (if inb ((64 * x1) + x2) 16384 = true then (if inb (((64 * x6) + x5) - (z.1 (rf o0 39) (Int32.toNatClampNeg x6))) 16384 = true then (f_X11_spreads_110 K3 (zI z (rf o0 40) (Int32.toNatClampNeg (((64 * x6) + x5) - (z.1 (rf o0 39) (Int32.toNatClampNeg x6)))) ((z.1 (rf o0 40) (Int32.toNatClampNeg (((64 * x6) + x5) - (z.1 (rf o0 39) (Int32.toNatClampNeg x6))))) + (z.1 (rf o0 40) (Int32.toNatClampNeg ((64 * x1) + x2))))) o0 x1 x2 x3 x4) else none) else none) else none) else none
def f_X11_spreads_25 (K3 : St → Nat → Int32 → Int32 → Int32 → Int32 → Option (St)) (z : St) (o0 : Nat) (x1 : Int32) (x2 : Int32) (x3 : Int32) (x4 : Int32) : Option (St) :=
  if inb x1 256 = true then (if inb x4 8 = true then (if inb x4 8 = true then (if inb x4 8 = true then (if x3 < (((imax ((z.1 (rf o0 39) (Int32.toNatClampNeg x1)) + x2) (z.1 (rf o0 13) (Int32.toNatClampNeg x4))) + (z.1 (rf o0 14) (Int32.toNatClampNeg x4))) + (z.1 (rf o0 15) (Int32.toNatClampNeg x4))) then f_X11_spreads_110 K3 z o0 x1 x2 x3 x4 else f_X11_spreads_75 K3 z o0 x1 x2 x3 x4 ((imax ((z.1 (rf o0 39) (Int32.toNatClampNeg x1)) + x2) (z.1 (rf o0 13) (Int32.toNatClampNeg x4))) + (z.1 (rf o0 14) (Int32.toNatClampNeg x4))) (x1 ||| ((1 : Int32) <<< (x4 &&& 31)))) else none) else none) else none) else none
def f_X11_spreads_12 (K3 : St → Nat → Int32 → Int32 → Int32 → Int32 → Option (St)) (z : St) (o0 : Nat) (x1 : Int32) (x2 : Int32) (x3 : Int32) (x4 : Int32) : Option (St) :=
  if ((x1 >>> (x4 &&& 31)) &&& 1) = 1 then f_X11_spreads_22 K3 z o0 x1 x2 x3 x4 else f_X11_spreads_25 K3 z o0 x1 x2 x3 x4
def f_X11_spreads_116  (z : St)  : Option (St) :=
  some z
def f_X11_spreads_3  : Nat → St → Nat → Int32 → Int32 → Int32 → Int32 → Option (St)
  | 0, _, _, _, _, _, _ => none
  | n + 1, z, o0, x1, x2, x3, x4 => if (z.1 o0 5) ≤ x4 then f_X11_spreads_116 z else f_X11_spreads_12 (f_X11_spreads_3 n) z o0 x1 x2 x3 x4
def f_X11_spreads_0  (z : St) (o0 : Nat) (x1 : Int32) (x2 : Int32) (x3 : Int32) : Option (St) :=
  f_X11_spreads_3 FU z o0 x1 x2 x3 0
def f_X11_spreads (z : St) (o0 : Nat) (x1 : Int32) (x2 : Int32) (x3 : Int32) : Option (St) := f_X11_spreads_0 z o0 x1 x2 x3
def f_X11_many__62 (K11 : St → Nat → Int32 → Int32 → Option (St × Int32)) (K28 : St → Nat → Int32 → Int32 → Int32 → Option (St × Int32)) (z : St) (o0 : Nat) (x1 : Int32) (x2 : Int32) (x3 : Int32) (s0 : Nat) (s1 : Int32) (s2 : Int32) (s3 : Int32) : Option (St × Int32) :=
  if inb s1 256 = true then (K28 (zI z s0 (Int32.toNatClampNeg s1) (s2 + s3)) o0 x1 x2 (x3 + 1)) else none
def f_X11_many__52 (K11 : St → Nat → Int32 → Int32 → Option (St × Int32)) (K28 : St → Nat → Int32 → Int32 → Int32 → Option (St × Int32)) (z : St) (o0 : Nat) (x1 : Int32) (x2 : Int32) (x3 : Int32) (s0 : Nat) (s1 : Int32) (s2 : Int32) : Option (St × Int32) :=
  if inb x3 8 = true then (f_X11_many__62 K11 K28 z o0 x1 x2 x3 s0 s1 s2 (z.1 (rf o0 14) (Int32.toNatClampNeg x3))) else none
def f_X11_many__61 (K11 : St → Nat → Int32 → Int32 → Option (St × Int32)) (K28 : St → Nat → Int32 → Int32 → Int32 → Option (St × Int32)) (z : St) (o0 : Nat) (x1 : Int32) (x2 : Int32) (x3 : Int32) (s0 : Nat) (s1 : Int32) (s2 : Int32) : Option (St × Int32) :=
  f_X11_many__62 K11 K28 z o0 x1 x2 x3 s0 s1 s2 0
def f_X11_many__36 (K11 : St → Nat → Int32 → Int32 → Option (St × Int32)) (K28 : St → Nat → Int32 → Int32 → Int32 → Option (St × Int32)) (z : St) (o0 : Nat) (x1 : Int32) (x2 : Int32) (x3 : Int32) : Option (St × Int32) :=
  if inb x2 256 = true then (if ((x2 >>> (x3 &&& 31)) &&& 1) = 1 then f_X11_many__52 K11 K28 z o0 x1 x2 x3 (rf o0 39) x2 (z.1 (rf o0 39) (Int32.toNatClampNeg x2)) else f_X11_many__61 K11 K28 z o0 x1 x2 x3 (rf o0 39) x2 (z.1 (rf o0 39) (Int32.toNatClampNeg x2))) else none
def f_X11_many__78 (K11 : St → Nat → Int32 → Int32 → Option (St × Int32)) (K72 : St → Nat → Int32 → Int32 → Int32 → Option (St × Int32)) (z : St) (o0 : Nat) (x1 : Int32) (x2 : Int32) (x3 : Int32) : Option (St × Int32) :=
  if inb ((64 * x2) + x3) 16384 = true then (K72 (zI z (rf o0 40) (Int32.toNatClampNeg ((64 * x2) + x3)) 0) o0 x1 x2 (x3 + 1)) else none
def f_X11_many__96 (K11 : St → Nat → Int32 → Int32 → Option (St × Int32)) (z : St) (o0 : Nat) (x1 : Int32) (x2 : Int32) : Option (St × Int32) :=
  K11 z o0 x1 (x2 + 1)
def f_X11_many__72 (K11 : St → Nat → Int32 → Int32 → Option (St × Int32)) : Nat → St → Nat → Int32 → Int32 → Int32 → Option (St × Int32)
  | 0, _, _, _, _, _ => none
  | n + 1, z, o0, x1, x2, x3 => if 64 ≤ x3 then f_X11_many__96 K11 z o0 x1 x2 else f_X11_many__78 K11 (f_X11_many__72 K11 n) z o0 x1 x2 x3
def f_X11_many__70 (K11 : St → Nat → Int32 → Int32 → Option (St × Int32)) (z : St) (o0 : Nat) (x1 : Int32) (x2 : Int32) : Option (St × Int32) :=
  f_X11_many__72 K11 FU z o0 x1 x2 0
def f_X11_many__28 (K11 : St → Nat → Int32 → Int32 → Option (St × Int32)) : Nat → St → Nat → Int32 → Int32 → Int32 → Option (St × Int32)
  | 0, _, _, _, _, _ => none
  | n + 1, z, o0, x1, x2, x3 => if (z.1 o0 5) ≤ x3 then f_X11_many__70 K11 z o0 x1 x2 else f_X11_many__36 K11 (f_X11_many__28 K11 n) z o0 x1 x2 x3
def f_X11_many__19 (K11 : St → Nat → Int32 → Int32 → Option (St × Int32)) (z : St) (o0 : Nat) (x1 : Int32) (x2 : Int32) : Option (St × Int32) :=
  if inb x2 256 = true then (f_X11_many__28 K11 FU (zI z (rf o0 39) (Int32.toNatClampNeg x2) 0) o0 x1 x2 0) else none
def f_X11_many__148 (K111 : St → Nat → Int32 → Int32 → Option (St × Int32)) (K121 : St → Nat → Int32 → Int32 → Int32 → Option (St × Int32)) (z : St) (o0 : Nat) (x1 : Int32) (x2 : Int32) (x3 : Int32) : Option (St × Int32) :=
  K121 z o0 x1 x2 (x3 + 1)
def f_X11_many__141 (K111 : St → Nat → Int32 → Int32 → Option (St × Int32)) (K121 : St → Nat → Int32 → Int32 → Int32 → Option (St × Int32)) (z : St) (o0 : Nat) (x1 : Int32) (x2 : Int32) (x3 : Int32) : Option (St × Int32) :=
  ((f_X11_spreads z o0 x2 x3 x1).bind fun r1 => f_X11_many__148 K111 K121 r1 o0 x1 x2 x3)
def f_X11_many__127 (K111 : St → Nat → Int32 → Int32 → Option (St × Int32)) (K121 : St → Nat → Int32 → Int32 → Int32 → Option (St × Int32)) (z : St) (o0 : Nat) (x1 : Int32) (x2 : Int32) (x3 : Int32) : Option (St × Int32) :=
  if inb ((64 * x2) + x3) 16384 = true then (if (z.1 (rf o0 40) (Int32.toNatClampNeg ((64 * x2) + x3))) ≤ 0 then f_X11_many__148 K111 K121 z o0 x1 x2 x3 else f_X11_many__141 K111 K121 z o0 x1 x2 x3) else none
def f_X11_many__154 (K111 : St → Nat → Int32 → Int32 → Option (St × Int32)) (z : St) (o0 : Nat) (x1 : Int32) (x2 : Int32) : Option (St × Int32) :=
  K111 z o0 x1 (x2 + 1)
def f_X11_many__121 (K111 : St → Nat → Int32 → Int32 → Option (St × Int32)) : Nat → St → Nat → Int32 → Int32 → Int32 → Option (St × Int32)
  | 0, _, _, _, _, _ => none
  | n + 1, z, o0, x1, x2, x3 => if 64 ≤ x3 then f_X11_many__154 K111 z o0 x1 x2 else f_X11_many__127 K111 (f_X11_many__121 K111 n) z o0 x1 x2 x3
def f_X11_many__119 (K111 : St → Nat → Int32 → Int32 → Option (St × Int32)) (z : St) (o0 : Nat) (x1 : Int32) (x2 : Int32) : Option (St × Int32) :=
  f_X11_many__121 K111 FU z o0 x1 x2 0
def f_X11_many__170 (K164 : St → Nat → Int32 → Int32 → Option (St × Int32)) (z : St) (o0 : Nat) (x2 : Int32) (x3 : Int32) : Option (St × Int32) :=
  ((f_X11_all z o0).bind fun r1 => if inb ((64 * r1.2) + x3) 16384 = true then (K164 r1.1 o0 (x2 + (r1.1.1 (rf o0 40) (Int32.toNatClampNeg ((64 * r1.2) + x3)))) (x3 + 1)) else none)
def f_X11_many__193  (z : St) (x2 : Int32) : Option (St × Int32) :=
  some (z, x2)
def f_X11_many__164  : Nat → St → Nat → Int32 → Int32 → Option (St × Int32)
  | 0, _, _, _, _ => none
  | n + 1, z, o0, x2, x3 => if 64 ≤ x3 then f_X11_many__193 z x2 else f_X11_many__170 (f_X11_many__164 n) z o0 x2 x3
def f_X11_many__160  (z : St) (o0 : Nat) : Option (St × Int32) :=
  f_X11_many__164 FU z o0 0 0
def f_X11_many__111  : Nat → St → Nat → Int32 → Int32 → Option (St × Int32)
  | 0, _, _, _, _ => none
  | n + 1, z, o0, x1, x2 => ((f_X11_all z o0).bind fun r1 => if r1.2 ≤ x2 then f_X11_many__160 r1.1 o0 else f_X11_many__119 (f_X11_many__111 n) r1.1 o0 x1 x2)
def f_X11_many__102  (z : St) (o0 : Nat) (x1 : Int32) : Option (St × Int32) :=
  if inb 0 16384 = true then (f_X11_many__111 FU (zI z (rf o0 40) (Int32.toNatClampNeg 0) 1) o0 x1 0) else none
def f_X11_many__11  : Nat → St → Nat → Int32 → Int32 → Option (St × Int32)
  | 0, _, _, _, _ => none
  | n + 1, z, o0, x1, x2 => ((f_X11_all z o0).bind fun r1 => if r1.2 < x2 then f_X11_many__102 r1.1 o0 x1 else f_X11_many__19 (f_X11_many__11 n) r1.1 o0 x1 x2)
def f_X11_many__0  (z : St) (o0 : Nat) : Option (St × Int32) :=
  ((f_X11_thinks z o0).bind fun r1 => ((f_X11_leastNow r1 o0).bind fun r3 => f_X11_many__11 FU r3.1 o0 r3.2 0))
def f_X11_many_ (z : St) (o0 : Nat) : Option (St × Int32) := f_X11_many__0 z o0
def f_X11_firstOrder_118 (K24 : St → Nat → Int32 → Int32 → Int32 → Int32 → Option (St)) (K39 : St → Nat → Int32 → Int32 → Int32 → Int32 → Int32 → Int32 → Option (St)) (z : St) (o0 : Nat) (x1 : Int32) (x2 : Int32) (x3 : Int32) (x4 : Int32) (x5 : Int32) (x6 : Int32) : Option (St) :=
  K39 z o0 x1 x2 x3 x4 x5 (x6 + 1)
def f_X11_firstOrder_114 (K24 : St → Nat → Int32 → Int32 → Int32 → Int32 → Option (St)) (K39 : St → Nat → Int32 → Int32 → Int32 → Int32 → Int32 → Int32 → Option (St)) (z : St) (o0 : Nat) (x1 : Int32) (x2 : Int32) (x3 : Int32) (x4 : Int32) (x6 : Int32) : Option (St) :=
  f_X11_firstOrder_118 K24 K39 z o0 x1 x2 x3 x4 x6 x6
def f_X11_firstOrder_98 (K24 : St → Nat → Int32 → Int32 → Int32 → Int32 → Option (St)) (K39 : St → Nat → Int32 → Int32 → Int32 → Int32 → Int32 → Int32 → Option (St)) (z : St) (o0 : Nat) (x1 : Int32) (x2 : Int32) (x3 : Int32) (x4 : Int32) (x5 : Int32) (x6 : Int32) (x7 : Int32) : Option (St) :=
  if inb (x3 ^^^ ((1 : Int32) <<< (x6 &&& 31))) 256 = true then (if (z.1 (rf o0 37) (Int32.toNatClampNeg (x3 ^^^ ((1 : Int32) <<< (x6 &&& 31))))) < x7 then f_X11_firstOrder_118 K24 K39 z o0 x1 x2 x3 x4 x5 x6 else f_X11_firstOrder_114 K24 K39 z o0 x1 x2 x3 x4 x6) else none
def f_X11_firstOrder_84 (K24 : St → Nat → Int32 → Int32 → Int32 → Int32 → Option (St)) (K39 : St → Nat → Int32 → Int32 → Int32 → Int32 → Int32 → Int32 → Option (St)) (z : St) (o0 : Nat) (x1 : Int32) (x2 : Int32) (x3 : Int32) (x4 : Int32) (x5 : Int32) (x6 : Int32) (x7 : Int32) : Option (St) :=
  if inb x6 8 = true then (if x1 < (x7 + (z.1 (rf o0 15) (Int32.toNatClampNeg x6))) then f_X11_firstOrder_118 K24 K39 z o0 x1 x2 x3 x4 x5 x6 else f_X11_firstOrder_98 K24 K39 z o0 x1 x2 x3 x4 x5 x6 x7) else none
def f_X11_firstOrder_53 (K24 : St → Nat → Int32 → Int32 → Int32 → Int32 → Option (St)) (K39 : St → Nat → Int32 → Int32 → Int32 → Int32 → Int32 → Int32 → Option (St)) (z : St) (o0 : Nat) (x1 : Int32) (x2 : Int32) (x3 : Int32) (x4 : Int32) (x5 : Int32) (x6 : Int32) : Option (St) :=
  if inb x6 8 = true then (if inb x6 8 = true then (if ((x3 >>> (x6 &&& 31)) &&& 1) = 1 then f_X11_firstOrder_84 K24 K39 z o0 x1 x2 x3 x4 x5 x6 ((imax x2 (z.1 (rf o0 13) (Int32.toNatClampNeg x6))) + (z.1 (rf o0 14) (Int32.toNatClampNeg x6))) else f_X11_firstOrder_118 K24 K39 z o0 x1 x2 x3 x4 x5 x6) else none) else none
def f_X11_firstOrder_124 (K24 : St → Nat → Int32 → Int32 → Int32 → Int32 → Option (St)) (z : St) (o0 : Nat) (x1 : Int32) (x2 : Int32) (x3 : Int32) (x4 : Int32) (x5 : Int32) : Option (St) :=
  if inb x4 8 = true then (if inb x5 8 = true then (if inb x5 8 = true then (if inb x5 8 = true then (if inb x5 8 = true then (K24 (zI (zI z (rf o0 41) (Int32.toNatClampNeg x4) x5) (rf o0 42) (Int32.toNatClampNeg x5) (imax x2 ((zI z (rf o0 41) (Int32.toNatClampNeg x4) x5).1 (rf o0 13) (Int32.toNatClampNeg x5)))) o0 x1 (((zI (zI z (rf o0 41) (Int32.toNatClampNeg x4) x5) (rf o0 42) (Int32.toNatClampNeg x5) (imax x2 ((zI z (rf o0 41) (Int32.toNatClampNeg x4) x5).1 (rf o0 13) (Int32.toNatClampNeg x5)))).1 (rf o0 42) (Int32.toNatClampNeg x5)) + ((zI (zI z (rf o0 41) (Int32.toNatClampNeg x4) x5) (rf o0 42) (Int32.toNatClampNeg x5) (imax x2 ((zI z (rf o0 41) (Int32.toNatClampNeg x4) x5).1 (rf o0 13) (Int32.toNatClampNeg x5)))).1 (rf o0 14) (Int32.toNatClampNeg x5))) (x3 ^^^ ((1 : Int32) <<< (x5 &&& 31))) (x4 + 1)) else none) else none) else none) else none) else none
def f_X11_firstOrder_48 (K24 : St → Nat → Int32 → Int32 → Int32 → Int32 → Option (St)) (K39 : St → Nat → Int32 → Int32 → Int32 → Int32 → Int32 → Int32 → Option (St)) (z : St) (o0 : Nat) (x1 : Int32) (x2 : Int32) (x3 : Int32) (x4 : Int32) (x5 : Int32) (x6 : Int32) : Option (St) :=
  if 0 ≤ x5 then f_X11_firstOrder_124 K24 z o0 x1 x2 x3 x4 x5 else f_X11_firstOrder_53 K24 K39 z o0 x1 x2 x3 x4 x5 x6
def f_X11_firstOrder_39 (K24 : St → Nat → Int32 → Int32 → Int32 → Int32 → Option (St)) : Nat → St → Nat → Int32 → Int32 → Int32 → Int32 → Int32 → Int32 → Option (St)
  | 0, _, _, _, _, _, _, _, _ => none
  | n + 1, z, o0, x1, x2, x3, x4, x5, x6 => if (z.1 o0 5) ≤ x6 then f_X11_firstOrder_124 K24 z o0 x1 x2 x3 x4 x5 else f_X11_firstOrder_48 K24 (f_X11_firstOrder_39 K24 n) z o0 x1 x2 x3 x4 x5 x6
def f_X11_firstOrder_33 (K24 : St → Nat → Int32 → Int32 → Int32 → Int32 → Option (St)) (z : St) (o0 : Nat) (x1 : Int32) (x2 : Int32) (x3 : Int32) (x4 : Int32) : Option (St) :=
  f_X11_firstOrder_39 K24 FU z o0 x1 x2 x3 x4 ((-1)) 0
def f_X11_firstOrder_180  (z : St)  : Option (St) :=
  some z
def f_X11_firstOrder_24  : Nat → St → Nat → Int32 → Int32 → Int32 → Int32 → Option (St)
  | 0, _, _, _, _, _, _ => none
  | n + 1, z, o0, x1, x2, x3, x4 => if (z.1 o0 5) ≤ x4 then f_X11_firstOrder_180 z else f_X11_firstOrder_33 (f_X11_firstOrder_24 n) z o0 x1 x2 x3 x4
def f_X11_firstOrder_0  (z : St) (o0 : Nat) : Option (St) :=
  ((f_X11_thinks z o0).bind fun r1 => ((f_X11_leastNow r1 o0).bind fun r3 => ((f_X11_lates r3.1 o0 r3.2).bind fun r5 => ((f_X11_all r5 o0).bind fun r7 => f_X11_firstOrder_24 FU r7.1 o0 r3.2 0 r7.2 0))))
def f_X11_firstOrder (z : St) (o0 : Nat) : Option (St) := f_X11_firstOrder_0 z o0
def f_X11_order_14  (z : St)  : Option (St × Int32) :=
  some (z, (-12))
def f_X11_order_17  (z : St) (o0 : Nat) (x1 : Int32) : Option (St × Int32) :=
  ((f_X11_firstOrder z o0).bind fun r1 => if inb x1 8 = true then (some (r1, r1.1 (rf o0 41) (Int32.toNatClampNeg x1))) else none)
def f_X11_order_0  (z : St) (o0 : Nat) (x1 : Int32) : Option (St × Int32) :=
  ((f_X11_in z x1 0 ((z.1 o0 5) - 1)).bind fun r1 => if r1.2 = 0 then f_X11_order_14 r1.1 else f_X11_order_17 r1.1 o0 x1)
def f_X11_order (z : St) (o0 : Nat) (x1 : Int32) : Option (St × Int32) := f_X11_order_0 z o0 x1
def f_X11_mayBeAhead_141 (K10 : St → Nat → Int32 → Int32 → Int32 → Int32 → Option (St × Int32)) (K27 : St → Nat → Int32 → Int32 → Int32 → Int32 → Int32 → Int32 → Option (St × Int32)) (z : St) (o0 : Nat) (x1 : Int32) (x2 : Int32) (x3 : Int32) (x4 : Int32) (x5 : Int32) (x6 : Int32) : Option (St × Int32) :=
  K27 z o0 x1 x2 x3 x4 x5 (x6 + 1)
def f_X11_mayBeAhead_83 (K10 : St → Nat → Int32 → Int32 → Int32 → Int32 → Option (St × Int32)) (K27 : St → Nat → Int32 → Int32 → Int32 → Int32 → Int32 → Int32 → Option (St × Int32)) (z : St) (o0 : Nat) (x1 : Int32) (x2 : Int32) (x3 : Int32) (x4 : Int32) (x5 : Int32) (x6 : Int32) : Option (St × Int32) :=
  f_X11_mayBeAhead_141 K10 K27 z o0 x1 x2 x3 x4 x5 x6
def f_X11_mayBeAhead_139 (K10 : St → Nat → Int32 → Int32 → Int32 → Int32 → Option (St × Int32)) (K27 : St → Nat → Int32 → Int32 → Int32 → Int32 → Int32 → Int32 → Option (St × Int32)) (z : St) (o0 : Nat) (x1 : Int32) (x2 : Int32) (x3 : Int32) (x4 : Int32) (x6 : Int32) (s0 : Int32) : Option (St × Int32) :=
  f_X11_mayBeAhead_141 K10 K27 z o0 x1 x2 x3 x4 s0 x6
def f_X11_mayBeAhead_127 (K10 : St → Nat → Int32 → Int32 → Int32 → Int32 → Option (St × Int32)) (K27 : St → Nat → Int32 → Int32 → Int32 → Int32 → Int32 → Int32 → Option (St × Int32)) (z : St) (o0 : Nat) (x1 : Int32) (x2 : Int32) (x3 : Int32) (x4 : Int32) (x5 : Int32) (x6 : Int32) (x8 : Int32) : Option (St × Int32) :=
  f_X11_mayBeAhead_139 K10 K27 z o0 x1 x2 x3 x4 x6 (imin x5 x8)
def f_X11_mayBeAhead_137 (K10 : St → Nat → Int32 → Int32 → Int32 → Int32 → Option (St × Int32)) (K27 : St → Nat → Int32 → Int32 → Int32 → Int32 → Int32 → Int32 → Option (St × Int32)) (z : St) (o0 : Nat) (x1 : Int32) (x2 : Int32) (x3 : Int32) (x4 : Int32) (x5 : Int32) (x6 : Int32) : Option (St × Int32) :=
  f_X11_mayBeAhead_139 K10 K27 z o0 x1 x2 x3 x4 x6 x5
def f_X11_mayBeAhead_86 (K10 : St → Nat → Int32 → Int32 → Int32 → Int32 → Option (St × Int32)) (K27 : St → Nat → Int32 → Int32 → Int32 → Int32 → Int32 → Int32 → Option (St × Int32)) (z : St) (o0 : Nat) (x1 : Int32) (x2 : Int32) (x3 : Int32) (x4 : Int32) (x5 : Int32) (x6 : Int32) (x7 : Int32) : Option (St × Int32) :=
  if inb x7 256 = true then (if inb x6 8 = true then (if inb x6 8 = true then (if inb x6 8 = true then (if x3 < (((imax (z.1 (rf o0 38) (Int32.toNatClampNeg x7)) (z.1 (rf o0 13) (Int32.toNatClampNeg x6))) + (z.1 (rf o0 14) (Int32.toNatClampNeg x6))) + (z.1 (rf o0 15) (Int32.toNatClampNeg x6))) then f_X11_mayBeAhead_137 K10 K27 z o0 x1 x2 x3 x4 x5 x6 else f_X11_mayBeAhead_127 K10 K27 z o0 x1 x2 x3 x4 x5 x6 ((imax (z.1 (rf o0 38) (Int32.toNatClampNeg x7)) (z.1 (rf o0 13) (Int32.toNatClampNeg x6))) + (z.1 (rf o0 14) (Int32.toNatClampNeg x6)))) else none) else none) else none) else none
def f_X11_mayBeAhead_74 (K10 : St → Nat → Int32 → Int32 → Int32 → Int32 → Option (St × Int32)) (K27 : St → Nat → Int32 → Int32 → Int32 → Int32 → Int32 → Int32 → Option (St × Int32)) (z : St) (o0 : Nat) (x1 : Int32) (x2 : Int32) (x3 : Int32) (x4 : Int32) (x5 : Int32) (x6 : Int32) (x7 : Int32) : Option (St × Int32) :=
  if ((x7 >>> (x1 &&& 31)) &&& 1) = 0 then f_X11_mayBeAhead_83 K10 K27 z o0 x1 x2 x3 x4 x5 x6 else f_X11_mayBeAhead_86 K10 K27 z o0 x1 x2 x3 x4 x5 x6 x7
def f_X11_mayBeAhead_68 (K10 : St → Nat → Int32 → Int32 → Int32 → Int32 → Option (St × Int32)) (K27 : St → Nat → Int32 → Int32 → Int32 → Int32 → Int32 → Int32 → Option (St × Int32)) (z : St) (o0 : Nat) (x1 : Int32) (x2 : Int32) (x3 : Int32) (x4 : Int32) (x5 : Int32) (x6 : Int32) (x7 : Int32) : Option (St × Int32) :=
  if x6 = x2 then f_X11_mayBeAhead_74 K10 K27 z o0 x1 x2 x3 x4 x5 x6 x7 else f_X11_mayBeAhead_86 K10 K27 z o0 x1 x2 x3 x4 x5 x6 x7
def f_X11_mayBeAhead_55 (K10 : St → Nat → Int32 → Int32 → Int32 → Int32 → Option (St × Int32)) (K27 : St → Nat → Int32 → Int32 → Int32 → Int32 → Int32 → Int32 → Option (St × Int32)) (z : St) (o0 : Nat) (x1 : Int32) (x2 : Int32) (x3 : Int32) (x4 : Int32) (x5 : Int32) (x6 : Int32) (x7 : Int32) : Option (St × Int32) :=
  if inb x7 256 = true then (if (z.1 (rf o0 38) (Int32.toNatClampNeg x7)) = 999 then f_X11_mayBeAhead_141 K10 K27 z o0 x1 x2 x3 x4 x5 x6 else f_X11_mayBeAhead_68 K10 K27 z o0 x1 x2 x3 x4 x5 x6 x7) else none
def f_X11_mayBeAhead_36 (K10 : St → Nat → Int32 → Int32 → Int32 → Int32 → Option (St × Int32)) (K27 : St → Nat → Int32 → Int32 → Int32 → Int32 → Int32 → Int32 → Option (St × Int32)) (z : St) (o0 : Nat) (x1 : Int32) (x2 : Int32) (x3 : Int32) (x4 : Int32) (x5 : Int32) (x6 : Int32) : Option (St × Int32) :=
  if ((x4 >>> (x6 &&& 31)) &&& 1) = 0 then f_X11_mayBeAhead_141 K10 K27 z o0 x1 x2 x3 x4 x5 x6 else f_X11_mayBeAhead_55 K10 K27 z o0 x1 x2 x3 x4 x5 x6 (x4 ^^^ ((1 : Int32) <<< (x6 &&& 31)))
def f_X11_mayBeAhead_147 (K10 : St → Nat → Int32 → Int32 → Int32 → Int32 → Option (St × Int32)) (z : St) (o0 : Nat) (x1 : Int32) (x2 : Int32) (x3 : Int32) (x4 : Int32) (x5 : Int32) : Option (St × Int32) :=
  if inb x4 256 = true then (K10 (zI z (rf o0 38) (Int32.toNatClampNeg x4) x5) o0 x1 x2 x3 (x4 + 1)) else none
def f_X11_mayBeAhead_27 (K10 : St → Nat → Int32 → Int32 → Int32 → Int32 → Option (St × Int32)) : Nat → St → Nat → Int32 → Int32 → Int32 → Int32 → Int32 → Int32 → Option (St × Int32)
  | 0, _, _, _, _, _, _, _, _ => none
  | n + 1, z, o0, x1, x2, x3, x4, x5, x6 => if (z.1 o0 5) ≤ x6 then f_X11_mayBeAhead_147 K10 z o0 x1 x2 x3 x4 x5 else f_X11_mayBeAhead_36 K10 (f_X11_mayBeAhead_27 K10 n) z o0 x1 x2 x3 x4 x5 x6
def f_X11_mayBeAhead_19 (K10 : St → Nat → Int32 → Int32 → Int32 → Int32 → Option (St × Int32)) (z : St) (o0 : Nat) (x1 : Int32) (x2 : Int32) (x3 : Int32) (x4 : Int32) : Option (St × Int32) :=
  f_X11_mayBeAhead_27 K10 FU z o0 x1 x2 x3 x4 999 0
def f_X11_mayBeAhead_182  (z : St) (s0 : Int32) : Option (St × Int32) :=
  if zb s0 = true then some (z, s0) else none
def f_X11_mayBeAhead_177  (z : St)  : Option (St × Int32) :=
  f_X11_mayBeAhead_182 z 1
def f_X11_mayBeAhead_181  (z : St)  : Option (St × Int32) :=
  f_X11_mayBeAhead_182 z 0
def f_X11_mayBeAhead_162  (z : St) (o0 : Nat) : Option (St × Int32) :=
  ((f_X11_all z o0).bind fun r1 => if inb r1.2 256 = true then (if 999 ≤ (r1.1.1 (rf o0 38) (Int32.toNatClampNeg r1.2)) then f_X11_mayBeAhead_181 r1.1 else f_X11_mayBeAhead_177 r1.1) else none)
def f_X11_mayBeAhead_10  : Nat → St → Nat → Int32 → Int32 → Int32 → Int32 → Option (St × Int32)
  | 0, _, _, _, _, _, _ => none
  | n + 1, z, o0, x1, x2, x3, x4 => ((f_X11_all z o0).bind fun r1 => if r1.2 < x4 then f_X11_mayBeAhead_162 r1.1 o0 else f_X11_mayBeAhead_19 (f_X11_mayBeAhead_10 n) r1.1 o0 x1 x2 x3 x4)
def f_X11_mayBeAhead_0  (z : St) (o0 : Nat) (x1 : Int32) (x2 : Int32) (x3 : Int32) : Option (St × Int32) :=
  if inb 0 256 = true then (f_X11_mayBeAhead_10 FU (zI z (rf o0 38) (Int32.toNatClampNeg 0) 0) o0 x1 x2 x3 1) else none
def f_X11_mayBeAhead (z : St) (o0 : Nat) (x1 : Int32) (x2 : Int32) (x3 : Int32) : Option (St × Int32) := f_X11_mayBeAhead_0 z o0 x1 x2 x3
def f_X11_must_8  (z : St)  : Option (St × Int32) :=
  some (z, (-2))
def f_X11_must_60 (K25 : St → Nat → Int32 → Int32 → Int32 → Int32 → Option (St × Int32)) (z : St) (o0 : Nat) (x1 : Int32) (x2 : Int32) (x4 : Int32) (s0 : Int32) (s1 : Int32) : Option (St × Int32) :=
  K25 z o0 x1 x2 (s0 ||| s1) (x4 + 1)
def f_X11_must_52 (K25 : St → Nat → Int32 → Int32 → Int32 → Int32 → Option (St × Int32)) (z : St) (o0 : Nat) (x1 : Int32) (x2 : Int32) (x4 : Int32) (s0 : Int32) : Option (St × Int32) :=
  f_X11_must_60 K25 z o0 x1 x2 x4 s0 ((1 : Int32) <<< (x4 &&& 31))
def f_X11_must_59 (K25 : St → Nat → Int32 → Int32 → Int32 → Int32 → Option (St × Int32)) (z : St) (o0 : Nat) (x1 : Int32) (x2 : Int32) (x4 : Int32) (s0 : Int32) : Option (St × Int32) :=
  f_X11_must_60 K25 z o0 x1 x2 x4 s0 0
def f_X11_must_41 (K25 : St → Nat → Int32 → Int32 → Int32 → Int32 → Option (St × Int32)) (z : St) (o0 : Nat) (x1 : Int32) (x2 : Int32) (x4 : Int32) (s0 : Int32) : Option (St × Int32) :=
  ((f_X11_mayBeAhead z o0 x1 x4 x2).bind fun r1 => if r1.2 = 0 then f_X11_must_52 K25 r1.1 o0 x1 x2 x4 s0 else f_X11_must_59 K25 r1.1 o0 x1 x2 x4 s0)
def f_X11_must_34 (K25 : St → Nat → Int32 → Int32 → Int32 → Int32 → Option (St × Int32)) (z : St) (o0 : Nat) (x1 : Int32) (x2 : Int32) (x3 : Int32) (x4 : Int32) : Option (St × Int32) :=
  if x4 = x1 then f_X11_must_59 K25 z o0 x1 x2 x4 x3 else f_X11_must_41 K25 z o0 x1 x2 x4 x3
def f_X11_must_68  (z : St) (x3 : Int32) : Option (St × Int32) :=
  some (z, x3)
def f_X11_must_25  : Nat → St → Nat → Int32 → Int32 → Int32 → Int32 → Option (St × Int32)
  | 0, _, _, _, _, _, _ => none
  | n + 1, z, o0, x1, x2, x3, x4 => if (z.1 o0 5) ≤ x4 then f_X11_must_68 z x3 else f_X11_must_34 (f_X11_must_25 n) z o0 x1 x2 x3 x4
def f_X11_must_11  (z : St) (o0 : Nat) (x1 : Int32) : Option (St × Int32) :=
  ((f_X11_thinks z o0).bind fun r1 => ((f_X11_leastNow r1 o0).bind fun r3 => f_X11_must_25 FU r3.1 o0 x1 r3.2 0 0))
def f_X11_must_0  (z : St) (o0 : Nat) (x1 : Int32) : Option (St × Int32) :=
  ((f_X11_isJob z o0 x1).bind fun r1 => if r1.2 = 0 then f_X11_must_8 r1.1 else f_X11_must_11 r1.1 o0 x1)
def f_X11_must (z : St) (o0 : Nat) (x1 : Int32) : Option (St × Int32) := f_X11_must_0 z o0 x1
def f_X11_room_8  (z : St)  : Option (St × Int32) :=
  some (z, (-2))
def f_X11_room_85 (K34 : St → Nat → Int32 → Int32 → Int32 → Int32 → Int32 → Option (St × Int32)) (z : St) (o0 : Nat) (x1 : Int32) (x2 : Int32) (x3 : Int32) (x4 : Int32) (x5 : Int32) : Option (St × Int32) :=
  K34 z o0 x1 x2 x3 x4 x5
def f_X11_room_74 (K34 : St → Nat → Int32 → Int32 → Int32 → Int32 → Int32 → Option (St × Int32)) (z : St) (o0 : Nat) (x1 : Int32) (x2 : Int32) (x3 : Int32) (x5 : Int32) (x6 : Int32) : Option (St × Int32) :=
  f_X11_room_85 K34 z o0 x1 x2 x3 x6 x5
def f_X11_room_81 (K34 : St → Nat → Int32 → Int32 → Int32 → Int32 → Int32 → Option (St × Int32)) (z : St) (o0 : Nat) (x1 : Int32) (x2 : Int32) (x3 : Int32) (x4 : Int32) (x6 : Int32) : Option (St × Int32) :=
  f_X11_room_85 K34 z o0 x1 x2 x3 x4 x6
def f_X11_room_43 (K34 : St → Nat → Int32 → Int32 → Int32 → Int32 → Int32 → Option (St × Int32)) (z : St) (o0 : Nat) (x1 : Int32) (x2 : Int32) (x3 : Int32) (x4 : Int32) (x5 : Int32) : Option (St × Int32) :=
  if inb x1 8 = true then (((f_X11_all (zI z (rf o0 13) (Int32.toNatClampNeg x1) (x3 + ((x4 + x5) / 2))) o0).bind fun r2 => ((f_X11_fits r2.1 o0 r2.2 x2).bind fun r4 => if r4.2 = 0 then f_X11_room_81 K34 r4.1 o0 x1 x2 x3 x4 ((x4 + x5) / 2) else f_X11_room_74 K34 r4.1 o0 x1 x2 x3 x5 ((x4 + x5) / 2)))) else none
def f_X11_room_88  (z : St) (x4 : Int32) : Option (St × Int32) :=
  some (z, x4)
def f_X11_room_34  : Nat → St → Nat → Int32 → Int32 → Int32 → Int32 → Int32 → Option (St × Int32)
  | 0, _, _, _, _, _, _, _ => none
  | n + 1, z, o0, x1, x2, x3, x4, x5 => if x5 ≤ (x4 + 1) then f_X11_room_88 z x4 else f_X11_room_43 (f_X11_room_34 n) z o0 x1 x2 x3 x4 x5
def f_X11_room_11  (z : St) (o0 : Nat) (x1 : Int32) : Option (St × Int32) :=
  ((f_X11_thinks z o0).bind fun r1 => ((f_X11_leastNow r1 o0).bind fun r3 => if inb x1 8 = true then (f_X11_room_34 FU r3.1 o0 x1 r3.2 (r3.1.1 (rf o0 13) (Int32.toNatClampNeg x1)) 0 100) else none))
def f_X11_room_0  (z : St) (o0 : Nat) (x1 : Int32) : Option (St × Int32) :=
  ((f_X11_isJob z o0 x1).bind fun r1 => if r1.2 = 0 then f_X11_room_8 r1.1 else f_X11_room_11 r1.1 o0 x1)
def f_X11_room (z : St) (o0 : Nat) (x1 : Int32) : Option (St × Int32) := f_X11_room_0 z o0 x1
def f_X11_gain_8  (z : St)  : Option (St × Int32) :=
  some (z, (-2))
def f_X11_gain_11  (z : St) (o0 : Nat) (x1 : Int32) : Option (St × Int32) :=
  ((f_X11_thinks z o0).bind fun r1 => ((f_X11_leastNow r1 o0).bind fun r3 => ((f_X11_all r3.1 o0).bind fun r5 => ((f_X11_leastOf r5.1 o0 (r5.2 ^^^ ((1 : Int32) <<< (x1 &&& 31))) r3.2).bind fun r7 => some (r7.1, r3.2 - r7.2)))))
def f_X11_gain_0  (z : St) (o0 : Nat) (x1 : Int32) : Option (St × Int32) :=
  ((f_X11_isJob z o0 x1).bind fun r1 => if r1.2 = 0 then f_X11_gain_8 r1.1 else f_X11_gain_11 r1.1 o0 x1)
def f_X11_gain (z : St) (o0 : Nat) (x1 : Int32) : Option (St × Int32) := f_X11_gain_0 z o0 x1
def f_X11_isOrder_13  (z : St)  : Option (St × Int32) :=
  some (z, 0)
def f_X11_isOrder_58  (z : St)  : Option (St × Int32) :=
  some (z, 0)
def f_X11_isOrder_60 (K19 : St → Nat → Int32 → Int32 → Int32 → Option (St × Int32)) (z : St) (o0 : Nat) (x1 : Int32) (x2 : Int32) (x3 : Int32) (y4 : Int64) : Option (St × Int32) :=
  K19 z o0 x1 (x2 ||| ((1 : Int32) <<< ((Int64.toInt32 y4) &&& 31))) (x3 + 1)
def f_X11_isOrder_47 (K19 : St → Nat → Int32 → Int32 → Int32 → Option (St × Int32)) (z : St) (o0 : Nat) (x1 : Int32) (x2 : Int32) (x3 : Int32) (y4 : Int64) : Option (St × Int32) :=
  if (lg_cmp y4 (Int32.toInt64 (z.1 o0 5))) < 0 then f_X11_isOrder_60 K19 z o0 x1 x2 x3 y4 else f_X11_isOrder_58 z
def f_X11_isOrder_27 (K19 : St → Nat → Int32 → Int32 → Int32 → Option (St × Int32)) (z : St) (o0 : Nat) (x1 : Int32) (x2 : Int32) (x3 : Int32) : Option (St × Int32) :=
  if inb ((40 * x1) + x3) 160 = true then (if (lg_cmp (z.2 (rf o0 56) (Int32.toNatClampNeg ((40 * x1) + x3))) 0) < 0 then f_X11_isOrder_58 z else f_X11_isOrder_47 K19 z o0 x1 x2 x3 (z.2 (rf o0 56) (Int32.toNatClampNeg ((40 * x1) + x3)))) else none
def f_X11_isOrder_87  (z : St) (s0 : Int32) : Option (St × Int32) :=
  if zb s0 = true then some (z, s0) else none
def f_X11_isOrder_82  (z : St)  : Option (St × Int32) :=
  f_X11_isOrder_87 z 1
def f_X11_isOrder_86  (z : St)  : Option (St × Int32) :=
  f_X11_isOrder_87 z 0
def f_X11_isOrder_74  (z : St) (o0 : Nat) (x2 : Int32) : Option (St × Int32) :=
  ((f_X11_all z o0).bind fun r1 => if x2 = r1.2 then f_X11_isOrder_82 r1.1 else f_X11_isOrder_86 r1.1)
def f_X11_isOrder_19  : Nat → St → Nat → Int32 → Int32 → Int32 → Option (St × Int32)
  | 0, _, _, _, _, _ => none
  | n + 1, z, o0, x1, x2, x3 => if (z.1 o0 5) ≤ x3 then f_X11_isOrder_74 z o0 x2 else f_X11_isOrder_27 (f_X11_isOrder_19 n) z o0 x1 x2 x3
def f_X11_isOrder_15  (z : St) (o0 : Nat) (x1 : Int32) : Option (St × Int32) :=
  f_X11_isOrder_19 FU z o0 x1 0 0
def f_X11_isOrder_0  (z : St) (o0 : Nat) (x1 : Int32) : Option (St × Int32) :=
  if inb x1 4 = true then (if (z.1 (rf o0 55) (Int32.toNatClampNeg x1)) = (z.1 o0 5) then f_X11_isOrder_15 z o0 x1 else f_X11_isOrder_13 z) else none
def f_X11_isOrder (z : St) (o0 : Nat) (x1 : Int32) : Option (St × Int32) := f_X11_isOrder_0 z o0 x1
def f_X11_isSheet_0  (z : St) (x0 : Int32) : Option (St × Int32) :=
  ((f_X11_in z x0 0 3).bind fun r1 => if zb r1.2 = true then some (r1.1, r1.2) else none)
def f_X11_isSheet (z : St) (x0 : Int32) : Option (St × Int32) := f_X11_isSheet_0 z x0
def f_X11_judge_16  (z : St)  : Option (St × Int64) :=
  some (z, (-2))
def f_X11_judge_29  (z : St)  : Option (St × Int64) :=
  some (z, (-11))
def f_X11_judge_41  (z : St)  : Option (St × Int64) :=
  some (z, (-3))
def f_X11_judge_154 (K73 : St → Nat → Int32 → Int32 → Int32 → Int32 → Int32 → Option (St × Int64)) (z : St) (o0 : Nat) (x1 : Int32) (x2 : Int32) (x4 : Int32) (x6 : Int32) (x7 : Int32) (x8 : Int32) (s0 : Nat) (s1 : Int32) (s2 : Int32) : Option (St × Int64) :=
  if inb x7 8 = true then (if inb x7 8 = true then (K73 (zI z s0 44 (s1 + s2)) o0 x1 x2 (imax x4 ((x8 + ((zI z s0 44 (s1 + s2)).1 (rf o0 14) (Int32.toNatClampNeg x7))) + ((zI z s0 44 (s1 + s2)).1 (rf o0 15) (Int32.toNatClampNeg x7)))) (x8 + ((zI z s0 44 (s1 + s2)).1 (rf o0 14) (Int32.toNatClampNeg x7))) (x6 + 1)) else none) else none
def f_X11_judge_149 (K73 : St → Nat → Int32 → Int32 → Int32 → Int32 → Int32 → Option (St × Int64)) (z : St) (o0 : Nat) (x1 : Int32) (x2 : Int32) (x4 : Int32) (x6 : Int32) (x7 : Int32) (x8 : Int32) (s0 : Nat) (s1 : Int32) : Option (St × Int64) :=
  f_X11_judge_154 K73 z o0 x1 x2 x4 x6 x7 x8 s0 s1 1
def f_X11_judge_153 (K73 : St → Nat → Int32 → Int32 → Int32 → Int32 → Int32 → Option (St × Int64)) (z : St) (o0 : Nat) (x1 : Int32) (x2 : Int32) (x4 : Int32) (x6 : Int32) (x7 : Int32) (x8 : Int32) (s0 : Nat) (s1 : Int32) : Option (St × Int64) :=
  f_X11_judge_154 K73 z o0 x1 x2 x4 x6 x7 x8 s0 s1 0
def f_X11_judge_82 (K73 : St → Nat → Int32 → Int32 → Int32 → Int32 → Int32 → Option (St × Int64)) (z : St) (o0 : Nat) (x1 : Int32) (x2 : Int32) (x4 : Int32) (x5 : Int32) (x6 : Int32) : Option (St × Int64) :=
  if inb ((40 * x1) + x6) 160 = true then (if inb (Int64.toInt32 (z.2 (rf o0 56) (Int32.toNatClampNeg ((40 * x1) + x6)))) 8 = true then (if inb (Int64.toInt32 (z.2 (rf o0 56) (Int32.toNatClampNeg ((40 * x1) + x6)))) 8 = true then (if inb (Int64.toInt32 (z.2 (rf o0 56) (Int32.toNatClampNeg ((40 * x1) + x6)))) 8 = true then (if (imax x5 (z.1 (rf o0 13) (Int32.toNatClampNeg (Int64.toInt32 (z.2 (rf o0 56) (Int32.toNatClampNeg ((40 * x1) + x6))))))) ≤ ((zI z o0 43 (imax (z.1 o0 43) ((imax x5 (z.1 (rf o0 13) (Int32.toNatClampNeg (Int64.toInt32 (z.2 (rf o0 56) (Int32.toNatClampNeg ((40 * x1) + x6))))))) - (z.1 (rf o0 13) (Int32.toNatClampNeg (Int64.toInt32 (z.2 (rf o0 56) (Int32.toNatClampNeg ((40 * x1) + x6))))))))).1 (rf o0 17) (Int32.toNatClampNeg (Int64.toInt32 (z.2 (rf o0 56) (Int32.toNatClampNeg ((40 * x1) + x6)))))) then f_X11_judge_153 K73 (zI z o0 43 (imax (z.1 o0 43) ((imax x5 (z.1 (rf o0 13) (Int32.toNatClampNeg (Int64.toInt32 (z.2 (rf o0 56) (Int32.toNatClampNeg ((40 * x1) + x6))))))) - (z.1 (rf o0 13) (Int32.toNatClampNeg (Int64.toInt32 (z.2 (rf o0 56) (Int32.toNatClampNeg ((40 * x1) + x6))))))))) o0 x1 x2 x4 x6 (Int64.toInt32 (z.2 (rf o0 56) (Int32.toNatClampNeg ((40 * x1) + x6)))) (imax x5 (z.1 (rf o0 13) (Int32.toNatClampNeg (Int64.toInt32 (z.2 (rf o0 56) (Int32.toNatClampNeg ((40 * x1) + x6))))))) o0 ((zI z o0 43 (imax (z.1 o0 43) ((imax x5 (z.1 (rf o0 13) (Int32.toNatClampNeg (Int64.toInt32 (z.2 (rf o0 56) (Int32.toNatClampNeg ((40 * x1) + x6))))))) - (z.1 (rf o0 13) (Int32.toNatClampNeg (Int64.toInt32 (z.2 (rf o0 56) (Int32.toNatClampNeg ((40 * x1) + x6))))))))).1 o0 44) else f_X11_judge_149 K73 (zI z o0 43 (imax (z.1 o0 43) ((imax x5 (z.1 (rf o0 13) (Int32.toNatClampNeg (Int64.toInt32 (z.2 (rf o0 56) (Int32.toNatClampNeg ((40 * x1) + x6))))))) - (z.1 (rf o0 13) (Int32.toNatClampNeg (Int64.toInt32 (z.2 (rf o0 56) (Int32.toNatClampNeg ((40 * x1) + x6))))))))) o0 x1 x2 x4 x6 (Int64.toInt32 (z.2 (rf o0 56) (Int32.toNatClampNeg ((40 * x1) + x6)))) (imax x5 (z.1 (rf o0 13) (Int32.toNatClampNeg (Int64.toInt32 (z.2 (rf o0 56) (Int32.toNatClampNeg ((40 * x1) + x6))))))) o0 ((zI z o0 43 (imax (z.1 o0 43) ((imax x5 (z.1 (rf o0 13) (Int32.toNatClampNeg (Int64.toInt32 (z.2 (rf o0 56) (Int32.toNatClampNeg ((40 * x1) + x6))))))) - (z.1 (rf o0 13) (Int32.toNatClampNeg (Int64.toInt32 (z.2 (rf o0 56) (Int32.toNatClampNeg ((40 * x1) + x6))))))))).1 o0 44)) else none) else none) else none) else none
def f_X11_judge_237  (z : St) (s0 : Int64) : Option (St × Int64) :=
  some (z, s0)
def f_X11_judge_197  (z : St) (x4 : Int32) : Option (St × Int64) :=
  f_X11_judge_237 z (Int32.toInt64 x4)
def f_X11_judge_208  (z : St) (o0 : Nat) (x5 : Int32) : Option (St × Int64) :=
  ((f_X11_allTake z o0).bind fun r1 => f_X11_judge_237 r1.1 (Int32.toInt64 (x5 - r1.2)))
def f_X11_judge_224  (z : St) (o0 : Nat) : Option (St × Int64) :=
  f_X11_judge_237 z (Int32.toInt64 (z.1 o0 44))
def f_X11_judge_232  (z : St) (o0 : Nat) : Option (St × Int64) :=
  f_X11_judge_237 z (Int32.toInt64 (z.1 o0 43))
def f_X11_judge_219  (z : St) (o0 : Nat) (x2 : Int32) : Option (St × Int64) :=
  if x2 = 2 then f_X11_judge_224 z o0 else f_X11_judge_232 z o0
def f_X11_judge_203  (z : St) (o0 : Nat) (x2 : Int32) (x5 : Int32) : Option (St × Int64) :=
  if x2 = 1 then f_X11_judge_208 z o0 x5 else f_X11_judge_219 z o0 x2
def f_X11_judge_193  (z : St) (o0 : Nat) (x2 : Int32) (x4 : Int32) (x5 : Int32) : Option (St × Int64) :=
  if x2 = 0 then f_X11_judge_197 z x4 else f_X11_judge_203 z o0 x2 x5
def f_X11_judge_73  : Nat → St → Nat → Int32 → Int32 → Int32 → Int32 → Int32 → Option (St × Int64)
  | 0, _, _, _, _, _, _, _ => none
  | n + 1, z, o0, x1, x2, x4, x5, x6 => if (z.1 o0 5) ≤ x6 then f_X11_judge_193 z o0 x2 x4 x5 else f_X11_judge_82 (f_X11_judge_73 n) z o0 x1 x2 x4 x5 x6
def f_X11_judge_45  (z : St) (o0 : Nat) (x1 : Int32) (x2 : Int32) : Option (St × Int64) :=
  ((f_X11_thinks z o0).bind fun r1 => ((f_X11_greedily r1 o0).bind fun r3 => f_X11_judge_73 FU (zI (zI r3.1 o0 43 0) o0 44 0) o0 x1 x2 0 0 0))
def f_X11_judge_33  (z : St) (o0 : Nat) (x1 : Int32) (x2 : Int32) : Option (St × Int64) :=
  ((f_X11_isOrder z o0 x1).bind fun r1 => if r1.2 = 0 then f_X11_judge_41 r1.1 else f_X11_judge_45 r1.1 o0 x1 x2)
def f_X11_judge_20  (z : St) (o0 : Nat) (x1 : Int32) (x2 : Int32) : Option (St × Int64) :=
  if inb x1 4 = true then (if 0 ≤ (z.1 (rf o0 54) (Int32.toNatClampNeg x1)) then f_X11_judge_33 z o0 x1 x2 else f_X11_judge_29 z) else none
def f_X11_judge_7  (z : St) (o0 : Nat) (x1 : Int32) (x2 : Int32) : Option (St × Int64) :=
  ((f_X11_in z x2 0 3).bind fun r1 => if r1.2 = 0 then f_X11_judge_16 r1.1 else f_X11_judge_20 r1.1 o0 x1 x2)
def f_X11_judge_0  (z : St) (o0 : Nat) (x1 : Int32) (x2 : Int32) : Option (St × Int64) :=
  ((f_X11_isSheet z x1).bind fun r1 => if r1.2 = 0 then f_X11_judge_16 r1.1 else f_X11_judge_7 r1.1 o0 x1 x2)
def f_X11_judge (z : St) (o0 : Nat) (x1 : Int32) (x2 : Int32) : Option (St × Int64) := f_X11_judge_0 z o0 x1 x2
def f_X11_sheet_26  (z : St)  : Option (St × Int32) :=
  some (z, (-2))
def f_X11_sheet_37  (z : St)  : Option (St × Int32) :=
  some (z, (-14))
def f_X11_sheet_72 (K65 : St → Nat → Int32 → Int32 → Option (St × Int32)) (z : St) (o0 : Nat) (x1 : Int32) (x4 : Int32) : Option (St × Int32) :=
  if inb ((40 * x1) + x4) 160 = true then (K65 (zL z (rf o0 56) (Int32.toNatClampNeg ((40 * x1) + x4)) 0) o0 x1 (x4 + 1)) else none
def f_X11_sheet_91  (z : St)  : Option (St × Int32) :=
  some (z, 1)
def f_X11_sheet_65  : Nat → St → Nat → Int32 → Int32 → Option (St × Int32)
  | 0, _, _, _, _ => none
  | n + 1, z, o0, x1, x4 => if 40 ≤ x4 then f_X11_sheet_91 z else f_X11_sheet_72 (f_X11_sheet_65 n) z o0 x1 x4
def f_X11_sheet_61  (z : St) (o0 : Nat) (x1 : Int32) (s0 : Nat) (s1 : Int32) (s2 : Int32) : Option (St × Int32) :=
  if inb s1 4 = true then (f_X11_sheet_65 FU (zI z s0 (Int32.toNatClampNeg s1) s2) o0 x1 0) else none
def f_X11_sheet_56  (z : St) (o0 : Nat) (x1 : Int32) (s0 : Nat) (s1 : Int32) : Option (St × Int32) :=
  f_X11_sheet_61 z o0 x1 s0 s1 0
def f_X11_sheet_60  (z : St) (o0 : Nat) (x1 : Int32) (x3 : Int32) (s0 : Nat) (s1 : Int32) : Option (St × Int32) :=
  f_X11_sheet_61 z o0 x1 s0 s1 x3
def f_X11_sheet_40  (z : St) (o0 : Nat) (x1 : Int32) (x2 : Int32) (x3 : Int32) : Option (St × Int32) :=
  if inb x1 4 = true then (if 0 ≤ x2 then f_X11_sheet_60 (zI z (rf o0 54) (Int32.toNatClampNeg x1) x2) o0 x1 x3 (rf o0 55) x1 else f_X11_sheet_56 (zI z (rf o0 54) (Int32.toNatClampNeg x1) x2) o0 x1 (rf o0 55) x1) else none
def f_X11_sheet_33  (z : St) (o0 : Nat) (x1 : Int32) (x2 : Int32) (x3 : Int32) : Option (St × Int32) :=
  if 0 ≤ x3 then f_X11_sheet_40 z o0 x1 x2 x3 else f_X11_sheet_37 z
def f_X11_sheet_29  (z : St) (o0 : Nat) (x1 : Int32) (x2 : Int32) (x3 : Int32) : Option (St × Int32) :=
  if x2 < 0 then f_X11_sheet_40 z o0 x1 x2 x3 else f_X11_sheet_33 z o0 x1 x2 x3
def f_X11_sheet_20  (z : St) (o0 : Nat) (x1 : Int32) (x2 : Int32) (x3 : Int32) : Option (St × Int32) :=
  if x3 ≤ 40 then f_X11_sheet_29 z o0 x1 x2 x3 else f_X11_sheet_26 z
def f_X11_sheet_16  (z : St) (o0 : Nat) (x1 : Int32) (x2 : Int32) (x3 : Int32) : Option (St × Int32) :=
  if x2 < 0 then f_X11_sheet_29 z o0 x1 x2 x3 else f_X11_sheet_20 z o0 x1 x2 x3
def f_X11_sheet_7  (z : St) (o0 : Nat) (x1 : Int32) (x2 : Int32) (x3 : Int32) : Option (St × Int32) :=
  ((f_X11_in z x2 ((-1)) 1).bind fun r1 => if r1.2 = 0 then f_X11_sheet_26 r1.1 else f_X11_sheet_16 r1.1 o0 x1 x2 x3)
def f_X11_sheet_0  (z : St) (o0 : Nat) (x1 : Int32) (x2 : Int32) (x3 : Int32) : Option (St × Int32) :=
  ((f_X11_isSheet z x1).bind fun r1 => if r1.2 = 0 then f_X11_sheet_26 r1.1 else f_X11_sheet_7 r1.1 o0 x1 x2 x3)
def f_X11_sheet (z : St) (o0 : Nat) (x1 : Int32) (x2 : Int32) (x3 : Int32) : Option (St × Int32) := f_X11_sheet_0 z o0 x1 x2 x3
def f_X11_film_7  (z : St)  : Option (St × Int32) :=
  some (z, (-2))
def f_X11_film_35 (K27 : St → Nat → Int32 → Int32 → Option (St × Int32)) (z : St) (o0 : Nat) (x1 : Int32) (x2 : Int32) : Option (St × Int32) :=
  if inb x2 8 = true then (if inb ((40 * x1) + x2) 160 = true then (K27 (zL z (rf o0 56) (Int32.toNatClampNeg ((40 * x1) + x2)) (Int32.toInt64 (z.1 (rf o0 42) (Int32.toNatClampNeg x2)))) o0 x1 (x2 + 1)) else none) else none
def f_X11_film_59  (z : St) (o0 : Nat) : Option (St × Int32) :=
  some (z, z.1 o0 5)
def f_X11_film_27  : Nat → St → Nat → Int32 → Int32 → Option (St × Int32)
  | 0, _, _, _, _ => none
  | n + 1, z, o0, x1, x2 => if (z.1 o0 5) ≤ x2 then f_X11_film_59 z o0 else f_X11_film_35 (f_X11_film_27 n) z o0 x1 x2
def f_X11_film_10  (z : St) (o0 : Nat) (x1 : Int32) : Option (St × Int32) :=
  ((f_X11_sheet z o0 x1 0 (z.1 o0 5)).bind fun r1 => ((f_X11_firstOrder r1.1 o0).bind fun r3 => f_X11_film_27 FU r3 o0 x1 0))
def f_X11_film_0  (z : St) (o0 : Nat) (x1 : Int32) : Option (St × Int32) :=
  ((f_X11_isSheet z x1).bind fun r1 => if r1.2 = 0 then f_X11_film_7 r1.1 else f_X11_film_10 r1.1 o0 x1)
def f_X11_film (z : St) (o0 : Nat) (x1 : Int32) : Option (St × Int32) := f_X11_film_0 z o0 x1
def f_X11_draws_18 (K9 : St → Nat → Int32 → Int32 → Int32 → Option (St)) (z : St) (o0 : Nat) (x2 : Int32) (x3 : Int32) (x4 : Int32) : Option (St) :=
  if inb x4 8 = true then (if decide ((x2 + 1) ≠ 0) = true then (if inb x4 8 = true then (K9 (zI z (rf o0 13) (Int32.toNatClampNeg x4) ((z.1 (rf o0 13) (Int32.toNatClampNeg x4)) + ((ius ((x3 * 1103515245) + 12345) 9) - (ius ((x3 * 1103515245) + 12345) 9) / (x2 + 1) * (x2 + 1)))) o0 x2 ((x3 * 1103515245) + 12345) (x4 + 1)) else none) else none) else none
def f_X11_draws_52  (z : St)  : Option (St) :=
  some z
def f_X11_draws_9  : Nat → St → Nat → Int32 → Int32 → Int32 → Option (St)
  | 0, _, _, _, _, _ => none
  | n + 1, z, o0, x2, x3, x4 => if (z.1 o0 5) ≤ x4 then f_X11_draws_52 z else f_X11_draws_18 (f_X11_draws_9 n) z o0 x2 x3 x4
def f_X11_draws_0  (z : St) (o0 : Nat) (x1 : Int32) (x2 : Int32) : Option (St) :=
  ((f_X11_thinks z o0).bind fun r1 => f_X11_draws_9 FU r1 o0 x2 x1 0)
def f_X11_draws (z : St) (o0 : Nat) (x1 : Int32) (x2 : Int32) : Option (St) := f_X11_draws_0 z o0 x1 x2
def f_X11_drawn_10  (z : St)  : Option (St × Int32) :=
  some (z, (-2))
def f_X11_drawn_13  (z : St) (o0 : Nat) (x1 : Int32) (x2 : Int32) : Option (St × Int32) :=
  ((f_X11_draws z o0 x1 x2).bind fun r1 => ((f_X11_leastNow r1 o0).bind fun r3 => some (r3.1, r3.2)))
def f_X11_drawn_0  (z : St) (o0 : Nat) (x1 : Int32) (x2 : Int32) : Option (St × Int32) :=
  ((f_X11_in z x2 0 30).bind fun r1 => if r1.2 = 0 then f_X11_drawn_10 r1.1 else f_X11_drawn_13 r1.1 o0 x1 x2)
def f_X11_drawn (z : St) (o0 : Nat) (x1 : Int32) (x2 : Int32) : Option (St × Int32) := f_X11_drawn_0 z o0 x1 x2
def f_X11_divisor_8 (K4 : St → Int32 → Int32 → Option (St × Int32)) (z : St) (x2 : Int32) (x3 : Int32) : Option (St × Int32) :=
  if decide (x3 ≠ 0) = true then (K4 z x3 (x2 - x2 / x3 * x3)) else none
def f_X11_divisor_21  (z : St) (x2 : Int32) : Option (St × Int32) :=
  some (z, x2)
def f_X11_divisor_4  : Nat → St → Int32 → Int32 → Option (St × Int32)
  | 0, _, _, _ => none
  | n + 1, z, x2, x3 => if x3 = 0 then f_X11_divisor_21 z x2 else f_X11_divisor_8 (f_X11_divisor_4 n) z x2 x3
def f_X11_divisor_0  (z : St) (x0 : Int32) (x1 : Int32) : Option (St × Int32) :=
  f_X11_divisor_4 FU z x0 x1
def f_X11_divisor (z : St) (x0 : Int32) (x1 : Int32) : Option (St × Int32) := f_X11_divisor_0 z x0 x1
def f_X11_chance_42  (z : St)  : Option (St × Int32) :=
  some (z, (-2))
def f_X11_chance_82 (K51 : St → Nat → Int32 → Int32 → Int32 → Int32 → Int32 → Int32 → Int32 → Option (St × Int32)) (z : St) (o0 : Nat) (x1 : Int32) (x2 : Int32) (x3 : Int32) (x4 : Int32) (x5 : Int32) (x7 : Int32) (s0 : Int32) (s1 : Int32) : Option (St × Int32) :=
  K51 z o0 x1 x2 x3 x4 x5 (s0 + s1) (x7 + 1)
def f_X11_chance_77 (K51 : St → Nat → Int32 → Int32 → Int32 → Int32 → Int32 → Int32 → Int32 → Option (St × Int32)) (z : St) (o0 : Nat) (x1 : Int32) (x2 : Int32) (x3 : Int32) (x4 : Int32) (x5 : Int32) (x7 : Int32) (s0 : Int32) : Option (St × Int32) :=
  f_X11_chance_82 K51 z o0 x1 x2 x3 x4 x5 x7 s0 1
def f_X11_chance_81 (K51 : St → Nat → Int32 → Int32 → Int32 → Int32 → Int32 → Int32 → Int32 → Option (St × Int32)) (z : St) (o0 : Nat) (x1 : Int32) (x2 : Int32) (x3 : Int32) (x4 : Int32) (x5 : Int32) (x7 : Int32) (s0 : Int32) : Option (St × Int32) :=
  f_X11_chance_82 K51 z o0 x1 x2 x3 x4 x5 x7 s0 0
def f_X11_chance_57 (K51 : St → Nat → Int32 → Int32 → Int32 → Int32 → Int32 → Int32 → Int32 → Option (St × Int32)) (z : St) (o0 : Nat) (x1 : Int32) (x2 : Int32) (x3 : Int32) (x4 : Int32) (x5 : Int32) (x6 : Int32) (x7 : Int32) : Option (St × Int32) :=
  ((f_X11_draws z o0 (x1 + x7) x3).bind fun r1 => ((f_X11_greedily r1 o0).bind fun r3 => if x4 < r3.2 then f_X11_chance_81 K51 r3.1 o0 x1 x2 x3 x4 x5 x7 x6 else f_X11_chance_77 K51 r3.1 o0 x1 x2 x3 x4 x5 x7 x6))
def f_X11_chance_116  (z : St) (s0 : Int32) : Option (St × Int32) :=
  some (z, s0)
def f_X11_chance_104  (z : St) (x6 : Int32) (x7 : Int32) : Option (St × Int32) :=
  if decide (x7 ≠ 0) = true then (f_X11_chance_116 z (x6 / x7)) else none
def f_X11_chance_112  (z : St) (x2 : Int32) (x7 : Int32) : Option (St × Int32) :=
  if decide (x7 ≠ 0) = true then (f_X11_chance_116 z (x2 / x7)) else none
def f_X11_chance_91  (z : St) (x2 : Int32) (x5 : Int32) (x6 : Int32) : Option (St × Int32) :=
  ((f_X11_divisor z x6 x2).bind fun r1 => if x5 = 0 then f_X11_chance_104 r1.1 x6 r1.2 else f_X11_chance_112 r1.1 x2 r1.2)
def f_X11_chance_51  : Nat → St → Nat → Int32 → Int32 → Int32 → Int32 → Int32 → Int32 → Int32 → Option (St × Int32)
  | 0, _, _, _, _, _, _, _, _, _ => none
  | n + 1, z, o0, x1, x2, x3, x4, x5, x6, x7 => if x2 ≤ x7 then f_X11_chance_91 z x2 x5 x6 else f_X11_chance_57 (f_X11_chance_51 n) z o0 x1 x2 x3 x4 x5 x6 x7
def f_X11_chance_45  (z : St) (o0 : Nat) (x1 : Int32) (x2 : Int32) (x3 : Int32) (x4 : Int32) (x5 : Int32) : Option (St × Int32) :=
  f_X11_chance_51 FU z o0 x1 x2 x3 x4 x5 0 0
def f_X11_chance_32  (z : St) (o0 : Nat) (x1 : Int32) (x2 : Int32) (x3 : Int32) (x4 : Int32) (x5 : Int32) : Option (St × Int32) :=
  ((f_X11_in z x5 0 1).bind fun r1 => if r1.2 = 0 then f_X11_chance_42 r1.1 else f_X11_chance_45 r1.1 o0 x1 x2 x3 x4 x5)
def f_X11_chance_20  (z : St) (o0 : Nat) (x1 : Int32) (x2 : Int32) (x3 : Int32) (x4 : Int32) (x5 : Int32) : Option (St × Int32) :=
  ((f_X11_in z x4 0 999).bind fun r1 => if r1.2 = 0 then f_X11_chance_42 r1.1 else f_X11_chance_32 r1.1 o0 x1 x2 x3 x4 x5)
def f_X11_chance_10  (z : St) (o0 : Nat) (x1 : Int32) (x2 : Int32) (x3 : Int32) (x4 : Int32) (x5 : Int32) : Option (St × Int32) :=
  ((f_X11_in z x3 0 30).bind fun r1 => if r1.2 = 0 then f_X11_chance_42 r1.1 else f_X11_chance_20 r1.1 o0 x1 x2 x3 x4 x5)
def f_X11_chance_0  (z : St) (o0 : Nat) (x1 : Int32) (x2 : Int32) (x3 : Int32) (x4 : Int32) (x5 : Int32) : Option (St × Int32) :=
  ((f_X11_in z x2 1 8).bind fun r1 => if r1.2 = 0 then f_X11_chance_42 r1.1 else f_X11_chance_10 r1.1 o0 x1 x2 x3 x4 x5)
def f_X11_chance (z : St) (o0 : Nat) (x1 : Int32) (x2 : Int32) (x3 : Int32) (x4 : Int32) (x5 : Int32) : Option (St × Int32) := f_X11_chance_0 z o0 x1 x2 x3 x4 x5
def f_X11_hour_118  (z : St) (o0 : Nat) : Option (St) :=
  some (zI z o0 45 ((z.1 o0 45) + 1))
def f_X11_hour_68  (z : St) (o0 : Nat) : Option (St) :=
  f_X11_hour_118 (zI z o0 50 ((z.1 o0 50) + 1)) o0
def f_X11_hour_98  (z : St) (o0 : Nat) : Option (St) :=
  f_X11_hour_118 (zI (zI z o0 48 ((z.1 o0 48) ||| ((1 : Int32) <<< ((z.1 o0 46) &&& 31)))) o0 46 ((-1))) o0
def f_X11_hour_81  (z : St) (o0 : Nat) : Option (St) :=
  if ((zI z o0 47 ((z.1 o0 47) - 1)).1 o0 47) = 0 then f_X11_hour_98 (zI z o0 47 ((z.1 o0 47) - 1)) o0 else f_X11_hour_118 (zI z o0 47 ((z.1 o0 47) - 1)) o0
def f_X11_hour_61  (z : St) (o0 : Nat) : Option (St) :=
  if 0 ≤ (z.1 o0 46) then f_X11_hour_81 z o0 else f_X11_hour_68 z o0
def f_X11_hour_24  (z : St) (o0 : Nat) (x1 : Int32) : Option (St) :=
  if inb x1 8 = true then (if inb x1 8 = true then (f_X11_hour_61 (zI (zI (zI (zI z o0 46 x1) o0 47 ((zI z o0 46 x1).1 (rf o0 14) (Int32.toNatClampNeg x1))) o0 49 (((zI (zI z o0 46 x1) o0 47 ((zI z o0 46 x1).1 (rf o0 14) (Int32.toNatClampNeg x1))).1 o0 49) ||| ((1 : Int32) <<< (x1 &&& 31)))) (rf o0 51) (Int32.toNatClampNeg x1) ((zI (zI (zI z o0 46 x1) o0 47 ((zI z o0 46 x1).1 (rf o0 14) (Int32.toNatClampNeg x1))) o0 49 (((zI (zI z o0 46 x1) o0 47 ((zI z o0 46 x1).1 (rf o0 14) (Int32.toNatClampNeg x1))).1 o0 49) ||| ((1 : Int32) <<< (x1 &&& 31)))).1 o0 45)) o0) else none) else none
def f_X11_hour_7  (z : St) (o0 : Nat) : Option (St) :=
  ((f_X11_chosen z o0 (z.1 o0 45) (z.1 o0 49)).bind fun r1 => if r1.2 < 0 then f_X11_hour_61 r1.1 o0 else f_X11_hour_24 r1.1 o0 r1.2)
def f_X11_hour_0  (z : St) (o0 : Nat) : Option (St) :=
  if 0 ≤ (z.1 o0 46) then f_X11_hour_61 z o0 else f_X11_hour_7 z o0
def f_X11_hour (z : St) (o0 : Nat) : Option (St) := f_X11_hour_0 z o0
def f_X11_go_10  (z : St)  : Option (St × Int32) :=
  some (z, (-2))
def f_X11_go_25  (z : St)  : Option (St × Int32) :=
  some (z, (-4))
def f_X11_go_39 (K34 : St → Nat → Int32 → Int32 → Option (St × Int32)) (z : St) (o0 : Nat) (x1 : Int32) (x2 : Int32) : Option (St × Int32) :=
  ((f_X11_hour z o0).bind fun r1 => K34 r1 o0 x1 (x2 + 1))
def f_X11_go_49  (z : St) (o0 : Nat) : Option (St × Int32) :=
  some (z, z.1 o0 45)
def f_X11_go_34  : Nat → St → Nat → Int32 → Int32 → Option (St × Int32)
  | 0, _, _, _, _ => none
  | n + 1, z, o0, x1, x2 => if x1 ≤ x2 then f_X11_go_49 z o0 else f_X11_go_39 (f_X11_go_34 n) z o0 x1 x2
def f_X11_go_28  (z : St) (o0 : Nat) (x1 : Int32) : Option (St × Int32) :=
  ((f_X11_thinks z o0).bind fun r1 => f_X11_go_34 FU r1 o0 x1 0)
def f_X11_go_13  (z : St) (o0 : Nat) (x1 : Int32) : Option (St × Int32) :=
  if ((z.1 o0 45) + x1) ≤ 999 then f_X11_go_28 z o0 x1 else f_X11_go_25 z
def f_X11_go_0  (z : St) (o0 : Nat) (x1 : Int32) : Option (St × Int32) :=
  ((f_X11_in z x1 1 60).bind fun r1 => if r1.2 = 0 then f_X11_go_10 r1.1 else f_X11_go_13 r1.1 o0 x1)
def f_X11_go (z : St) (o0 : Nat) (x1 : Int32) : Option (St × Int32) := f_X11_go_0 z o0 x1
def f_X11_bench_32  (z : St) (o0 : Nat) : Option (St × Int32) :=
  some (z, z.1 o0 45)
def f_X11_bench_37  (z : St) (o0 : Nat) : Option (St × Int32) :=
  some (z, z.1 o0 46)
def f_X11_bench_42  (z : St) (o0 : Nat) : Option (St × Int32) :=
  some (z, z.1 o0 48)
def f_X11_bench_47  (z : St) (o0 : Nat) : Option (St × Int32) :=
  some (z, z.1 o0 50)
def f_X11_bench_52  (z : St)  : Option (St × Int32) :=
  some (z, (-2))
def f_X11_bench_0  (z : St) (o0 : Nat) (x1 : Int32) : Option (St × Int32) :=
  if x1 = 0 then f_X11_bench_32 z o0 else if x1 = 1 then f_X11_bench_37 z o0 else if x1 = 2 then f_X11_bench_42 z o0 else if x1 = 3 then f_X11_bench_47 z o0 else f_X11_bench_52 z
def f_X11_bench (z : St) (o0 : Nat) (x1 : Int32) : Option (St × Int32) := f_X11_bench_0 z o0 x1
def f_X11_began_19  (z : St) (s0 : Int32) : Option (St × Int32) :=
  some (z, s0)
def f_X11_began_8  (z : St) (o0 : Nat) (x1 : Int32) : Option (St × Int32) :=
  if inb x1 8 = true then (f_X11_began_19 z (z.1 (rf o0 51) (Int32.toNatClampNeg x1))) else none
def f_X11_began_17  (z : St)  : Option (St × Int32) :=
  f_X11_began_19 z ((-2))
def f_X11_began_0  (z : St) (o0 : Nat) (x1 : Int32) : Option (St × Int32) :=
  ((f_X11_isJob z o0 x1).bind fun r1 => if r1.2 = 0 then f_X11_began_17 r1.1 else f_X11_began_8 r1.1 o0 x1)
def f_X11_began (z : St) (o0 : Nat) (x1 : Int32) : Option (St × Int32) := f_X11_began_0 z o0 x1
def f_X11_image_17 (K2 : St → Nat → Int32 → Option (St × Int32)) (K12 : St → Nat → Int32 → Int32 → Option (St × Int32)) (z : St) (o0 : Nat) (x1 : Int32) (x2 : Int32) : Option (St × Int32) :=
  ((f_X11_its z o0 x1 x2).bind fun r1 => if inb ((4 * x1) + x2) 32 = true then (K12 (zI r1.1 (rf o0 52) (Int32.toNatClampNeg ((4 * x1) + x2)) r1.2) o0 x1 (x2 + 1)) else none)
def f_X11_image_39 (K2 : St → Nat → Int32 → Option (St × Int32)) (z : St) (o0 : Nat) (x1 : Int32) : Option (St × Int32) :=
  K2 z o0 (x1 + 1)
def f_X11_image_12 (K2 : St → Nat → Int32 → Option (St × Int32)) : Nat → St → Nat → Int32 → Int32 → Option (St × Int32)
  | 0, _, _, _, _ => none
  | n + 1, z, o0, x1, x2 => if 4 ≤ x2 then f_X11_image_39 K2 z o0 x1 else f_X11_image_17 K2 (f_X11_image_12 K2 n) z o0 x1 x2
def f_X11_image_10 (K2 : St → Nat → Int32 → Option (St × Int32)) (z : St) (o0 : Nat) (x1 : Int32) : Option (St × Int32) :=
  f_X11_image_12 K2 FU z o0 x1 0
def f_X11_image_45  (z : St) (o0 : Nat) : Option (St × Int32) :=
  some (zI z o0 53 (z.1 o0 5), (zI z o0 53 (z.1 o0 5)).1 o0 5)
def f_X11_image_2  : Nat → St → Nat → Int32 → Option (St × Int32)
  | 0, _, _, _ => none
  | n + 1, z, o0, x1 => if (z.1 o0 5) ≤ x1 then f_X11_image_45 z o0 else f_X11_image_10 (f_X11_image_2 n) z o0 x1
def f_X11_image_0  (z : St) (o0 : Nat) : Option (St × Int32) :=
  f_X11_image_2 FU z o0 0
def f_X11_image (z : St) (o0 : Nat) : Option (St × Int32) := f_X11_image_0 z o0
def f_X11_back_7  (z : St)  : Option (St × Int32) :=
  some (z, (-3))
def f_X11_back_25 (K17 : St → Nat → Int32 → Option (St × Int32)) (z : St) (o0 : Nat) (x1 : Int32) : Option (St × Int32) :=
  if inb (4 * x1) 32 = true then (if inb ((4 * x1) + 1) 32 = true then (if inb ((4 * x1) + 2) 32 = true then (if inb ((4 * x1) + 3) 32 = true then (((f_X11_adds z o0 (z.1 (rf o0 52) (Int32.toNatClampNeg (4 * x1))) (z.1 (rf o0 52) (Int32.toNatClampNeg ((4 * x1) + 1))) (z.1 (rf o0 52) (Int32.toNatClampNeg ((4 * x1) + 2))) (z.1 (rf o0 52) (Int32.toNatClampNeg ((4 * x1) + 3)))).bind fun r5 => K17 r5 o0 (x1 + 1))) else none) else none) else none) else none
def f_X11_back_73  (z : St) (o0 : Nat) : Option (St × Int32) :=
  ((f_X11_anew z o0).bind fun r1 => some (r1, r1.1 o0 5))
def f_X11_back_17  : Nat → St → Nat → Int32 → Option (St × Int32)
  | 0, _, _, _ => none
  | n + 1, z, o0, x1 => if (z.1 o0 53) ≤ x1 then f_X11_back_73 z o0 else f_X11_back_25 (f_X11_back_17 n) z o0 x1
def f_X11_back_10  (z : St) (o0 : Nat) : Option (St × Int32) :=
  f_X11_back_17 FU (zI z o0 5 0) o0 0
def f_X11_back_0  (z : St) (o0 : Nat) : Option (St × Int32) :=
  if 0 ≤ (z.1 o0 53) then f_X11_back_10 z o0 else f_X11_back_7 z
def f_X11_back (z : St) (o0 : Nat) : Option (St × Int32) := f_X11_back_0 z o0
def f_X11_count_9  (z : St)  : Option (St × Int32) :=
  some (z, (-2))
def f_X11_count_43  (z : St) (s0 : Int32) : Option (St × Int32) :=
  some (z, s0)
def f_X11_count_20  (z : St) (o0 : Nat) : Option (St × Int32) :=
  f_X11_count_43 z (z.1 o0 5)
def f_X11_count_32  (z : St) (o0 : Nat) : Option (St × Int32) :=
  ((f_X11_allTake z o0).bind fun r1 => f_X11_count_43 r1.1 r1.2)
def f_X11_count_39  (z : St) (o0 : Nat) : Option (St × Int32) :=
  f_X11_count_43 z (z.1 o0 7)
def f_X11_count_27  (z : St) (o0 : Nat) (x1 : Int32) : Option (St × Int32) :=
  if x1 = 1 then f_X11_count_32 z o0 else f_X11_count_39 z o0
def f_X11_count_12  (z : St) (o0 : Nat) (x1 : Int32) : Option (St × Int32) :=
  ((f_X11_thinks z o0).bind fun r1 => if x1 = 0 then f_X11_count_20 r1 o0 else f_X11_count_27 r1 o0 x1)
def f_X11_count_0  (z : St) (o0 : Nat) (x1 : Int32) : Option (St × Int32) :=
  ((f_X11_in z x1 0 2).bind fun r1 => if r1.2 = 0 then f_X11_count_9 r1.1 else f_X11_count_12 r1.1 o0 x1)
def f_X11_count (z : St) (o0 : Nat) (x1 : Int32) : Option (St × Int32) := f_X11_count_0 z o0 x1
def f_X11_put_7  (z : St)  : Option (St × Int32) :=
  some (z, (-2))
def f_X11_put_19  (z : St)  : Option (St × Int32) :=
  some (z, (-11))
def f_X11_put_38  (z : St)  : Option (St × Int32) :=
  some (z, (-12))
def f_X11_put_68  (z : St) (s0 : Nat) (s1 : Int32) (s2 : Int64) : Option (St × Int32) :=
  if inb s1 160 = true then (some (zL z s0 (Int32.toNatClampNeg s1) s2, 1)) else none
def f_X11_put_61  (z : St) (y3 : Int64) (s0 : Nat) (s1 : Int32) : Option (St × Int32) :=
  f_X11_put_68 z s0 s1 (Int32.toInt64 (Int64.toInt32 y3))
def f_X11_put_67  (z : St) (y3 : Int64) (s0 : Nat) (s1 : Int32) : Option (St × Int32) :=
  f_X11_put_68 z s0 s1 y3
def f_X11_put_41  (z : St) (o0 : Nat) (x1 : Int32) (x2 : Int32) (y3 : Int64) : Option (St × Int32) :=
  if inb x1 4 = true then (if (z.1 (rf o0 54) (Int32.toNatClampNeg x1)) = 1 then f_X11_put_61 z y3 (rf o0 56) ((40 * x1) + x2) else f_X11_put_67 z y3 (rf o0 56) ((40 * x1) + x2)) else none
def f_X11_put_22  (z : St) (o0 : Nat) (x1 : Int32) (x2 : Int32) (y3 : Int64) : Option (St × Int32) :=
  if inb x1 4 = true then (((f_X11_in z x2 0 ((z.1 (rf o0 55) (Int32.toNatClampNeg x1)) - 1)).bind fun r2 => if r2.2 = 0 then f_X11_put_38 r2.1 else f_X11_put_41 r2.1 o0 x1 x2 y3)) else none
def f_X11_put_10  (z : St) (o0 : Nat) (x1 : Int32) (x2 : Int32) (y3 : Int64) : Option (St × Int32) :=
  if inb x1 4 = true then (if 0 ≤ (z.1 (rf o0 54) (Int32.toNatClampNeg x1)) then f_X11_put_22 z o0 x1 x2 y3 else f_X11_put_19 z) else none
def f_X11_put_0  (z : St) (o0 : Nat) (x1 : Int32) (x2 : Int32) (y3 : Int64) : Option (St × Int32) :=
  ((f_X11_isSheet z x1).bind fun r1 => if r1.2 = 0 then f_X11_put_7 r1.1 else f_X11_put_10 r1.1 o0 x1 x2 y3)
def f_X11_put (z : St) (o0 : Nat) (x1 : Int32) (x2 : Int32) (y3 : Int64) : Option (St × Int32) := f_X11_put_0 z o0 x1 x2 y3
def f_X11_item__49  (z : St) (s0 : Int64) : Option (St × Int64) :=
  some (z, s0)
def f_X11_item__32  (z : St) (o0 : Nat) (x1 : Int32) (x2 : Int32) : Option (St × Int64) :=
  if inb ((40 * x1) + x2) 160 = true then (f_X11_item__49 z (z.2 (rf o0 56) (Int32.toNatClampNeg ((40 * x1) + x2)))) else none
def f_X11_item__46  (z : St)  : Option (St × Int64) :=
  f_X11_item__49 z ((-4611686018427387904))
def f_X11_item__16  (z : St) (o0 : Nat) (x1 : Int32) (x2 : Int32) : Option (St × Int64) :=
  if inb x1 4 = true then (((f_X11_in z x2 0 ((z.1 (rf o0 55) (Int32.toNatClampNeg x1)) - 1)).bind fun r2 => if r2.2 = 0 then f_X11_item__46 r2.1 else f_X11_item__32 r2.1 o0 x1 x2)) else none
def f_X11_item__7  (z : St) (o0 : Nat) (x1 : Int32) (x2 : Int32) : Option (St × Int64) :=
  if inb x1 4 = true then (if (z.1 (rf o0 54) (Int32.toNatClampNeg x1)) < 0 then f_X11_item__46 z else f_X11_item__16 z o0 x1 x2) else none
def f_X11_item__0  (z : St) (o0 : Nat) (x1 : Int32) (x2 : Int32) : Option (St × Int64) :=
  ((f_X11_isSheet z x1).bind fun r1 => if r1.2 = 0 then f_X11_item__46 r1.1 else f_X11_item__7 r1.1 o0 x1 x2)
def f_X11_item_ (z : St) (o0 : Nat) (x1 : Int32) (x2 : Int32) : Option (St × Int64) := f_X11_item__0 z o0 x1 x2
def f_X11_copy_14  (z : St)  : Option (St × Int32) :=
  some (z, (-2))
def f_X11_copy_35  (z : St)  : Option (St × Int32) :=
  some (z, (-11))
def f_X11_copy_53  (z : St)  : Option (St × Int32) :=
  some (z, (-13))
def f_X11_copy_97  (z : St)  : Option (St × Int32) :=
  some (z, (-12))
def f_X11_copy_145 (K121 : St → Nat → Int32 → Int32 → Int32 → Int32 → Int32 → Int32 → Int32 → Option (St × Int32)) (z : St) (o0 : Nat) (x1 : Int32) (x2 : Int32) (x3 : Int32) (x4 : Int32) (x5 : Int32) (x6 : Int32) (x7 : Int32) (s0 : Int32) : Option (St × Int32) :=
  if inb (((40 * x1) + x2) + s0) 160 = true then (if inb (((40 * x3) + x4) + s0) 160 = true then (K121 (zL z (rf o0 56) (Int32.toNatClampNeg (((40 * x3) + x4) + s0)) (z.2 (rf o0 56) (Int32.toNatClampNeg (((40 * x1) + x2) + s0)))) o0 x1 x2 x3 x4 x5 x6 (x7 + 1)) else none) else none
def f_X11_copy_133 (K121 : St → Nat → Int32 → Int32 → Int32 → Int32 → Int32 → Int32 → Int32 → Option (St × Int32)) (z : St) (o0 : Nat) (x1 : Int32) (x2 : Int32) (x3 : Int32) (x4 : Int32) (x5 : Int32) (x6 : Int32) (x7 : Int32) : Option (St × Int32) :=
  f_X11_copy_145 K121 z o0 x1 x2 x3 x4 x5 x6 x7 ((x5 - 1) - x7)
def f_X11_copy_143 (K121 : St → Nat → Int32 → Int32 → Int32 → Int32 → Int32 → Int32 → Int32 → Option (St × Int32)) (z : St) (o0 : Nat) (x1 : Int32) (x2 : Int32) (x3 : Int32) (x4 : Int32) (x5 : Int32) (x6 : Int32) (x7 : Int32) : Option (St × Int32) :=
  f_X11_copy_145 K121 z o0 x1 x2 x3 x4 x5 x6 x7 x7
def f_X11_copy_128 (K121 : St → Nat → Int32 → Int32 → Int32 → Int32 → Int32 → Int32 → Int32 → Option (St × Int32)) (z : St) (o0 : Nat) (x1 : Int32) (x2 : Int32) (x3 : Int32) (x4 : Int32) (x5 : Int32) (x6 : Int32) (x7 : Int32) : Option (St × Int32) :=
  if x6 = 0 then f_X11_copy_143 K121 z o0 x1 x2 x3 x4 x5 x6 x7 else f_X11_copy_133 K121 z o0 x1 x2 x3 x4 x5 x6 x7
def f_X11_copy_182  (z : St) (x5 : Int32) : Option (St × Int32) :=
  some (z, x5)
def f_X11_copy_121  : Nat → St → Nat → Int32 → Int32 → Int32 → Int32 → Int32 → Int32 → Int32 → Option (St × Int32)
  | 0, _, _, _, _, _, _, _, _, _ => none
  | n + 1, z, o0, x1, x2, x3, x4, x5, x6, x7 => if x5 ≤ x7 then f_X11_copy_182 z x5 else f_X11_copy_128 (f_X11_copy_121 n) z o0 x1 x2 x3 x4 x5 x6 x7
def f_X11_copy_116  (z : St) (o0 : Nat) (x1 : Int32) (x2 : Int32) (x3 : Int32) (x4 : Int32) (x5 : Int32) (s0 : Int32) : Option (St × Int32) :=
  f_X11_copy_121 FU z o0 x1 x2 x3 x4 x5 s0 0
def f_X11_copy_111  (z : St) (o0 : Nat) (x1 : Int32) (x2 : Int32) (x3 : Int32) (x4 : Int32) (x5 : Int32) : Option (St × Int32) :=
  f_X11_copy_116 z o0 x1 x2 x3 x4 x5 1
def f_X11_copy_115  (z : St) (o0 : Nat) (x1 : Int32) (x2 : Int32) (x3 : Int32) (x4 : Int32) (x5 : Int32) : Option (St × Int32) :=
  f_X11_copy_116 z o0 x1 x2 x3 x4 x5 0
def f_X11_copy_105  (z : St) (o0 : Nat) (x1 : Int32) (x2 : Int32) (x3 : Int32) (x4 : Int32) (x5 : Int32) : Option (St × Int32) :=
  if x4 ≤ x2 then f_X11_copy_115 z o0 x1 x2 x3 x4 x5 else f_X11_copy_111 z o0 x1 x2 x3 x4 x5
def f_X11_copy_100  (z : St) (o0 : Nat) (x1 : Int32) (x2 : Int32) (x3 : Int32) (x4 : Int32) (x5 : Int32) : Option (St × Int32) :=
  if x1 = x3 then f_X11_copy_105 z o0 x1 x2 x3 x4 x5 else f_X11_copy_115 z o0 x1 x2 x3 x4 x5
def f_X11_copy_83  (z : St) (o0 : Nat) (x1 : Int32) (x2 : Int32) (x3 : Int32) (x4 : Int32) (x5 : Int32) : Option (St × Int32) :=
  if inb x3 4 = true then (if x5 ≤ ((z.1 (rf o0 55) (Int32.toNatClampNeg x3)) - x4) then f_X11_copy_100 z o0 x1 x2 x3 x4 x5 else f_X11_copy_97 z) else none
def f_X11_copy_70  (z : St) (o0 : Nat) (x1 : Int32) (x2 : Int32) (x3 : Int32) (x4 : Int32) (x5 : Int32) : Option (St × Int32) :=
  if inb x1 4 = true then (if ((z.1 (rf o0 55) (Int32.toNatClampNeg x1)) - x2) < x5 then f_X11_copy_97 z else f_X11_copy_83 z o0 x1 x2 x3 x4 x5) else none
def f_X11_copy_65  (z : St) (o0 : Nat) (x1 : Int32) (x2 : Int32) (x3 : Int32) (x4 : Int32) (x5 : Int32) : Option (St × Int32) :=
  if x4 < 0 then f_X11_copy_97 z else f_X11_copy_70 z o0 x1 x2 x3 x4 x5
def f_X11_copy_61  (z : St) (o0 : Nat) (x1 : Int32) (x2 : Int32) (x3 : Int32) (x4 : Int32) (x5 : Int32) : Option (St × Int32) :=
  if x2 < 0 then f_X11_copy_97 z else f_X11_copy_65 z o0 x1 x2 x3 x4 x5
def f_X11_copy_56  (z : St) (o0 : Nat) (x1 : Int32) (x2 : Int32) (x3 : Int32) (x4 : Int32) (x5 : Int32) : Option (St × Int32) :=
  if x5 < 0 then f_X11_copy_97 z else f_X11_copy_61 z o0 x1 x2 x3 x4 x5
def f_X11_copy_38  (z : St) (o0 : Nat) (x1 : Int32) (x2 : Int32) (x3 : Int32) (x4 : Int32) (x5 : Int32) : Option (St × Int32) :=
  if inb x1 4 = true then (if inb x3 4 = true then (if (z.1 (rf o0 54) (Int32.toNatClampNeg x1)) = (z.1 (rf o0 54) (Int32.toNatClampNeg x3)) then f_X11_copy_56 z o0 x1 x2 x3 x4 x5 else f_X11_copy_53 z) else none) else none
def f_X11_copy_26  (z : St) (o0 : Nat) (x1 : Int32) (x2 : Int32) (x3 : Int32) (x4 : Int32) (x5 : Int32) : Option (St × Int32) :=
  if inb x3 4 = true then (if 0 ≤ (z.1 (rf o0 54) (Int32.toNatClampNeg x3)) then f_X11_copy_38 z o0 x1 x2 x3 x4 x5 else f_X11_copy_35 z) else none
def f_X11_copy_17  (z : St) (o0 : Nat) (x1 : Int32) (x2 : Int32) (x3 : Int32) (x4 : Int32) (x5 : Int32) : Option (St × Int32) :=
  if inb x1 4 = true then (if (z.1 (rf o0 54) (Int32.toNatClampNeg x1)) < 0 then f_X11_copy_35 z else f_X11_copy_26 z o0 x1 x2 x3 x4 x5) else none
def f_X11_copy_7  (z : St) (o0 : Nat) (x1 : Int32) (x2 : Int32) (x3 : Int32) (x4 : Int32) (x5 : Int32) : Option (St × Int32) :=
  ((f_X11_isSheet z x3).bind fun r1 => if r1.2 = 0 then f_X11_copy_14 r1.1 else f_X11_copy_17 r1.1 o0 x1 x2 x3 x4 x5)
def f_X11_copy_0  (z : St) (o0 : Nat) (x1 : Int32) (x2 : Int32) (x3 : Int32) (x4 : Int32) (x5 : Int32) : Option (St × Int32) :=
  ((f_X11_isSheet z x1).bind fun r1 => if r1.2 = 0 then f_X11_copy_14 r1.1 else f_X11_copy_7 r1.1 o0 x1 x2 x3 x4 x5)
def f_X11_copy (z : St) (o0 : Nat) (x1 : Int32) (x2 : Int32) (x3 : Int32) (x4 : Int32) (x5 : Int32) : Option (St × Int32) := f_X11_copy_0 z o0 x1 x2 x3 x4 x5
