abbrev rm_J6_bitCount_0f7a4 : Room := { frames := 0, cells := 0, slots := 0, locals := 0 }
def f_J6_bitCount_0f7a4_0 (a1 : Int32) : Option (Int32) :=
  some ((((((((a1 - (((a1.toUInt32 >>> ((1 : Int32).toUInt32 &&& Int32.toUInt32 31)).toInt32) &&& (1431655765 : Int32))) &&& (858993459 : Int32)) + ((((a1 - (((a1.toUInt32 >>> ((1 : Int32).toUInt32 &&& Int32.toUInt32 31)).toInt32) &&& (1431655765 : Int32))).toUInt32 >>> ((2 : Int32).toUInt32 &&& Int32.toUInt32 31)).toInt32) &&& (858993459 : Int32))) + (((((a1 - (((a1.toUInt32 >>> ((1 : Int32).toUInt32 &&& Int32.toUInt32 31)).toInt32) &&& (1431655765 : Int32))) &&& (858993459 : Int32)) + ((((a1 - (((a1.toUInt32 >>> ((1 : Int32).toUInt32 &&& Int32.toUInt32 31)).toInt32) &&& (1431655765 : Int32))).toUInt32 >>> ((2 : Int32).toUInt32 &&& Int32.toUInt32 31)).toInt32) &&& (858993459 : Int32))).toUInt32 >>> ((4 : Int32).toUInt32 &&& Int32.toUInt32 31)).toInt32)) &&& (252645135 : Int32)) + (((((((a1 - (((a1.toUInt32 >>> ((1 : Int32).toUInt32 &&& Int32.toUInt32 31)).toInt32) &&& (1431655765 : Int32))) &&& (858993459 : Int32)) + ((((a1 - (((a1.toUInt32 >>> ((1 : Int32).toUInt32 &&& Int32.toUInt32 31)).toInt32) &&& (1431655765 : Int32))).toUInt32 >>> ((2 : Int32).toUInt32 &&& Int32.toUInt32 31)).toInt32) &&& (858993459 : Int32))) + (((((a1 - (((a1.toUInt32 >>> ((1 : Int32).toUInt32 &&& Int32.toUInt32 31)).toInt32) &&& (1431655765 : Int32))) &&& (858993459 : Int32)) + ((((a1 - (((a1.toUInt32 >>> ((1 : Int32).toUInt32 &&& Int32.toUInt32 31)).toInt32) &&& (1431655765 : Int32))).toUInt32 >>> ((2 : Int32).toUInt32 &&& Int32.toUInt32 31)).toInt32) &&& (858993459 : Int32))).toUInt32 >>> ((4 : Int32).toUInt32 &&& Int32.toUInt32 31)).toInt32)) &&& (252645135 : Int32)).toUInt32 >>> ((8 : Int32).toUInt32 &&& Int32.toUInt32 31)).toInt32)) + ((((((((a1 - (((a1.toUInt32 >>> ((1 : Int32).toUInt32 &&& Int32.toUInt32 31)).toInt32) &&& (1431655765 : Int32))) &&& (858993459 : Int32)) + ((((a1 - (((a1.toUInt32 >>> ((1 : Int32).toUInt32 &&& Int32.toUInt32 31)).toInt32) &&& (1431655765 : Int32))).toUInt32 >>> ((2 : Int32).toUInt32 &&& Int32.toUInt32 31)).toInt32) &&& (858993459 : Int32))) + (((((a1 - (((a1.toUInt32 >>> ((1 : Int32).toUInt32 &&& Int32.toUInt32 31)).toInt32) &&& (1431655765 : Int32))) &&& (858993459 : Int32)) + ((((a1 - (((a1.toUInt32 >>> ((1 : Int32).toUInt32 &&& Int32.toUInt32 31)).toInt32) &&& (1431655765 : Int32))).toUInt32 >>> ((2 : Int32).toUInt32 &&& Int32.toUInt32 31)).toInt32) &&& (858993459 : Int32))).toUInt32 >>> ((4 : Int32).toUInt32 &&& Int32.toUInt32 31)).toInt32)) &&& (252645135 : Int32)) + (((((((a1 - (((a1.toUInt32 >>> ((1 : Int32).toUInt32 &&& Int32.toUInt32 31)).toInt32) &&& (1431655765 : Int32))) &&& (858993459 : Int32)) + ((((a1 - (((a1.toUInt32 >>> ((1 : Int32).toUInt32 &&& Int32.toUInt32 31)).toInt32) &&& (1431655765 : Int32))).toUInt32 >>> ((2 : Int32).toUInt32 &&& Int32.toUInt32 31)).toInt32) &&& (858993459 : Int32))) + (((((a1 - (((a1.toUInt32 >>> ((1 : Int32).toUInt32 &&& Int32.toUInt32 31)).toInt32) &&& (1431655765 : Int32))) &&& (858993459 : Int32)) + ((((a1 - (((a1.toUInt32 >>> ((1 : Int32).toUInt32 &&& Int32.toUInt32 31)).toInt32) &&& (1431655765 : Int32))).toUInt32 >>> ((2 : Int32).toUInt32 &&& Int32.toUInt32 31)).toInt32) &&& (858993459 : Int32))).toUInt32 >>> ((4 : Int32).toUInt32 &&& Int32.toUInt32 31)).toInt32)) &&& (252645135 : Int32)).toUInt32 >>> ((8 : Int32).toUInt32 &&& Int32.toUInt32 31)).toInt32)).toUInt32 >>> ((16 : Int32).toUInt32 &&& Int32.toUInt32 31)).toInt32)) &&& (63 : Int32))
def f_J6_bitCount_0f7a4 (a1 : Int32) : Option (Int32) :=
  f_J6_bitCount_0f7a4_0 a1
abbrev rm_J9_floorMod_7cf53 : Room := { frames := 0, cells := 0, slots := 0, locals := 0 }
def f_J9_floorMod_7cf53_0 (a1 : Int32) (a2 : Int32) : Option (Int32) :=
  (if a2 = 0 then none else (if 0 ≤ (a1 ^^^ a2) then some (a1 - a1 / a2 * a2) else (if (a1 - a1 / a2 * a2) = 0 then some (a1 - a1 / a2 * a2) else some ((a1 - a1 / a2 * a2) + a2))))
def f_J9_floorMod_7cf53 (a1 : Int32) (a2 : Int32) : Option (Int32) :=
  f_J9_floorMod_7cf53_0 a1 a2
abbrev rm_X5_endsAt : Room := { frames := 0, cells := 0, slots := 0, locals := 0 }
def f_X5_endsAt_0 (χ : Mem) (i0 : Nat) (a1 : Nat) : Option (Int32) :=
  (if (gN χ 6 i0) = a1 then some (1 : Int32) else (if (gN χ 7 i0) = a1 then some (1 : Int32) else some (0 : Int32)))
def f_X5_endsAt (χ : Mem) (i0 : Nat) (a1 : Nat) : Option (Int32) :=
  f_X5_endsAt_0 χ i0 a1
abbrev rm_X5_isOf : Room := { frames := 0, cells := 0, slots := 0, locals := 0 }
def f_X5_isOf_0 (χ : Mem) (i0 : Nat) (a1 : Int32) : Option (Int32) :=
  (if a1 = 0 then some (1 : Int32) else (if (gI χ 7 i0) = a1 then some (1 : Int32) else (if (gI χ 7 i0) = (4 : Int32) then (if a1 = (3 : Int32) then some (1 : Int32) else some (0 : Int32)) else some (0 : Int32))))
def f_X5_isOf (χ : Mem) (i0 : Nat) (a1 : Int32) : Option (Int32) :=
  f_X5_isOf_0 χ i0 a1
abbrev rm_X5_joins : Room := { frames := 0, cells := 0, slots := 0, locals := 0 }
def f_X5_joins_16 (χ : Mem) (i0 : Nat) (v1 : Nat) (v2 : Nat) : Option (Int32) :=
  (if (gN χ 6 i0) = v2 then (if (gN χ 7 i0) = v1 then some (1 : Int32) else some (0 : Int32)) else some (0 : Int32))
def f_X5_joins_0 (χ : Mem) (i0 : Nat) (a1 : Nat) (a2 : Nat) : Option (Int32) :=
  (if (gN χ 6 i0) = a1 then (if (gN χ 7 i0) = a2 then some (1 : Int32) else f_X5_joins_16 χ i0 a1 a2) else f_X5_joins_16 χ i0 a1 a2)
def f_X5_joins (χ : Mem) (i0 : Nat) (a1 : Nat) (a2 : Nat) : Option (Int32) :=
  f_X5_joins_0 χ i0 a1 a2
abbrev rm_X5_reach : Room := { frames := 1, cells := 0, slots := 0, locals := 21 }
def f_X5_reach_29 (χ : Mem) (i0 : Nat) (v1 : Nat) (v2 : Int32) (s0 : Nat) : Option (Int32) :=
  (if v2 = 0 then some ((gI χ 1 v1) - (gI χ 1 s0)) else some ((gI χ 2 v1) - (gI χ 2 s0)))
def f_X5_reach_0 (χ : Mem) (i0 : Nat) (a1 : Nat) (a2 : Int32) : Option (Int32) :=
  ((f_X5_endsAt χ i0 a1).bind fun q1 => (if q1 = 0 then some (0 : Int32) else (if a1 = (gN χ 6 i0) then f_X5_reach_29 χ i0 a1 a2 (gN χ 7 i0) else f_X5_reach_29 χ i0 a1 a2 (gN χ 6 i0))))
def f_X5_reach (χ : Mem) (i0 : Nat) (a1 : Nat) (a2 : Int32) : Option (Int32) :=
  f_X5_reach_0 χ i0 a1 a2
abbrev rm_X2_areJoined : Room := { frames := 3, cells := 0, slots := 0, locals := 65 }
def f_X2_areJoined_2 (χ : Mem) : Nat → Nat → Nat → Int32 → Option (Int32)
  | 0, _, _, _ => none
  | n + 1, v1, v2, v3 => (if (gI χ 14 1) ≤ v3 then some (0 : Int32) else (if inB v3 (lsz χ 1) = true then ((f_X5_joins χ (gN χ 1 v3.toNatClampNeg) v1 v2).bind fun q4 => (if q4 = 0 then f_X2_areJoined_2 χ n v1 v2 (v3 + (1 : Int32)) else some (1 : Int32))) else none))
def f_X2_areJoined_0 (χ : Mem) (a1 : Nat) (a2 : Nat) : Option (Int32) :=
  f_X2_areJoined_2 χ FU a1 a2 (0 : Int32)
def f_X2_areJoined (χ : Mem) (a1 : Nat) (a2 : Nat) : Option (Int32) :=
  f_X2_areJoined_0 χ a1 a2
abbrev rm_X2_isPin : Room := { frames := 1, cells := 0, slots := 0, locals := 20 }
def f_X2_isPin_0 (χ : Mem) (a1 : Int32) : Option (Int32) :=
  (if a1 < 0 then some (0 : Int32) else (if (gI χ 14 0) ≤ a1 then some (0 : Int32) else some (1 : Int32)))
def f_X2_isPin (χ : Mem) (a1 : Int32) : Option (Int32) :=
  f_X2_isPin_0 χ a1
abbrev rm_X2_isRod : Room := { frames := 1, cells := 0, slots := 0, locals := 20 }
def f_X2_isRod_0 (χ : Mem) (a1 : Int32) : Option (Int32) :=
  (if a1 < 0 then some (0 : Int32) else (if (gI χ 14 1) ≤ a1 then some (0 : Int32) else some (1 : Int32)))
def f_X2_isRod (χ : Mem) (a1 : Int32) : Option (Int32) :=
  f_X2_isRod_0 χ a1
abbrev rm_X2_pinAt : Room := { frames := 3, cells := 0, slots := 0, locals := 65 }
def f_X2_pinAt_2 (χ : Mem) : Nat → Int32 → Int32 → Int32 → Option (Option Nat)
  | 0, _, _, _ => none
  | n + 1, v1, v2, v3 => (if (gI χ 14 0) ≤ v3 then some none else (if inB v3 (lsz χ 0) = true then (if (gI χ 1 (gN χ 0 v3.toNatClampNeg)) = v1 then (if (gI χ 2 (gN χ 0 v3.toNatClampNeg)) = v2 then some (some (gN χ 0 v3.toNatClampNeg)) else f_X2_pinAt_2 χ n v1 v2 (v3 + (1 : Int32))) else f_X2_pinAt_2 χ n v1 v2 (v3 + (1 : Int32))) else none))
def f_X2_pinAt_0 (χ : Mem) (a1 : Int32) (a2 : Int32) : Option (Option Nat) :=
  f_X2_pinAt_2 χ FU a1 a2 (0 : Int32)
def f_X2_pinAt (χ : Mem) (a1 : Int32) (a2 : Int32) : Option (Option Nat) :=
  f_X2_pinAt_0 χ a1 a2
abbrev rm_X2_planeMotions : Room := { frames := 1, cells := 0, slots := 0, locals := 20 }
def f_X2_planeMotions_0 (χ : Mem) : Option (Int32) :=
  (if (gI χ 14 2) = 0 then some (0 : Int32) else (if ((gI χ 14 0) - (gI χ 14 2)) ≤ (1 : Int32) then (if ((gI χ 14 0) - (gI χ 14 2)) = (1 : Int32) then some (1 : Int32) else (if (gI χ 14 2) = (1 : Int32) then some (2 : Int32) else some (3 : Int32))) else some (0 : Int32)))
def f_X2_planeMotions (χ : Mem) : Option (Int32) :=
  f_X2_planeMotions_0 χ
abbrev rm_X2_rodsInAt : Room := { frames := 3, cells := 0, slots := 0, locals := 65 }
def f_X2_rodsInAt_4 (χ : Mem) : Nat → Nat → Int32 → Int32 → Option (Int32)
  | 0, _, _, _ => none
  | n + 1, v1, v2, v3 => (if (gI χ 14 3) ≤ v3 then some v2 else (if inB v3 (lsz χ 3) = true then ((f_X5_endsAt χ (gN χ 3 v3.toNatClampNeg) v1).bind fun q4 => (if q4 = 0 then f_X2_rodsInAt_4 χ n v1 v2 (v3 + (1 : Int32)) else f_X2_rodsInAt_4 χ n v1 (v2 + (1 : Int32)) (v3 + (1 : Int32)))) else none))
def f_X2_rodsInAt_0 (χ : Mem) (a1 : Nat) : Option (Int32) :=
  f_X2_rodsInAt_4 χ FU a1 (0 : Int32) (0 : Int32)
def f_X2_rodsInAt (χ : Mem) (a1 : Nat) : Option (Int32) :=
  f_X2_rodsInAt_0 χ a1
abbrev rm_X7_layRodsAsColumns : Room := { frames := 3, cells := 0, slots := 0, locals := 65 }
def f_X7_layRodsAsColumns_45 (χ : Mem) (k20 : Mem → Nat → Nat → Int32 → Option (Mem)) : Nat → Mem → Nat → Nat → Int32 → Nat → Int32 → Option (Mem)
  | 0, _, _, _, _, _, _ => none
  | n + 1, τ, v1, v2, v3, v4, v5 => (if (gI τ 4 0) ≤ v5 then (if inB v3 15 = true then (if (v3 - v3 / (2 : Int32) * (2 : Int32)) = 0 then (if inB (gI τ 4 0) 16 = true then k20 (wL τ v3.toNatClampNeg ((gI τ 4 0).toNatClampNeg) ((gI χ 4 v4).toInt64)) v1 v2 (v3 + (1 : Int32)) else none) else (if inB (gI τ 4 0) 16 = true then k20 (wL τ v3.toNatClampNeg ((gI τ 4 0).toNatClampNeg) ((gI χ 5 v4).toInt64)) v1 v2 (v3 + (1 : Int32)) else none)) else none) else (if inB v3 15 = true then (if inB v5 (lsz χ v1) = true then ((f_X5_reach χ (gN χ v1 v5.toNatClampNeg) v4 (v3 - v3 / (2 : Int32) * (2 : Int32))).bind fun q9 => (if inB v5 16 = true then f_X7_layRodsAsColumns_45 χ k20 n (wL τ v3.toNatClampNeg v5.toNatClampNeg q9.toInt64) v1 v2 v3 v4 (v5 + (1 : Int32)) else none)) else none) else none))
def f_X7_layRodsAsColumns_20 (χ : Mem) : Nat → Mem → Nat → Nat → Int32 → Option (Mem)
  | 0, _, _, _, _ => none
  | n + 1, τ, v1, v2, v3 => (if (gI τ 3 0) ≤ v3 then some τ else (if inB (v3 / (2 : Int32)) (lsz χ v2) = true then f_X7_layRodsAsColumns_45 χ (f_X7_layRodsAsColumns_20 χ n) FU τ v1 v2 v3 (gN χ v2 (v3 / (2 : Int32)).toNatClampNeg) (0 : Int32) else none))
def f_X7_layRodsAsColumns_0 (χ : Mem) (τ : Mem) (a1 : Nat) (a2 : Nat) : Option (Mem) :=
  ((f_X7_start τ ((2 : Int32) * (gI χ 14 a2)) (gI χ 14 a1)).bind fun q1 => f_X7_layRodsAsColumns_20 χ FU q1 a1 a2 (0 : Int32))
def f_X7_layRodsAsColumns (χ : Mem) (τ : Mem) (a1 : Nat) (a2 : Nat) : Option (Mem) :=
  f_X7_layRodsAsColumns_0 χ τ a1 a2
abbrev rm_X7_layRodsAsRows : Room := { frames := 3, cells := 0, slots := 0, locals := 65 }
def f_X7_layRodsAsRows_31 (χ : Mem) (k20 : Mem → Nat → Nat → Int32 → Option (Mem)) : Nat → Mem → Nat → Nat → Int32 → Int32 → Option (Mem)
  | 0, _, _, _, _, _ => none
  | n + 1, τ, v1, v2, v3, v4 => (if (gI τ 4 0) ≤ v4 then (if inB v3 15 = true then (if inB (gI τ 4 0) 16 = true then k20 (wL τ v3.toNatClampNeg ((gI τ 4 0).toNatClampNeg) (0 : Int64)) v1 v2 (v3 + (1 : Int32)) else none) else none) else (if inB v3 15 = true then (if inB v3 (lsz χ v1) = true then (if inB (v4 / (2 : Int32)) (lsz χ v2) = true then ((f_X5_reach χ (gN χ v1 v3.toNatClampNeg) (gN χ v2 (v4 / (2 : Int32)).toNatClampNeg) (v4 - v4 / (2 : Int32) * (2 : Int32))).bind fun q9 => (if inB v4 16 = true then f_X7_layRodsAsRows_31 χ k20 n (wL τ v3.toNatClampNeg v4.toNatClampNeg q9.toInt64) v1 v2 v3 (v4 + (1 : Int32)) else none)) else none) else none) else none))
def f_X7_layRodsAsRows_20 (χ : Mem) : Nat → Mem → Nat → Nat → Int32 → Option (Mem)
  | 0, _, _, _, _ => none
  | n + 1, τ, v1, v2, v3 => (if (gI τ 3 0) ≤ v3 then some τ else f_X7_layRodsAsRows_31 χ (f_X7_layRodsAsRows_20 χ n) FU τ v1 v2 v3 (0 : Int32))
def f_X7_layRodsAsRows_0 (χ : Mem) (τ : Mem) (a1 : Nat) (a2 : Nat) : Option (Mem) :=
  ((f_X7_start τ (gI χ 14 a1) ((2 : Int32) * (gI χ 14 a2))).bind fun q1 => f_X7_layRodsAsRows_20 χ FU q1 a1 a2 (0 : Int32))
def f_X7_layRodsAsRows (χ : Mem) (τ : Mem) (a1 : Nat) (a2 : Nat) : Option (Mem) :=
  f_X7_layRodsAsRows_0 χ τ a1 a2
abbrev rm_X0_isCarried : Room := { frames := 1, cells := 0, slots := 0, locals := 21 }
def f_X0_isCarried_0 (χ : Mem) (T : Nat → Mem) : Option (Int32) :=
  ((f_X7_hasSolution (T 1)).bind fun q1 => (if q1 = 0 ∨ q1 = 1 then some q1 else none))
def f_X0_isCarried (χ : Mem) (T : Nat → Mem) : Option (Int32) :=
  f_X0_isCarried_0 χ T
abbrev rm_X0_columnOf : Room := { frames := 3, cells := 0, slots := 0, locals := 65 }
def f_X0_columnOf_2 (χ : Mem) (T : Nat → Mem) : Nat → Nat → Int32 → Option (Int32)
  | 0, _, _ => none
  | n + 1, v1, v2 => (if (gI χ 14 3) ≤ v2 then some (-1 : Int32) else (if inB v2 (lsz χ 3) = true then (if (gN χ 3 v2.toNatClampNeg) = v1 then some v2 else f_X0_columnOf_2 χ T n v1 (v2 + (1 : Int32))) else none))
def f_X0_columnOf_0 (χ : Mem) (T : Nat → Mem) (a1 : Nat) : Option (Int32) :=
  f_X0_columnOf_2 χ T FU a1 (0 : Int32)
def f_X0_columnOf (χ : Mem) (T : Nat → Mem) (a1 : Nat) : Option (Int32) :=
  f_X0_columnOf_0 χ T a1
abbrev rm_X0_forceAbove : Room := { frames := 4, cells := 0, slots := 0, locals := 87 }
def f_X0_forceAbove_0 (χ : Mem) (T : Nat → Mem) (a1 : Nat) : Option (Int64) :=
  (if (gI χ 9 a1) = 0 then some (0 : Int64) else ((f_X0_columnOf χ T a1).bind fun q2 => ((f_X7_solutionAbove (T 1) q2).bind fun q3 => some q3)))
def f_X0_forceAbove (χ : Mem) (T : Nat → Mem) (a1 : Nat) : Option (Int64) :=
  f_X0_forceAbove_0 χ T a1
abbrev rm_X0_forceBelow : Room := { frames := 4, cells := 0, slots := 0, locals := 98 }
def f_X0_forceBelow_0 (χ : Mem) (T : Nat → Mem) (a1 : Nat) : Option (Int64) :=
  (if (gI χ 9 a1) = 0 then some (1 : Int64) else ((f_X0_columnOf χ T a1).bind fun q2 => ((f_X7_solutionBelow (T 1) q2).bind fun q3 => some q3)))
def f_X0_forceBelow (χ : Mem) (T : Nat → Mem) (a1 : Nat) : Option (Int64) :=
  f_X0_forceBelow_0 χ T a1
abbrev rm_X0_motionCount : Room := { frames := 1, cells := 0, slots := 0, locals := 20 }
def f_X0_motionCount_0 (χ : Mem) (T : Nat → Mem) : Option (Int32) :=
  ((f_X7_looseColumns (T 0)).bind fun q1 => some q1)
def f_X0_motionCount (χ : Mem) (T : Nat → Mem) : Option (Int32) :=
  f_X0_motionCount_0 χ T
abbrev rm_X0_motionNumber : Room := { frames := 3, cells := 0, slots := 0, locals := 65 }
def f_X0_motionNumber_3 (χ : Mem) (T : Nat → Mem) : Nat → Int32 → Nat → Int32 → Int32 → Option (Int64)
  | 0, _, _, _, _ => none
  | n + 1, v1, v2, v3, v4 => (if (gI χ 14 2) ≤ v4 then some (0 : Int64) else (if inB v4 (lsz χ 2) = true then (if (gN χ 2 v4.toNatClampNeg) = v2 then ((f_X7_answer (T 0) v1 (((2 : Int32) * v4) + v3)).bind fun q5 => some q5) else f_X0_motionNumber_3 χ T n v1 v2 v3 (v4 + (1 : Int32))) else none))
def f_X0_motionNumber_0 (χ : Mem) (T : Nat → Mem) (a1 : Int32) (a2 : Nat) (a3 : Int32) : Option (Int64) :=
  f_X0_motionNumber_3 χ T FU a1 a2 a3 (0 : Int32)
def f_X0_motionNumber (χ : Mem) (T : Nat → Mem) (a1 : Int32) (a2 : Nat) (a3 : Int32) : Option (Int64) :=
  f_X0_motionNumber_0 χ T a1 a2 a3
abbrev rm_X0_stressCount : Room := { frames := 1, cells := 0, slots := 0, locals := 20 }
def f_X0_stressCount_0 (χ : Mem) (T : Nat → Mem) : Option (Int32) :=
  ((f_X7_looseColumns (T 1)).bind fun q1 => some q1)
def f_X0_stressCount (χ : Mem) (T : Nat → Mem) : Option (Int32) :=
  f_X0_stressCount_0 χ T
abbrev rm_X0_stressNumber : Room := { frames := 4, cells := 0, slots := 0, locals := 87 }
def f_X0_stressNumber_0 (χ : Mem) (T : Nat → Mem) (a1 : Int32) (a2 : Nat) : Option (Int64) :=
  (if (gI χ 9 a2) = 0 then some (0 : Int64) else ((f_X0_columnOf χ T a2).bind fun q2 => ((f_X7_answer (T 1) a1 q2).bind fun q3 => some q3)))
def f_X0_stressNumber (χ : Mem) (T : Nat → Mem) (a1 : Int32) (a2 : Nat) : Option (Int64) :=
  f_X0_stressNumber_0 χ T a1 a2
abbrev rm_X0_workOf : Room := { frames := 3, cells := 0, slots := 0, locals := 65 }
def f_X0_workOf_5 (χ : Mem) (T : Nat → Mem) : Nat → Int32 → Int64 → Int32 → Option (Int64)
  | 0, _, _, _ => none
  | n + 1, v1, v2, v4 => (if (gI χ 14 2) ≤ v4 then some v2 else (if inB v4 (lsz χ 2) = true then ((f_X7_answer (T 0) v1 ((2 : Int32) * v4)).bind fun q4 => ((f_X7_answer (T 0) v1 (((2 : Int32) * v4) + (1 : Int32))).bind fun q5 => f_X0_workOf_5 χ T n v1 ((v2 + (q4 * ((gI χ 4 (gN χ 2 v4.toNatClampNeg)).toInt64))) + (q5 * ((gI χ 5 (gN χ 2 v4.toNatClampNeg)).toInt64))) (v4 + (1 : Int32)))) else none))
def f_X0_workOf_0 (χ : Mem) (T : Nat → Mem) (a1 : Int32) : Option (Int64) :=
  f_X0_workOf_5 χ T FU a1 (0 : Int64) (0 : Int32)
def f_X0_workOf (χ : Mem) (T : Nat → Mem) (a1 : Int32) : Option (Int64) :=
  f_X0_workOf_0 χ T a1
abbrev rm_X0_renew : Room := { frames := 5, cells := 0, slots := 0, locals := 126 }
def f_X0_renew_0 (χ : Mem) (T : Nat → Mem) : Option (Mem × (Nat → Mem)) :=
  ((f_X7_layRodsAsRows χ (T 0) 3 2).bind fun q1 => ((f_X7_reduce ((stT T 0 q1) 0)).bind fun q2 => ((f_X7_layRodsAsColumns χ ((stT (stT T 0 q1) 0 q2) 1) 3 2).bind fun q3 => ((f_X7_reduce ((stT (stT (stT T 0 q1) 0 q2) 1 q3) 1)).bind fun q4 => some (χ, (stT (stT (stT (stT T 0 q1) 0 q2) 1 q3) 1 q4))))))
def f_X0_renew (χ : Mem) (T : Nat → Mem) : Option (Mem × (Nat → Mem)) :=
  f_X0_renew_0 χ T
abbrev rm_X1_bitOf : Room := { frames := 0, cells := 0, slots := 0, locals := 0 }
def f_X1_bitOf_0 (a1 : Int32) : Option (Int32) :=
  some ((64 : Int32) >>> ((a1 + (1 : Int32)) &&& 31))
def f_X1_bitOf (a1 : Int32) : Option (Int32) :=
  f_X1_bitOf_0 a1
abbrev rm_X1_holds : Room := { frames := 0, cells := 0, slots := 0, locals := 0 }
def f_X1_holds_0 (a1 : Int32) (a2 : Int32) : Option (Int32) :=
  (if (a1 &&& a2) = a2 then some (1 : Int32) else some (0 : Int32))
def f_X1_holds (a1 : Int32) (a2 : Int32) : Option (Int32) :=
  f_X1_holds_0 a1 a2
abbrev rm_X1_isInBody : Room := { frames := 1, cells := 0, slots := 0, locals := 21 }
def f_X1_isInBody_2 (χ : Mem) : Nat → Int32 → Int32 → Option (Int32)
  | 0, _, _ => none
  | n + 1, v1, v2 => (if (gI χ 10 0) ≤ v2 then some (0 : Int32) else (if inB v2 64 = true then ((f_X1_holds (gI χ 13 v2.toNatClampNeg) v1).bind fun q3 => (if q3 = 0 then f_X1_isInBody_2 χ n v1 (v2 + (1 : Int32)) else some (1 : Int32))) else none))
def f_X1_isInBody_0 (χ : Mem) (a1 : Int32) : Option (Int32) :=
  f_X1_isInBody_2 χ FU a1 (0 : Int32)
def f_X1_isInBody (χ : Mem) (a1 : Int32) : Option (Int32) :=
  f_X1_isInBody_0 χ a1
abbrev rm_X1_surplus : Room := { frames := 1, cells := 0, slots := 0, locals := 20 }
def f_X1_surplus_0 (χ : Mem) : Option (Int32) :=
  some ((gI χ 14 3) - (gI χ 11 0))
def f_X1_surplus (χ : Mem) : Option (Int32) :=
  f_X1_surplus_0 χ
abbrev rm_X1_endsOf : Room := { frames := 1, cells := 0, slots := 0, locals := 20 }
def f_X1_endsOf_0 (χ : Mem) (a1 : Nat) : Option (Int32) :=
  ((f_X1_bitOf (gI χ 0 (gN χ 6 a1))).bind fun q2 => ((f_X1_bitOf (gI χ 0 (gN χ 7 a1))).bind fun q4 => some (q2 ||| q4)))
def f_X1_endsOf (χ : Mem) (a1 : Nat) : Option (Int32) :=
  f_X1_endsOf_0 χ a1
abbrev rm_X1_mostRods : Room := { frames := 0, cells := 0, slots := 0, locals := 0 }
def f_X1_mostRods_0 (a1 : Int32) : Option (Int32) :=
  some (((2 : Int32) * a1) - (3 : Int32))
def f_X1_mostRods (a1 : Int32) : Option (Int32) :=
  f_X1_mostRods_0 a1
abbrev rm_X1_hasRoom : Room := { frames := 1, cells := 0, slots := 0, locals := 21 }
def f_X1_hasRoom_2 (χ : Mem) : Nat → Int32 → Int32 → Option (Int32)
  | 0, _, _ => none
  | n + 1, v1, v2 => (if (64 : Int32) ≤ v2 then some (1 : Int32) else ((f_X1_holds v2 v1).bind fun q2 => (if q2 = 0 then f_X1_hasRoom_2 χ n v1 (v2 + (1 : Int32)) else (if inB v2 64 = true then ((f_J6_bitCount_0f7a4 v2).bind fun q5 => ((f_X1_mostRods q5).bind fun q6 => (if (gI χ 12 v2.toNatClampNeg) < q6 then f_X1_hasRoom_2 χ n v1 (v2 + (1 : Int32)) else some (0 : Int32)))) else none))))
def f_X1_hasRoom_0 (χ : Mem) (a1 : Int32) : Option (Int32) :=
  f_X1_hasRoom_2 χ FU a1 a1
def f_X1_hasRoom (χ : Mem) (a1 : Int32) : Option (Int32) :=
  f_X1_hasRoom_0 χ a1
abbrev rm_X1_choose : Room := { frames := 1, cells := 0, slots := 0, locals := 21 }
def f_X1_choose_2 : Nat → Mem → Int32 → Int32 → Option (Mem)
  | 0, _, _, _ => none
  | n + 1, χ, v1, v2 => (if (64 : Int32) ≤ v2 then some χ else ((f_X1_holds v2 v1).bind fun q2 => (if q2 = 0 then f_X1_choose_2 n χ v1 (v2 + (1 : Int32)) else (if inB v2 64 = true then f_X1_choose_2 n (wI χ 12 v2.toNatClampNeg ((gI χ 12 v2.toNatClampNeg) + (1 : Int32))) v1 (v2 + (1 : Int32)) else none))))
def f_X1_choose_0 (χ : Mem) (a1 : Int32) : Option (Mem) :=
  f_X1_choose_2 FU χ a1 a1
def f_X1_choose (χ : Mem) (a1 : Int32) : Option (Mem) :=
  f_X1_choose_0 χ a1
abbrev rm_X1_leastBodyOf : Room := { frames := 2, cells := 0, slots := 0, locals := 40 }
def f_X1_leastBodyOf_7 (χ : Mem) : Nat → Int32 → Int32 → Option (Int32)
  | 0, _, _ => none
  | n + 1, v2, v3 => (if (gI χ 10 0) ≤ v3 then some (-1 : Int32) else (if inB v3 64 = true then ((f_X1_holds (gI χ 13 v3.toNatClampNeg) v2).bind fun q3 => (if q3 = 0 then f_X1_leastBodyOf_7 χ n v2 (v3 + (1 : Int32)) else some v3)) else none))
def f_X1_leastBodyOf_0 (χ : Mem) (a1 : Nat) : Option (Int32) :=
  ((f_X1_endsOf χ a1).bind fun q1 => f_X1_leastBodyOf_7 χ FU q1 (0 : Int32))
def f_X1_leastBodyOf (χ : Mem) (a1 : Nat) : Option (Int32) :=
  f_X1_leastBodyOf_0 χ a1
abbrev rm_X1_bodyCount : Room := { frames := 0, cells := 0, slots := 0, locals := 0 }
def f_X1_bodyCount_0 (χ : Mem) : Option (Int32) :=
  some (gI χ 10 0)
def f_X1_bodyCount (χ : Mem) : Option (Int32) :=
  f_X1_bodyCount_0 χ
abbrev rm_X0_isMotion : Room := { frames := 2, cells := 0, slots := 0, locals := 40 }
def f_X0_isMotion_0 (χ : Mem) (T : Nat → Mem) (a1 : Int32) : Option (Int32) :=
  (if a1 < 0 then some (0 : Int32) else ((f_X0_motionCount χ T).bind fun q2 => (if q2 ≤ a1 then some (0 : Int32) else some (1 : Int32))))
def f_X0_isMotion (χ : Mem) (T : Nat → Mem) (a1 : Int32) : Option (Int32) :=
  f_X0_isMotion_0 χ T a1
abbrev rm_X0_isStress : Room := { frames := 2, cells := 0, slots := 0, locals := 40 }
def f_X0_isStress_0 (χ : Mem) (T : Nat → Mem) (a1 : Int32) : Option (Int32) :=
  (if a1 < 0 then some (0 : Int32) else ((f_X0_stressCount χ T).bind fun q2 => (if q2 ≤ a1 then some (0 : Int32) else some (1 : Int32))))
def f_X0_isStress (χ : Mem) (T : Nat → Mem) (a1 : Int32) : Option (Int32) :=
  f_X0_isStress_0 χ T a1
abbrev rm_X0_isNeeded : Room := { frames := 5, cells := 0, slots := 0, locals := 109 }
def f_X0_isNeeded_2 (χ : Mem) (T : Nat → Mem) : Nat → Nat → Int32 → Option (Int32)
  | 0, _, _ => none
  | n + 1, v1, v2 => ((f_X0_stressCount χ T).bind fun q1 => (if q1 ≤ v2 then (if (gI χ 9 v1) = 0 ∨ (gI χ 9 v1) = 1 then some (gI χ 9 v1) else none) else ((f_X0_stressNumber χ T v2 v1).bind fun q4 => (if q4 = (0 : Int64) then f_X0_isNeeded_2 χ T n v1 (v2 + (1 : Int32)) else some (0 : Int32)))))
def f_X0_isNeeded_0 (χ : Mem) (T : Nat → Mem) (a1 : Nat) : Option (Int32) :=
  f_X0_isNeeded_2 χ T FU a1 (0 : Int32)
def f_X0_isNeeded (χ : Mem) (T : Nat → Mem) (a1 : Nat) : Option (Int32) :=
  f_X0_isNeeded_0 χ T a1
abbrev rm_X1_isBody : Room := { frames := 1, cells := 0, slots := 0, locals := 20 }
def f_X1_isBody_0 (χ : Mem) (a1 : Int32) : Option (Int32) :=
  (if a1 < 0 then some (0 : Int32) else ((f_X1_bodyCount χ).bind fun q2 => (if q2 ≤ a1 then some (0 : Int32) else some (1 : Int32))))
def f_X1_isBody (χ : Mem) (a1 : Int32) : Option (Int32) :=
  f_X1_isBody_0 χ a1
abbrev rm_X1_areAllOne : Room := { frames := 1, cells := 0, slots := 0, locals := 20 }
def f_X1_areAllOne_0 (χ : Mem) : Option (Int32) :=
  (if (gI χ 14 0) < (2 : Int32) then some (0 : Int32) else ((f_X1_mostRods (gI χ 14 0)).bind fun q2 => (if (gI χ 11 0) = q2 then some (1 : Int32) else some (0 : Int32))))
def f_X1_areAllOne (χ : Mem) : Option (Int32) :=
  f_X1_areAllOne_0 χ
abbrev rm_X1_mostEven : Room := { frames := 3, cells := 0, slots := 0, locals := 65 }
def f_X1_mostEven_25 : Nat → Mem → Int32 → Int32 → Int32 → Option (Mem × Int32)
  | 0, _, _, _, _ => none
  | n + 1, χ, v1, v2, v3 => (if (gI χ 14 3) ≤ v3 then some (χ, v2) else (if inB v3 (lsz χ 3) = true then ((f_X1_endsOf χ (gN χ 3 v3.toNatClampNeg)).bind fun q4 => ((f_X1_holds v1 q4).bind fun q5 => (if q5 = 0 then f_X1_mostEven_25 n χ v1 v2 (v3 + (1 : Int32)) else ((f_X1_hasRoom χ q4).bind fun q7 => (if q7 = 0 then f_X1_mostEven_25 n χ v1 v2 (v3 + (1 : Int32)) else ((f_X1_choose χ q4).bind fun q9 => f_X1_mostEven_25 n q9 v1 (v2 + (1 : Int32)) (v3 + (1 : Int32)))))))) else none))
def f_X1_mostEven_2 : Nat → Mem → Int32 → Int32 → Option (Mem × Int32)
  | 0, _, _, _ => none
  | n + 1, χ, v1, v2 => (if (64 : Int32) ≤ v2 then f_X1_mostEven_25 FU χ v1 (0 : Int32) (0 : Int32) else (if inB v2 64 = true then f_X1_mostEven_2 n (wI χ 12 v2.toNatClampNeg (0 : Int32)) v1 (v2 + (1 : Int32)) else none))
def f_X1_mostEven_0 (χ : Mem) (a1 : Int32) : Option (Mem × Int32) :=
  f_X1_mostEven_2 FU χ a1 (0 : Int32)
def f_X1_mostEven (χ : Mem) (a1 : Int32) : Option (Mem × Int32) :=
  f_X1_mostEven_0 χ a1
abbrev rm_X1_isWhole : Room := { frames := 4, cells := 0, slots := 0, locals := 89 }
def f_X1_isWhole_0 (χ : Mem) (a1 : Int32) : Option (Mem × Int32) :=
  ((f_X1_mostEven χ a1).bind fun q1 => ((f_J6_bitCount_0f7a4 a1).bind fun q2 => ((f_X1_mostRods q2).bind fun q3 => (if q1.2 = q3 then some (q1.1, (1 : Int32)) else some (q1.1, (0 : Int32))))))
def f_X1_isWhole (χ : Mem) (a1 : Int32) : Option (Mem × Int32) :=
  f_X1_isWhole_0 χ a1
abbrev rm_X1_renew : Room := { frames := 5, cells := 0, slots := 0, locals := 110 }
def f_X1_renew_18 : Nat → Mem → Int32 → Option (Mem)
  | 0, _, _ => none
  | n + 1, χ, v1 => (if v1 ≤ 0 then some χ else ((f_J6_bitCount_0f7a4 v1).bind fun q2 => (if q2 < (2 : Int32) then f_X1_renew_18 n χ (v1 + (-1 : Int32)) else ((f_X1_isInBody χ v1).bind fun q4 => (if q4 = 0 then ((f_X1_isWhole χ v1).bind fun q6 => (if q6.2 = 0 then f_X1_renew_18 n q6.1 (v1 + (-1 : Int32)) else (if inB (gI q6.1 10 0) 64 = true then f_X1_renew_18 n (wI (wI q6.1 13 ((gI q6.1 10 0).toNatClampNeg) v1) 10 0 ((gI (wI q6.1 13 ((gI q6.1 10 0).toNatClampNeg) v1) 10 0) + (1 : Int32))) (v1 + (-1 : Int32)) else none))) else f_X1_renew_18 n χ (v1 + (-1 : Int32)))))))
def f_X1_renew_0 (χ : Mem) : Option (Mem) :=
  ((f_X1_mostEven χ (63 : Int32)).bind fun q1 => f_X1_renew_18 FU (wI (wI q1.1 11 0 q1.2) 10 0 (0 : Int32)) (63 : Int32))
def f_X1_renew (χ : Mem) : Option (Mem) :=
  f_X1_renew_0 χ
abbrev rm_X1_pinOf : Room := { frames := 2, cells := 0, slots := 0, locals := 41 }
def f_X1_pinOf_5 (χ : Mem) : Nat → Int32 → Int32 → Int32 → Option (Int32)
  | 0, _, _, _ => none
  | n + 1, v1, v3, v4 => (if (6 : Int32) ≤ v4 then some (-1 : Int32) else ((f_X1_isBody χ v1).bind fun q2 => (if q2 = 0 then some (-1 : Int32) else (if inB v1 64 = true then ((f_X1_bitOf v4).bind fun q5 => ((f_X1_holds (gI χ 13 v1.toNatClampNeg) q5).bind fun q6 => (if q6 = 0 then f_X1_pinOf_5 χ n v1 v3 (v4 + (1 : Int32)) else (if v3 = 0 then some v4 else f_X1_pinOf_5 χ n v1 (v3 + (-1 : Int32)) (v4 + (1 : Int32)))))) else none))))
def f_X1_pinOf_0 (χ : Mem) (a1 : Int32) (a2 : Int32) : Option (Int32) :=
  f_X1_pinOf_5 χ FU a1 a2 (0 : Int32)
def f_X1_pinOf (χ : Mem) (a1 : Int32) (a2 : Int32) : Option (Int32) :=
  f_X1_pinOf_0 χ a1 a2
section
variable {p : Program} {l : Launch} {e : Env} {s : State} {m : MethodId} {args : Array Value} {below : List Frame} {meth : Method} {c : Code} {g : Gc} {ad : Nat → Nat → Nat}
set_option maxRecDepth 100000 in
set_option maxHeartbeats 4000000 in
theorem t_J6_bitCount_0f7a4_0 {χ : Mem} {T : Nat → Mem} {σ : Mem} (C : Cx p s m args meth c cJ6_bitCount_0f7a4 1 RJ6 (some .int) COM g) {rr : Int32} (a1 : Int32) (h : f_J6_bitCount_0f7a4_0 a1 = some rr) : JJ p l e rm_J6_bitCount_0f7a4 s m args below meth c 1 g ad (MQ below (PoI g ad χ T σ rr) args s 0 0 (geB g)) χ T σ 0 0 [(0, .int a1)] 0 [] := by
  rw [f_J6_bitCount_0f7a4_0] at h
  refine j_iload_n C 0 rfl rfl dJ6_bitCount_0f7a4_0 ?_
  refine j_iload_n C 0 rfl rfl dJ6_bitCount_0f7a4_1 ?_
  refine j_iconst (v := 1) C (by decide) dJ6_bitCount_0f7a4_2 ?_
  refine j_iushr C dJ6_bitCount_0f7a4_3 ?_
  refine j_ldcwI (v := 1431655765) C mw_593 dJ6_bitCount_0f7a4_4 ?_
  refine j_iand C dJ6_bitCount_0f7a4_7 ?_
  refine j_isub C dJ6_bitCount_0f7a4_8 ?_
  refine j_istore_n (L' := [(0, .int (a1 - (((a1.toUInt32 >>> ((1 : Int32).toUInt32 &&& Int32.toUInt32 31)).toInt32) &&& (1431655765 : Int32))))]) C rfl (by decide) rfl dJ6_bitCount_0f7a4_9 ?_
  refine j_iload_n C 0 rfl rfl dJ6_bitCount_0f7a4_10 ?_
  refine j_ldcwI (v := 858993459) C mw_594 dJ6_bitCount_0f7a4_11 ?_
  refine j_iand C dJ6_bitCount_0f7a4_14 ?_
  refine j_iload_n C 0 rfl rfl dJ6_bitCount_0f7a4_15 ?_
  refine j_iconst (v := 2) C (by decide) dJ6_bitCount_0f7a4_16 ?_
  refine j_iushr C dJ6_bitCount_0f7a4_17 ?_
  refine j_ldcwI (v := 858993459) C mw_594 dJ6_bitCount_0f7a4_18 ?_
  refine j_iand C dJ6_bitCount_0f7a4_21 ?_
  refine j_iadd C dJ6_bitCount_0f7a4_22 ?_
  refine j_istore_n (L' := [(0, .int (((a1 - (((a1.toUInt32 >>> ((1 : Int32).toUInt32 &&& Int32.toUInt32 31)).toInt32) &&& (1431655765 : Int32))) &&& (858993459 : Int32)) + ((((a1 - (((a1.toUInt32 >>> ((1 : Int32).toUInt32 &&& Int32.toUInt32 31)).toInt32) &&& (1431655765 : Int32))).toUInt32 >>> ((2 : Int32).toUInt32 &&& Int32.toUInt32 31)).toInt32) &&& (858993459 : Int32))))]) C rfl (by decide) rfl dJ6_bitCount_0f7a4_23 ?_
  refine j_iload_n C 0 rfl rfl dJ6_bitCount_0f7a4_24 ?_
  refine j_iload_n C 0 rfl rfl dJ6_bitCount_0f7a4_25 ?_
  refine j_iconst (v := 4) C (by decide) dJ6_bitCount_0f7a4_26 ?_
  refine j_iushr C dJ6_bitCount_0f7a4_27 ?_
  refine j_iadd C dJ6_bitCount_0f7a4_28 ?_
  refine j_ldcwI (v := 252645135) C mw_595 dJ6_bitCount_0f7a4_29 ?_
  refine j_iand C dJ6_bitCount_0f7a4_32 ?_
  refine j_istore_n (L' := [(0, .int (((((a1 - (((a1.toUInt32 >>> ((1 : Int32).toUInt32 &&& Int32.toUInt32 31)).toInt32) &&& (1431655765 : Int32))) &&& (858993459 : Int32)) + ((((a1 - (((a1.toUInt32 >>> ((1 : Int32).toUInt32 &&& Int32.toUInt32 31)).toInt32) &&& (1431655765 : Int32))).toUInt32 >>> ((2 : Int32).toUInt32 &&& Int32.toUInt32 31)).toInt32) &&& (858993459 : Int32))) + (((((a1 - (((a1.toUInt32 >>> ((1 : Int32).toUInt32 &&& Int32.toUInt32 31)).toInt32) &&& (1431655765 : Int32))) &&& (858993459 : Int32)) + ((((a1 - (((a1.toUInt32 >>> ((1 : Int32).toUInt32 &&& Int32.toUInt32 31)).toInt32) &&& (1431655765 : Int32))).toUInt32 >>> ((2 : Int32).toUInt32 &&& Int32.toUInt32 31)).toInt32) &&& (858993459 : Int32))).toUInt32 >>> ((4 : Int32).toUInt32 &&& Int32.toUInt32 31)).toInt32)) &&& (252645135 : Int32)))]) C rfl (by decide) rfl dJ6_bitCount_0f7a4_33 ?_
  refine j_iload_n C 0 rfl rfl dJ6_bitCount_0f7a4_34 ?_
  refine j_iload_n C 0 rfl rfl dJ6_bitCount_0f7a4_35 ?_
  refine j_bipush (v := 8) C (by decide) dJ6_bitCount_0f7a4_36 ?_
  refine j_iushr C dJ6_bitCount_0f7a4_38 ?_
  refine j_iadd C dJ6_bitCount_0f7a4_39 ?_
  refine j_istore_n (L' := [(0, .int ((((((a1 - (((a1.toUInt32 >>> ((1 : Int32).toUInt32 &&& Int32.toUInt32 31)).toInt32) &&& (1431655765 : Int32))) &&& (858993459 : Int32)) + ((((a1 - (((a1.toUInt32 >>> ((1 : Int32).toUInt32 &&& Int32.toUInt32 31)).toInt32) &&& (1431655765 : Int32))).toUInt32 >>> ((2 : Int32).toUInt32 &&& Int32.toUInt32 31)).toInt32) &&& (858993459 : Int32))) + (((((a1 - (((a1.toUInt32 >>> ((1 : Int32).toUInt32 &&& Int32.toUInt32 31)).toInt32) &&& (1431655765 : Int32))) &&& (858993459 : Int32)) + ((((a1 - (((a1.toUInt32 >>> ((1 : Int32).toUInt32 &&& Int32.toUInt32 31)).toInt32) &&& (1431655765 : Int32))).toUInt32 >>> ((2 : Int32).toUInt32 &&& Int32.toUInt32 31)).toInt32) &&& (858993459 : Int32))).toUInt32 >>> ((4 : Int32).toUInt32 &&& Int32.toUInt32 31)).toInt32)) &&& (252645135 : Int32)) + (((((((a1 - (((a1.toUInt32 >>> ((1 : Int32).toUInt32 &&& Int32.toUInt32 31)).toInt32) &&& (1431655765 : Int32))) &&& (858993459 : Int32)) + ((((a1 - (((a1.toUInt32 >>> ((1 : Int32).toUInt32 &&& Int32.toUInt32 31)).toInt32) &&& (1431655765 : Int32))).toUInt32 >>> ((2 : Int32).toUInt32 &&& Int32.toUInt32 31)).toInt32) &&& (858993459 : Int32))) + (((((a1 - (((a1.toUInt32 >>> ((1 : Int32).toUInt32 &&& Int32.toUInt32 31)).toInt32) &&& (1431655765 : Int32))) &&& (858993459 : Int32)) + ((((a1 - (((a1.toUInt32 >>> ((1 : Int32).toUInt32 &&& Int32.toUInt32 31)).toInt32) &&& (1431655765 : Int32))).toUInt32 >>> ((2 : Int32).toUInt32 &&& Int32.toUInt32 31)).toInt32) &&& (858993459 : Int32))).toUInt32 >>> ((4 : Int32).toUInt32 &&& Int32.toUInt32 31)).toInt32)) &&& (252645135 : Int32)).toUInt32 >>> ((8 : Int32).toUInt32 &&& Int32.toUInt32 31)).toInt32)))]) C rfl (by decide) rfl dJ6_bitCount_0f7a4_40 ?_
  refine j_iload_n C 0 rfl rfl dJ6_bitCount_0f7a4_41 ?_
  refine j_iload_n C 0 rfl rfl dJ6_bitCount_0f7a4_42 ?_
  refine j_bipush (v := 16) C (by decide) dJ6_bitCount_0f7a4_43 ?_
  refine j_iushr C dJ6_bitCount_0f7a4_45 ?_
  refine j_iadd C dJ6_bitCount_0f7a4_46 ?_
  refine j_istore_n (L' := [(0, .int (((((((a1 - (((a1.toUInt32 >>> ((1 : Int32).toUInt32 &&& Int32.toUInt32 31)).toInt32) &&& (1431655765 : Int32))) &&& (858993459 : Int32)) + ((((a1 - (((a1.toUInt32 >>> ((1 : Int32).toUInt32 &&& Int32.toUInt32 31)).toInt32) &&& (1431655765 : Int32))).toUInt32 >>> ((2 : Int32).toUInt32 &&& Int32.toUInt32 31)).toInt32) &&& (858993459 : Int32))) + (((((a1 - (((a1.toUInt32 >>> ((1 : Int32).toUInt32 &&& Int32.toUInt32 31)).toInt32) &&& (1431655765 : Int32))) &&& (858993459 : Int32)) + ((((a1 - (((a1.toUInt32 >>> ((1 : Int32).toUInt32 &&& Int32.toUInt32 31)).toInt32) &&& (1431655765 : Int32))).toUInt32 >>> ((2 : Int32).toUInt32 &&& Int32.toUInt32 31)).toInt32) &&& (858993459 : Int32))).toUInt32 >>> ((4 : Int32).toUInt32 &&& Int32.toUInt32 31)).toInt32)) &&& (252645135 : Int32)) + (((((((a1 - (((a1.toUInt32 >>> ((1 : Int32).toUInt32 &&& Int32.toUInt32 31)).toInt32) &&& (1431655765 : Int32))) &&& (858993459 : Int32)) + ((((a1 - (((a1.toUInt32 >>> ((1 : Int32).toUInt32 &&& Int32.toUInt32 31)).toInt32) &&& (1431655765 : Int32))).toUInt32 >>> ((2 : Int32).toUInt32 &&& Int32.toUInt32 31)).toInt32) &&& (858993459 : Int32))) + (((((a1 - (((a1.toUInt32 >>> ((1 : Int32).toUInt32 &&& Int32.toUInt32 31)).toInt32) &&& (1431655765 : Int32))) &&& (858993459 : Int32)) + ((((a1 - (((a1.toUInt32 >>> ((1 : Int32).toUInt32 &&& Int32.toUInt32 31)).toInt32) &&& (1431655765 : Int32))).toUInt32 >>> ((2 : Int32).toUInt32 &&& Int32.toUInt32 31)).toInt32) &&& (858993459 : Int32))).toUInt32 >>> ((4 : Int32).toUInt32 &&& Int32.toUInt32 31)).toInt32)) &&& (252645135 : Int32)).toUInt32 >>> ((8 : Int32).toUInt32 &&& Int32.toUInt32 31)).toInt32)) + ((((((((a1 - (((a1.toUInt32 >>> ((1 : Int32).toUInt32 &&& Int32.toUInt32 31)).toInt32) &&& (1431655765 : Int32))) &&& (858993459 : Int32)) + ((((a1 - (((a1.toUInt32 >>> ((1 : Int32).toUInt32 &&& Int32.toUInt32 31)).toInt32) &&& (1431655765 : Int32))).toUInt32 >>> ((2 : Int32).toUInt32 &&& Int32.toUInt32 31)).toInt32) &&& (858993459 : Int32))) + (((((a1 - (((a1.toUInt32 >>> ((1 : Int32).toUInt32 &&& Int32.toUInt32 31)).toInt32) &&& (1431655765 : Int32))) &&& (858993459 : Int32)) + ((((a1 - (((a1.toUInt32 >>> ((1 : Int32).toUInt32 &&& Int32.toUInt32 31)).toInt32) &&& (1431655765 : Int32))).toUInt32 >>> ((2 : Int32).toUInt32 &&& Int32.toUInt32 31)).toInt32) &&& (858993459 : Int32))).toUInt32 >>> ((4 : Int32).toUInt32 &&& Int32.toUInt32 31)).toInt32)) &&& (252645135 : Int32)) + (((((((a1 - (((a1.toUInt32 >>> ((1 : Int32).toUInt32 &&& Int32.toUInt32 31)).toInt32) &&& (1431655765 : Int32))) &&& (858993459 : Int32)) + ((((a1 - (((a1.toUInt32 >>> ((1 : Int32).toUInt32 &&& Int32.toUInt32 31)).toInt32) &&& (1431655765 : Int32))).toUInt32 >>> ((2 : Int32).toUInt32 &&& Int32.toUInt32 31)).toInt32) &&& (858993459 : Int32))) + (((((a1 - (((a1.toUInt32 >>> ((1 : Int32).toUInt32 &&& Int32.toUInt32 31)).toInt32) &&& (1431655765 : Int32))) &&& (858993459 : Int32)) + ((((a1 - (((a1.toUInt32 >>> ((1 : Int32).toUInt32 &&& Int32.toUInt32 31)).toInt32) &&& (1431655765 : Int32))).toUInt32 >>> ((2 : Int32).toUInt32 &&& Int32.toUInt32 31)).toInt32) &&& (858993459 : Int32))).toUInt32 >>> ((4 : Int32).toUInt32 &&& Int32.toUInt32 31)).toInt32)) &&& (252645135 : Int32)).toUInt32 >>> ((8 : Int32).toUInt32 &&& Int32.toUInt32 31)).toInt32)).toUInt32 >>> ((16 : Int32).toUInt32 &&& Int32.toUInt32 31)).toInt32)))]) C rfl (by decide) rfl dJ6_bitCount_0f7a4_47 ?_
  refine j_iload_n C 0 rfl rfl dJ6_bitCount_0f7a4_48 ?_
  refine j_bipush (v := 63) C (by decide) dJ6_bitCount_0f7a4_49 ?_
  refine j_iand C dJ6_bitCount_0f7a4_51 ?_
  obtain rfl := Option.some.inj h
  exact j_iret C rfl rfl (Nat.le_refl _) (Nat.le_refl _) dJ6_bitCount_0f7a4_52
set_option maxRecDepth 100000 in
set_option maxHeartbeats 4000000 in
theorem c_J6_bitCount_0f7a4 {l : Launch} {g : Gc} {ad : Nat → Nat → Nat} {χ : Mem} {T : Nat → Mem} {σ : Mem} {a1 : Int32} {rr : Int32} (h : f_J6_bitCount_0f7a4 a1 = some rr) : Met l yJ6_bitCount_0f7a4 (WS yJ6_bitCount_0f7a4 cJ6_bitCount_0f7a4 1 (some .int)) rm_J6_bitCount_0f7a4 (PreW g ad χ T σ [.int a1]) (PoI g ad χ T σ rr) 0 0 (geB g) := by
  refine j_metW (by decide) (Nat.le_of_ble_eq_true rfl) fun p e s m below meth c C hname => ?_
  rw [f_J6_bitCount_0f7a4] at h
  exact j_sub [0] rfl (t_J6_bitCount_0f7a4_0 C a1 h)
set_option maxRecDepth 100000 in
set_option maxHeartbeats 4000000 in
theorem t_J9_floorMod_7cf53_0 {χ : Mem} {T : Nat → Mem} {σ : Mem} (C : Cx p s m args meth c cJ9_floorMod_7cf53 3 RJ9 (some .int) COM g) {rr : Int32} (a1 : Int32) (a2 : Int32) (h : f_J9_floorMod_7cf53_0 a1 a2 = some rr) : JJ p l e rm_J9_floorMod_7cf53 s m args below meth c 3 g ad (MQ below (PoI g ad χ T σ rr) args s 0 0 (geB g)) χ T σ 0 0 [(0, .int a1), (1, .int a2)] 0 [] := by
  rw [f_J9_floorMod_7cf53_0] at h
  refine j_iload_n C 0 rfl rfl dJ9_floorMod_7cf53_0 ?_
  refine j_iload_n C 1 rfl rfl dJ9_floorMod_7cf53_1 ?_
  obtain ⟨hg1, h⟩ := gz_some h
  refine j_irem C hg1 dJ9_floorMod_7cf53_2 ?_
  refine j_istore_n (L' := [(2, .int (a1 - a1 / a2 * a2)), (0, .int a1), (1, .int a2)]) C rfl (by decide) rfl dJ9_floorMod_7cf53_3 ?_
  refine j_iload_n C 1 rfl rfl dJ9_floorMod_7cf53_4 ?_
  refine j_iload_n C 2 rfl rfl dJ9_floorMod_7cf53_5 ?_
  refine j_ixor C dJ9_floorMod_7cf53_6 ?_
  refine j_if_ge (tgt := 18) C (by decide) dJ9_floorMod_7cf53_7 (fun hc2 => ?_) (fun hc2 => ?_)
  · replace h := (if_pos hc2).symm.trans h
    refine j_iload_n C 0 rfl rfl dJ9_floorMod_7cf53_18 ?_
    obtain rfl := Option.some.inj h
    exact j_iret C rfl rfl (Nat.le_refl _) (Nat.le_refl _) dJ9_floorMod_7cf53_19
  · replace h := (if_neg hc2).symm.trans h
    refine j_iload_n C 0 rfl rfl dJ9_floorMod_7cf53_10 ?_
    refine j_if_eq (tgt := 18) C (by decide) dJ9_floorMod_7cf53_11 (fun hc3 => ?_) (fun hc3 => ?_)
    · replace h := (if_pos hc3).symm.trans h
      refine j_iload_n C 0 rfl rfl dJ9_floorMod_7cf53_18 ?_
      obtain rfl := Option.some.inj h
      exact j_iret C rfl rfl (Nat.le_refl _) (Nat.le_refl _) dJ9_floorMod_7cf53_19
    · replace h := (if_neg hc3).symm.trans h
      refine j_iload_n C 0 rfl rfl dJ9_floorMod_7cf53_14 ?_
      refine j_iload_n C 2 rfl rfl dJ9_floorMod_7cf53_15 ?_
      refine j_iadd C dJ9_floorMod_7cf53_16 ?_
      obtain rfl := Option.some.inj h
      exact j_iret C rfl rfl (Nat.le_refl _) (Nat.le_refl _) dJ9_floorMod_7cf53_17
set_option maxRecDepth 100000 in
set_option maxHeartbeats 4000000 in
theorem c_J9_floorMod_7cf53 {l : Launch} {g : Gc} {ad : Nat → Nat → Nat} {χ : Mem} {T : Nat → Mem} {σ : Mem} {a1 : Int32} {a2 : Int32} {rr : Int32} (h : f_J9_floorMod_7cf53 a1 a2 = some rr) : Met l yJ9_floorMod_7cf53 (WS yJ9_floorMod_7cf53 cJ9_floorMod_7cf53 3 (some .int)) rm_J9_floorMod_7cf53 (PreW g ad χ T σ [.int a1, .int a2]) (PoI g ad χ T σ rr) 0 0 (geB g) := by
  refine j_metW (by decide) (Nat.le_of_ble_eq_true rfl) fun p e s m below meth c C hname => ?_
  rw [f_J9_floorMod_7cf53] at h
  exact j_sub [0, 1] rfl (t_J9_floorMod_7cf53_0 C a1 a2 h)
set_option maxRecDepth 100000 in
set_option maxHeartbeats 4000000 in
theorem t_X5_endsAt_0 {T : Nat → Mem} {σ : Mem} {χ : Mem} {i0 : Nat} (C : Cx p s m args meth c cX5_endsAt 2 RX5 (some .boolean) COM g) (hi0 : i0 < gN χ 8 1) {rr : Int32} (a1 : Nat) (ha1 : a1 < gN χ 8 0) (h : f_X5_endsAt_0 χ i0 a1 = some rr) : JJ p l e rm_X5_endsAt s m args below meth c 2 g ad (MQ below (PoI g ad χ T σ rr) args s 0 0 (geB g)) χ T σ 0 0 [(0, .ref (ad 19 i0)), (1, .ref (ad 18 a1))] 0 [] := by
  rw [f_X5_endsAt_0] at h
  refine j_aload_n C 0 rfl rfl dX5_endsAt_0 ?_
  refine j_getG C in_X5 (by decide) (cw_19 hi0) rfl 2 (by decide) mw_650 (fun _ h => h) rfl dX5_endsAt_1 ?_
  refine j_wt (fun wt1 => ?_)
  refine j_aload_n C 1 rfl rfl dX5_endsAt_4 ?_
  refine j_acmp_eq (tgt := 16) C (by decide) (cw_18 (wt1.2.1 _ hi0).1) (cw_18 ha1) (by decide) dX5_endsAt_5 (fun hc2 => ?_) (fun hc2 => ?_)
  · replace h := (if_pos hc2).symm.trans h
    refine j_iconst (v := 1) C (by decide) dX5_endsAt_16 ?_
    refine j_goto (tgt := 21) C (by decide) dX5_endsAt_17 ?_
    obtain rfl := Option.some.inj h
    exact j_iret C rfl (bo_nar (Or.inr rfl)) (Nat.le_refl _) (Nat.le_refl _) dX5_endsAt_21
  · replace h := (if_neg hc2).symm.trans h
    refine j_aload_n C 0 rfl rfl dX5_endsAt_8 ?_
    refine j_getG C in_X5 (by decide) (cw_19 hi0) rfl 3 (by decide) mw_654 (fun _ h => h) rfl dX5_endsAt_9 ?_
    refine j_wt (fun wt3 => ?_)
    refine j_aload_n C 1 rfl rfl dX5_endsAt_12 ?_
    refine j_acmp_ne (tgt := 20) C (by decide) (cw_18 (wt3.2.1 _ hi0).2) (cw_18 ha1) (by decide) dX5_endsAt_13 (fun hc4 => ?_) (fun hc4 => ?_)
    · replace h := (if_neg hc4).symm.trans h
      refine j_iconst (v := 0) C (by decide) dX5_endsAt_20 ?_
      obtain rfl := Option.some.inj h
      exact j_iret C rfl (bo_nar (Or.inl rfl)) (Nat.le_refl _) (Nat.le_refl _) dX5_endsAt_21
    · replace h := (if_pos hc4).symm.trans h
      refine j_iconst (v := 1) C (by decide) dX5_endsAt_16 ?_
      refine j_goto (tgt := 21) C (by decide) dX5_endsAt_17 ?_
      obtain rfl := Option.some.inj h
      exact j_iret C rfl (bo_nar (Or.inr rfl)) (Nat.le_refl _) (Nat.le_refl _) dX5_endsAt_21
set_option maxRecDepth 100000 in
set_option maxHeartbeats 4000000 in
theorem c_X5_endsAt {l : Launch} {g : Gc} {ad : Nat → Nat → Nat} {χ : Mem} {T : Nat → Mem} {σ : Mem} {i0 : Nat} {a1 : Nat} (hi0 : i0 < gN χ 8 1) (ha1 : a1 < gN χ 8 0) {rr : Int32} (h : f_X5_endsAt χ i0 a1 = some rr) : Met l yX5_endsAt (WS yX5_endsAt cX5_endsAt 2 (some .boolean)) rm_X5_endsAt (PreW g ad χ T σ [.ref (ad 19 i0), .ref (ad 18 a1)]) (PoI g ad χ T σ rr) 0 0 (geB g) := by
  refine j_metW (by decide) (Nat.le_of_ble_eq_true rfl) fun p e s m below meth c C hname => ?_
  rw [f_X5_endsAt] at h
  exact j_sub [0, 1] rfl (t_X5_endsAt_0 C hi0 a1 ha1 h)
set_option maxRecDepth 100000 in
set_option maxHeartbeats 4000000 in
theorem t_X5_isOf_0 {T : Nat → Mem} {σ : Mem} {χ : Mem} {i0 : Nat} (C : Cx p s m args meth c cX5_isOf 2 RX5 (some .boolean) COM g) (hi0 : i0 < gN χ 8 1) {rr : Int32} (a1 : Int32) (h : f_X5_isOf_0 χ i0 a1 = some rr) : JJ p l e rm_X5_isOf s m args below meth c 2 g ad (MQ below (PoI g ad χ T σ rr) args s 0 0 (geB g)) χ T σ 0 0 [(0, .ref (ad 19 i0)), (1, .int a1)] 0 [] := by
  rw [f_X5_isOf_0] at h
  refine j_iload_n C 1 rfl rfl dX5_isOf_0 ?_
  refine j_if_eq (tgt := 25) C (by decide) dX5_isOf_1 (fun hc1 => ?_) (fun hc1 => ?_)
  · replace h := (if_pos hc1).symm.trans h
    refine j_iconst (v := 1) C (by decide) dX5_isOf_25 ?_
    refine j_goto (tgt := 30) C (by decide) dX5_isOf_26 ?_
    obtain rfl := Option.some.inj h
    exact j_iret C rfl (bo_nar (Or.inr rfl)) (Nat.le_refl _) (Nat.le_refl _) dX5_isOf_30
  · replace h := (if_neg hc1).symm.trans h
    refine j_aload_n C 0 rfl rfl dX5_isOf_4 ?_
    refine j_getG C in_X5 (by decide) (cw_19 hi0) rfl 1 (by decide) mw_648 (fun _ h => h) rfl dX5_isOf_5 ?_
    refine j_iload_n C 1 rfl rfl dX5_isOf_8 ?_
    refine j_icmp_eq (tgt := 25) C (by decide) dX5_isOf_9 (fun hc2 => ?_) (fun hc2 => ?_)
    · replace h := (if_pos hc2).symm.trans h
      refine j_iconst (v := 1) C (by decide) dX5_isOf_25 ?_
      refine j_goto (tgt := 30) C (by decide) dX5_isOf_26 ?_
      obtain rfl := Option.some.inj h
      exact j_iret C rfl (bo_nar (Or.inr rfl)) (Nat.le_refl _) (Nat.le_refl _) dX5_isOf_30
    · replace h := (if_neg hc2).symm.trans h
      refine j_aload_n C 0 rfl rfl dX5_isOf_12 ?_
      refine j_getG C in_X5 (by decide) (cw_19 hi0) rfl 1 (by decide) mw_648 (fun _ h => h) rfl dX5_isOf_13 ?_
      refine j_iconst (v := 4) C (by decide) dX5_isOf_16 ?_
      refine j_icmp_ne (tgt := 29) C (by decide) dX5_isOf_17 (fun hc3 => ?_) (fun hc3 => ?_)
      · replace h := (if_neg hc3).symm.trans h
        refine j_iconst (v := 0) C (by decide) dX5_isOf_29 ?_
        obtain rfl := Option.some.inj h
        exact j_iret C rfl (bo_nar (Or.inl rfl)) (Nat.le_refl _) (Nat.le_refl _) dX5_isOf_30
      · replace h := (if_pos hc3).symm.trans h
        refine j_iload_n C 1 rfl rfl dX5_isOf_20 ?_
        refine j_iconst (v := 3) C (by decide) dX5_isOf_21 ?_
        refine j_icmp_ne (tgt := 29) C (by decide) dX5_isOf_22 (fun hc4 => ?_) (fun hc4 => ?_)
        · replace h := (if_neg hc4).symm.trans h
          refine j_iconst (v := 0) C (by decide) dX5_isOf_29 ?_
          obtain rfl := Option.some.inj h
          exact j_iret C rfl (bo_nar (Or.inl rfl)) (Nat.le_refl _) (Nat.le_refl _) dX5_isOf_30
        · replace h := (if_pos hc4).symm.trans h
          refine j_iconst (v := 1) C (by decide) dX5_isOf_25 ?_
          refine j_goto (tgt := 30) C (by decide) dX5_isOf_26 ?_
          obtain rfl := Option.some.inj h
          exact j_iret C rfl (bo_nar (Or.inr rfl)) (Nat.le_refl _) (Nat.le_refl _) dX5_isOf_30
set_option maxRecDepth 100000 in
set_option maxHeartbeats 4000000 in
theorem c_X5_isOf {l : Launch} {g : Gc} {ad : Nat → Nat → Nat} {χ : Mem} {T : Nat → Mem} {σ : Mem} {i0 : Nat} {a1 : Int32} (hi0 : i0 < gN χ 8 1) {rr : Int32} (h : f_X5_isOf χ i0 a1 = some rr) : Met l yX5_isOf (WS yX5_isOf cX5_isOf 2 (some .boolean)) rm_X5_isOf (PreW g ad χ T σ [.ref (ad 19 i0), .int a1]) (PoI g ad χ T σ rr) 0 0 (geB g) := by
  refine j_metW (by decide) (Nat.le_of_ble_eq_true rfl) fun p e s m below meth c C hname => ?_
  rw [f_X5_isOf] at h
  exact j_sub [0, 1] rfl (t_X5_isOf_0 C hi0 a1 h)
set_option maxRecDepth 100000 in
set_option maxHeartbeats 4000000 in
theorem t_X5_joins_16 {T : Nat → Mem} {σ : Mem} {χ : Mem} {i0 : Nat} (C : Cx p s m args meth c cX5_joins 3 RX5 (some .boolean) COM g) (hi0 : i0 < gN χ 8 1) {rr : Int32} (v1 : Nat) (v2 : Nat) (hv1 : v1 < gN χ 8 0) (hv2 : v2 < gN χ 8 0) (h : f_X5_joins_16 χ i0 v1 v2 = some rr) : JJ p l e rm_X5_joins s m args below meth c 3 g ad (MQ below (PoI g ad χ T σ rr) args s 0 0 (geB g)) χ T σ 0 0 [(0, .ref (ad 19 i0)), (1, .ref (ad 18 v1)), (2, .ref (ad 18 v2))] 16 [] := by
  rw [f_X5_joins_16] at h
  refine j_aload_n C 0 rfl rfl dX5_joins_16 ?_
  refine j_getG C in_X5 (by decide) (cw_19 hi0) rfl 2 (by decide) mw_650 (fun _ h => h) rfl dX5_joins_17 ?_
  refine j_wt (fun wt1 => ?_)
  refine j_aload_n C 2 rfl rfl dX5_joins_20 ?_
  refine j_acmp_ne (tgt := 36) C (by decide) (cw_18 (wt1.2.1 _ hi0).1) (cw_18 hv2) (by decide) dX5_joins_21 (fun hc2 => ?_) (fun hc2 => ?_)
  · replace h := (if_neg hc2).symm.trans h
    refine j_iconst (v := 0) C (by decide) dX5_joins_36 ?_
    obtain rfl := Option.some.inj h
    exact j_iret C rfl (bo_nar (Or.inl rfl)) (Nat.le_refl _) (Nat.le_refl _) dX5_joins_37
  · replace h := (if_pos hc2).symm.trans h
    refine j_aload_n C 0 rfl rfl dX5_joins_24 ?_
    refine j_getG C in_X5 (by decide) (cw_19 hi0) rfl 3 (by decide) mw_654 (fun _ h => h) rfl dX5_joins_25 ?_
    refine j_wt (fun wt3 => ?_)
    refine j_aload_n C 1 rfl rfl dX5_joins_28 ?_
    refine j_acmp_ne (tgt := 36) C (by decide) (cw_18 (wt3.2.1 _ hi0).2) (cw_18 hv1) (by decide) dX5_joins_29 (fun hc4 => ?_) (fun hc4 => ?_)
    · replace h := (if_neg hc4).symm.trans h
      refine j_iconst (v := 0) C (by decide) dX5_joins_36 ?_
      obtain rfl := Option.some.inj h
      exact j_iret C rfl (bo_nar (Or.inl rfl)) (Nat.le_refl _) (Nat.le_refl _) dX5_joins_37
    · replace h := (if_pos hc4).symm.trans h
      refine j_iconst (v := 1) C (by decide) dX5_joins_32 ?_
      refine j_goto (tgt := 37) C (by decide) dX5_joins_33 ?_
      obtain rfl := Option.some.inj h
      exact j_iret C rfl (bo_nar (Or.inr rfl)) (Nat.le_refl _) (Nat.le_refl _) dX5_joins_37
set_option maxRecDepth 100000 in
set_option maxHeartbeats 4000000 in
theorem t_X5_joins_0 {T : Nat → Mem} {σ : Mem} {χ : Mem} {i0 : Nat} (C : Cx p s m args meth c cX5_joins 3 RX5 (some .boolean) COM g) (hi0 : i0 < gN χ 8 1) {rr : Int32} (a1 : Nat) (a2 : Nat) (ha1 : a1 < gN χ 8 0) (ha2 : a2 < gN χ 8 0) (h : f_X5_joins_0 χ i0 a1 a2 = some rr) : JJ p l e rm_X5_joins s m args below meth c 3 g ad (MQ below (PoI g ad χ T σ rr) args s 0 0 (geB g)) χ T σ 0 0 [(0, .ref (ad 19 i0)), (1, .ref (ad 18 a1)), (2, .ref (ad 18 a2))] 0 [] := by
  rw [f_X5_joins_0] at h
  refine j_aload_n C 0 rfl rfl dX5_joins_0 ?_
  refine j_getG C in_X5 (by decide) (cw_19 hi0) rfl 2 (by decide) mw_650 (fun _ h => h) rfl dX5_joins_1 ?_
  refine j_wt (fun wt1 => ?_)
  refine j_aload_n C 1 rfl rfl dX5_joins_4 ?_
  refine j_acmp_ne (tgt := 16) C (by decide) (cw_18 (wt1.2.1 _ hi0).1) (cw_18 ha1) (by decide) dX5_joins_5 (fun hc2 => ?_) (fun hc2 => ?_)
  · replace h := (if_neg hc2).symm.trans h
    exact j_sub [0, 1, 2] rfl (t_X5_joins_16 C hi0 a1 a2 ha1 ha2 h)
  · replace h := (if_pos hc2).symm.trans h
    refine j_aload_n C 0 rfl rfl dX5_joins_8 ?_
    refine j_getG C in_X5 (by decide) (cw_19 hi0) rfl 3 (by decide) mw_654 (fun _ h => h) rfl dX5_joins_9 ?_
    refine j_wt (fun wt3 => ?_)
    refine j_aload_n C 2 rfl rfl dX5_joins_12 ?_
    refine j_acmp_eq (tgt := 32) C (by decide) (cw_18 (wt3.2.1 _ hi0).2) (cw_18 ha2) (by decide) dX5_joins_13 (fun hc4 => ?_) (fun hc4 => ?_)
    · replace h := (if_pos hc4).symm.trans h
      refine j_iconst (v := 1) C (by decide) dX5_joins_32 ?_
      refine j_goto (tgt := 37) C (by decide) dX5_joins_33 ?_
      obtain rfl := Option.some.inj h
      exact j_iret C rfl (bo_nar (Or.inr rfl)) (Nat.le_refl _) (Nat.le_refl _) dX5_joins_37
    · replace h := (if_neg hc4).symm.trans h
      exact j_sub [0, 1, 2] rfl (t_X5_joins_16 C hi0 a1 a2 ha1 ha2 h)
set_option maxRecDepth 100000 in
set_option maxHeartbeats 4000000 in
theorem c_X5_joins {l : Launch} {g : Gc} {ad : Nat → Nat → Nat} {χ : Mem} {T : Nat → Mem} {σ : Mem} {i0 : Nat} {a1 : Nat} {a2 : Nat} (hi0 : i0 < gN χ 8 1) (ha1 : a1 < gN χ 8 0) (ha2 : a2 < gN χ 8 0) {rr : Int32} (h : f_X5_joins χ i0 a1 a2 = some rr) : Met l yX5_joins (WS yX5_joins cX5_joins 3 (some .boolean)) rm_X5_joins (PreW g ad χ T σ [.ref (ad 19 i0), .ref (ad 18 a1), .ref (ad 18 a2)]) (PoI g ad χ T σ rr) 0 0 (geB g) := by
  refine j_metW (by decide) (Nat.le_of_ble_eq_true rfl) fun p e s m below meth c C hname => ?_
  rw [f_X5_joins] at h
  exact j_sub [0, 1, 2] rfl (t_X5_joins_0 C hi0 a1 a2 ha1 ha2 h)
set_option maxRecDepth 100000 in
set_option maxHeartbeats 4000000 in
theorem t_X5_reach_29 {T : Nat → Mem} {σ : Mem} {χ : Mem} {i0 : Nat} (C : Cx p s m args meth c cX5_reach 4 RX5 (some .int) COM g) (hi0 : i0 < gN χ 8 1) {rr : Int32} (v1 : Nat) (v2 : Int32) (s0 : Nat) (hv1 : v1 < gN χ 8 0) (hs0 : s0 < gN χ 8 0) (h : f_X5_reach_29 χ i0 v1 v2 s0 = some rr) : JJ p l e rm_X5_reach s m args below meth c 4 g ad (MQ below (PoI g ad χ T σ rr) args s 0 0 (geB g)) χ T σ 0 0 [(1, .ref (ad 18 v1)), (2, .int v2)] 29 [.ref (ad 18 s0)] := by
  rw [f_X5_reach_29] at h
  refine j_astore_n (L' := [(3, .ref (ad 18 s0)), (1, .ref (ad 18 v1)), (2, .int v2)]) C rfl (by decide) rfl dX5_reach_29 ?_
  refine j_iload_n C 2 rfl rfl dX5_reach_30 ?_
  refine j_if_ne (tgt := 46) C (by decide) dX5_reach_31 (fun hc1 => ?_) (fun hc1 => ?_)
  · replace h := (if_neg hc1).symm.trans h
    refine j_aload_n C 1 rfl rfl dX5_reach_46 ?_
    refine j_getG C in_X4 (by decide) (cw_18 hv1) rfl 2 (by decide) mw_344 (fun _ h => h) rfl dX5_reach_47 ?_
    refine j_aload_n C 0 rfl rfl dX5_reach_50 ?_
    refine j_getG C in_X4 (by decide) (cw_18 hs0) rfl 2 (by decide) mw_344 (fun _ h => h) rfl dX5_reach_51 ?_
    refine j_isub C dX5_reach_54 ?_
    obtain rfl := Option.some.inj h
    exact j_iret C rfl rfl (Nat.le_refl _) (Nat.le_refl _) dX5_reach_55
  · replace h := (if_pos hc1).symm.trans h
    refine j_aload_n C 1 rfl rfl dX5_reach_34 ?_
    refine j_getG C in_X4 (by decide) (cw_18 hv1) rfl 1 (by decide) mw_340 (fun _ h => h) rfl dX5_reach_35 ?_
    refine j_aload_n C 0 rfl rfl dX5_reach_38 ?_
    refine j_getG C in_X4 (by decide) (cw_18 hs0) rfl 1 (by decide) mw_340 (fun _ h => h) rfl dX5_reach_39 ?_
    refine j_isub C dX5_reach_42 ?_
    refine j_goto (tgt := 55) C (by decide) dX5_reach_43 ?_
    obtain rfl := Option.some.inj h
    exact j_iret C rfl rfl (Nat.le_refl _) (Nat.le_refl _) dX5_reach_55
set_option maxRecDepth 100000 in
set_option maxHeartbeats 4000000 in
theorem t_X5_reach_0 {T : Nat → Mem} {σ : Mem} {χ : Mem} {i0 : Nat} (C : Cx p s m args meth c cX5_reach 4 RX5 (some .int) COM g) (hi0 : i0 < gN χ 8 1) {rr : Int32} (a1 : Nat) (a2 : Int32) (ha1 : a1 < gN χ 8 0) (h : f_X5_reach_0 χ i0 a1 a2 = some rr) : JJ p l e rm_X5_reach s m args below meth c 4 g ad (MQ below (PoI g ad χ T σ rr) args s 0 0 (geB g)) χ T σ 0 0 [(0, .ref (ad 19 i0)), (1, .ref (ad 18 a1)), (2, .int a2)] 0 [] := by
  rw [f_X5_reach_0] at h
  refine j_aload_n C 0 rfl rfl dX5_reach_0 ?_
  refine j_aload_n C 1 rfl rfl dX5_reach_1 ?_
  obtain ⟨q1, hq1, h⟩ := bi_some h
  refine j_callVi (As := [.ref (ad 18 a1)]) (rest := []) C (c_X5_endsAt hi0 ha1 hq1) (cwV 1 C.ts (good_V mw_473 mw_474 mw_475 mw_82 mw_476) rfl rfl rfl (by decide +kernel) ⟨Nat.le_of_ble_eq_true rfl, Nat.le_of_ble_eq_true rfl⟩) (fun H hW => CW.rv C.k hW (by decide) (cw_19 hi0) rfl) rfl rfl (Nat.le_of_ble_eq_true rfl) dX5_reach_2 ⟨Nat.le_of_ble_eq_true rfl, Nat.le_of_ble_eq_true rfl⟩ ?_
  refine j_if_ne (tgt := 10) C (by decide) dX5_reach_5 (fun hc2 => ?_) (fun hc2 => ?_)
  · replace h := (if_neg hc2).symm.trans h
    refine j_aload_n C 1 rfl rfl dX5_reach_10 ?_
    refine j_aload_n C 0 rfl rfl dX5_reach_11 ?_
    refine j_getG C in_X5 (by decide) (cw_19 hi0) rfl 2 (by decide) mw_650 (fun _ h => h) rfl dX5_reach_12 ?_
    refine j_wt (fun wt3 => ?_)
    refine j_acmp_ne (tgt := 25) C (by decide) (cw_18 ha1) (cw_18 (wt3.2.1 _ hi0).1) (by decide) dX5_reach_15 (fun hc4 => ?_) (fun hc4 => ?_)
    · replace h := (if_neg hc4).symm.trans h
      refine j_aload_n C 0 rfl rfl dX5_reach_25 ?_
      refine j_getG C in_X5 (by decide) (cw_19 hi0) rfl 2 (by decide) mw_650 (fun _ h => h) rfl dX5_reach_26 ?_
      refine j_wt (fun wt5 => ?_)
      exact j_sub [1, 2] rfl (t_X5_reach_29 C hi0 a1 a2 (gN χ 6 i0) ha1 (wt5.2.1 _ hi0).1 h)
    · replace h := (if_pos hc4).symm.trans h
      refine j_aload_n C 0 rfl rfl dX5_reach_18 ?_
      refine j_getG C in_X5 (by decide) (cw_19 hi0) rfl 3 (by decide) mw_654 (fun _ h => h) rfl dX5_reach_19 ?_
      refine j_wt (fun wt6 => ?_)
      refine j_goto (tgt := 29) C (by decide) dX5_reach_22 ?_
      exact j_sub [1, 2] rfl (t_X5_reach_29 C hi0 a1 a2 (gN χ 7 i0) ha1 (wt6.2.1 _ hi0).2 h)
  · replace h := (if_pos hc2).symm.trans h
    refine j_iconst (v := 0) C (by decide) dX5_reach_8 ?_
    obtain rfl := Option.some.inj h
    exact j_iret C rfl rfl (Nat.le_refl _) (Nat.le_refl _) dX5_reach_9
set_option maxRecDepth 100000 in
set_option maxHeartbeats 4000000 in
theorem c_X5_reach {l : Launch} {g : Gc} {ad : Nat → Nat → Nat} {χ : Mem} {T : Nat → Mem} {σ : Mem} {i0 : Nat} {a1 : Nat} {a2 : Int32} (hi0 : i0 < gN χ 8 1) (ha1 : a1 < gN χ 8 0) {rr : Int32} (h : f_X5_reach χ i0 a1 a2 = some rr) : Met l yX5_reach (WS yX5_reach cX5_reach 4 (some .int)) rm_X5_reach (PreW g ad χ T σ [.ref (ad 19 i0), .ref (ad 18 a1), .int a2]) (PoI g ad χ T σ rr) 0 0 (geB g) := by
  refine j_metW (by decide) (Nat.le_of_ble_eq_true rfl) fun p e s m below meth c C hname => ?_
  rw [f_X5_reach] at h
  exact j_sub [0, 1, 2] rfl (t_X5_reach_0 C hi0 a1 a2 ha1 h)
set_option maxRecDepth 100000 in
set_option maxHeartbeats 4000000 in
theorem t_X2_areJoined_2 {T : Nat → Mem} {σ : Mem} {χ : Mem} (C : Cx p s m args meth c cX2_areJoined 4 RX2 (some .boolean) COM g) {rr : Int32} : ∀ (n : Nat) (v1 : Nat) (v2 : Nat) (v3 : Int32) (hv1 : v1 < gN χ 8 0) (hv2 : v2 < gN χ 8 0) (h : f_X2_areJoined_2 χ n v1 v2 v3 = some rr), JJ p l e rm_X2_areJoined s m args below meth c 4 g ad (MQ below (PoI g ad χ T σ rr) args s 0 0 (geB g)) χ T σ 0 0 [(0, .ref (ad 1 0)), (1, .ref (ad 18 v1)), (2, .ref (ad 18 v2)), (3, .int v3)] 2 [] := by
  intro n
  induction n with
  | zero => intro v1 v2 v3 hv1 hv2 h; cases h
  | succ n ih =>
  intro v1 v2 v3 hv1 hv2 h
  rw [f_X2_areJoined_2] at h
  refine j_iload_n C 3 rfl rfl dX2_areJoined_2 ?_
  refine j_aload_n C 0 rfl rfl dX2_areJoined_3 ?_
  refine j_getG C in_X2 (by decide) cw_1 rfl 1 (by decide) mw_128 (fun _ h => h) rfl dX2_areJoined_4 ?_
  refine j_lsize C (by decide) mw_296 ⟨Nat.le_of_ble_eq_true rfl, Nat.le_of_ble_eq_true rfl⟩ (Nat.le_of_ble_eq_true rfl) dX2_areJoined_7 ⟨Nat.zero_le _, Nat.zero_le _⟩ ?_
  refine j_icmp_ge (tgt := 44) C (by decide) dX2_areJoined_12 (fun hc1 => ?_) (fun hc1 => ?_)
  · replace h := (if_pos hc1).symm.trans h
    refine j_iconst (v := 0) C (by decide) dX2_areJoined_44 ?_
    obtain rfl := Option.some.inj h
    exact j_iret C rfl (bo_nar (Or.inl rfl)) (Nat.le_refl _) (Nat.le_refl _) dX2_areJoined_45
  · replace h := (if_neg hc1).symm.trans h
    refine j_aload_n C 0 rfl rfl dX2_areJoined_15 ?_
    refine j_getG C in_X2 (by decide) cw_1 rfl 1 (by decide) mw_128 (fun _ h => h) rfl dX2_areJoined_16 ?_
    refine j_iload_n C 3 rfl rfl dX2_areJoined_19 ?_
    obtain ⟨hg2, h⟩ := gd_some h
    refine j_wt (fun wt3 => ?_)
    refine j_lgetK (ek := 19) C (by decide) (by decide) hg2 mw_306 ⟨Nat.le_of_ble_eq_true rfl, Nat.le_of_ble_eq_true rfl⟩ (Nat.le_of_ble_eq_true rfl) dX2_areJoined_20 ⟨Nat.zero_le _, Nat.zero_le _⟩ ?_
    refine j_castS (q := (RX5, TX5, 6)) C mw_449 (by decide) (cw_19 (wt_19 wt3 (by decide) (by decide) hg2)) rfl dX2_areJoined_25 ?_
    refine j_aload_n C 1 rfl rfl dX2_areJoined_28 ?_
    refine j_aload_n C 2 rfl rfl dX2_areJoined_29 ?_
    obtain ⟨q4, hq4, h⟩ := bi_some h
    refine j_callVi (As := [.ref (ad 18 v1), .ref (ad 18 v2)]) (rest := []) C (c_X5_joins (wt_19 wt3 (by decide) (by decide) hg2) hv1 hv2 hq4) (cwV 2 C.ts (good_V mw_636 mw_637 mw_638 mw_82 mw_639) rfl rfl rfl (by decide +kernel) ⟨Nat.le_of_ble_eq_true rfl, Nat.le_of_ble_eq_true rfl⟩) (fun H hW => CW.rv C.k hW (by decide) (cw_19 (wt_19 wt3 (by decide) (by decide) hg2)) rfl) rfl rfl (Nat.le_of_ble_eq_true rfl) dX2_areJoined_30 ⟨Nat.le_of_ble_eq_true rfl, Nat.le_of_ble_eq_true rfl⟩ ?_
    refine j_if_eq (tgt := 38) C (by decide) dX2_areJoined_33 (fun hc5 => ?_) (fun hc5 => ?_)
    · replace h := (if_pos hc5).symm.trans h
      refine j_iinc (v := v3 + (1 : Int32)) (L' := [(3, .int (v3 + (1 : Int32))), (0, .ref (ad 1 0)), (1, .ref (ad 18 v1)), (2, .ref (ad 18 v2))]) C 3 rfl rfl (by decide) rfl dX2_areJoined_38 ?_
      refine j_goto (tgt := 2) C (by decide) dX2_areJoined_41 ?_
      exact j_sub [1, 2, 3, 0] rfl (ih v1 v2 (v3 + (1 : Int32)) hv1 hv2 h)
    · replace h := (if_neg hc5).symm.trans h
      refine j_iconst (v := 1) C (by decide) dX2_areJoined_36 ?_
      obtain rfl := Option.some.inj h
      exact j_iret C rfl (bo_nar (Or.inr rfl)) (Nat.le_refl _) (Nat.le_refl _) dX2_areJoined_37
set_option maxRecDepth 100000 in
set_option maxHeartbeats 4000000 in
theorem t_X2_areJoined_0 {T : Nat → Mem} {σ : Mem} {χ : Mem} (C : Cx p s m args meth c cX2_areJoined 4 RX2 (some .boolean) COM g) {rr : Int32} (a1 : Nat) (a2 : Nat) (ha1 : a1 < gN χ 8 0) (ha2 : a2 < gN χ 8 0) (h : f_X2_areJoined_0 χ a1 a2 = some rr) : JJ p l e rm_X2_areJoined s m args below meth c 4 g ad (MQ below (PoI g ad χ T σ rr) args s 0 0 (geB g)) χ T σ 0 0 [(0, .ref (ad 1 0)), (1, .ref (ad 18 a1)), (2, .ref (ad 18 a2))] 0 [] := by
  rw [f_X2_areJoined_0] at h
  refine j_iconst (v := 0) C (by decide) dX2_areJoined_0 ?_
  refine j_istore_n (L' := [(3, .int (0 : Int32)), (0, .ref (ad 1 0)), (1, .ref (ad 18 a1)), (2, .ref (ad 18 a2))]) C rfl (by decide) rfl dX2_areJoined_1 ?_
  exact j_sub [1, 2, 3, 0] rfl (t_X2_areJoined_2 C FU a1 a2 (0 : Int32) ha1 ha2 h)
set_option maxRecDepth 100000 in
set_option maxHeartbeats 4000000 in
theorem c_X2_areJoined {l : Launch} {g : Gc} {ad : Nat → Nat → Nat} {χ : Mem} {T : Nat → Mem} {σ : Mem} {a1 : Nat} {a2 : Nat} (ha1 : a1 < gN χ 8 0) (ha2 : a2 < gN χ 8 0) {rr : Int32} (h : f_X2_areJoined χ a1 a2 = some rr) : Met l yX2_areJoined (WS yX2_areJoined cX2_areJoined 4 (some .boolean)) rm_X2_areJoined (PreW g ad χ T σ [.ref (ad 1 0), .ref (ad 18 a1), .ref (ad 18 a2)]) (PoI g ad χ T σ rr) 0 0 (geB g) := by
  refine j_metW (by decide) (Nat.le_of_ble_eq_true rfl) fun p e s m below meth c C hname => ?_
  rw [f_X2_areJoined] at h
  exact j_sub [0, 1, 2] rfl (t_X2_areJoined_0 C a1 a2 ha1 ha2 h)
set_option maxRecDepth 100000 in
set_option maxHeartbeats 4000000 in
theorem t_X2_isPin_0 {T : Nat → Mem} {σ : Mem} {χ : Mem} (C : Cx p s m args meth c cX2_isPin 2 RX2 (some .boolean) COM g) {rr : Int32} (a1 : Int32) (h : f_X2_isPin_0 χ a1 = some rr) : JJ p l e rm_X2_isPin s m args below meth c 2 g ad (MQ below (PoI g ad χ T σ rr) args s 0 0 (geB g)) χ T σ 0 0 [(0, .ref (ad 1 0)), (1, .int a1)] 0 [] := by
  rw [f_X2_isPin_0] at h
  refine j_iload_n C 1 rfl rfl dX2_isPin_0 ?_
  refine j_if_lt (tgt := 21) C (by decide) dX2_isPin_1 (fun hc1 => ?_) (fun hc1 => ?_)
  · replace h := (if_pos hc1).symm.trans h
    refine j_iconst (v := 0) C (by decide) dX2_isPin_21 ?_
    obtain rfl := Option.some.inj h
    exact j_iret C rfl (bo_nar (Or.inl rfl)) (Nat.le_refl _) (Nat.le_refl _) dX2_isPin_22
  · replace h := (if_neg hc1).symm.trans h
    refine j_iload_n C 1 rfl rfl dX2_isPin_4 ?_
    refine j_aload_n C 0 rfl rfl dX2_isPin_5 ?_
    refine j_getG C in_X2 (by decide) cw_1 rfl 0 (by decide) mw_124 (fun _ h => h) rfl dX2_isPin_6 ?_
    refine j_lsize C (by decide) mw_296 ⟨Nat.le_of_ble_eq_true rfl, Nat.le_of_ble_eq_true rfl⟩ (Nat.le_of_ble_eq_true rfl) dX2_isPin_9 ⟨Nat.zero_le _, Nat.zero_le _⟩ ?_
    refine j_icmp_ge (tgt := 21) C (by decide) dX2_isPin_14 (fun hc2 => ?_) (fun hc2 => ?_)
    · replace h := (if_pos hc2).symm.trans h
      refine j_iconst (v := 0) C (by decide) dX2_isPin_21 ?_
      obtain rfl := Option.some.inj h
      exact j_iret C rfl (bo_nar (Or.inl rfl)) (Nat.le_refl _) (Nat.le_refl _) dX2_isPin_22
    · replace h := (if_neg hc2).symm.trans h
      refine j_iconst (v := 1) C (by decide) dX2_isPin_17 ?_
      refine j_goto (tgt := 22) C (by decide) dX2_isPin_18 ?_
      obtain rfl := Option.some.inj h
      exact j_iret C rfl (bo_nar (Or.inr rfl)) (Nat.le_refl _) (Nat.le_refl _) dX2_isPin_22
set_option maxRecDepth 100000 in
set_option maxHeartbeats 4000000 in
theorem c_X2_isPin {l : Launch} {g : Gc} {ad : Nat → Nat → Nat} {χ : Mem} {T : Nat → Mem} {σ : Mem} {a1 : Int32} {rr : Int32} (h : f_X2_isPin χ a1 = some rr) : Met l yX2_isPin (WS yX2_isPin cX2_isPin 2 (some .boolean)) rm_X2_isPin (PreW g ad χ T σ [.ref (ad 1 0), .int a1]) (PoI g ad χ T σ rr) 0 0 (geB g) := by
  refine j_metW (by decide) (Nat.le_of_ble_eq_true rfl) fun p e s m below meth c C hname => ?_
  rw [f_X2_isPin] at h
  exact j_sub [0, 1] rfl (t_X2_isPin_0 C a1 h)
set_option maxRecDepth 100000 in
set_option maxHeartbeats 4000000 in
theorem t_X2_isRod_0 {T : Nat → Mem} {σ : Mem} {χ : Mem} (C : Cx p s m args meth c cX2_isRod 2 RX2 (some .boolean) COM g) {rr : Int32} (a1 : Int32) (h : f_X2_isRod_0 χ a1 = some rr) : JJ p l e rm_X2_isRod s m args below meth c 2 g ad (MQ below (PoI g ad χ T σ rr) args s 0 0 (geB g)) χ T σ 0 0 [(0, .ref (ad 1 0)), (1, .int a1)] 0 [] := by
  rw [f_X2_isRod_0] at h
  refine j_iload_n C 1 rfl rfl dX2_isRod_0 ?_
  refine j_if_lt (tgt := 21) C (by decide) dX2_isRod_1 (fun hc1 => ?_) (fun hc1 => ?_)
  · replace h := (if_pos hc1).symm.trans h
    refine j_iconst (v := 0) C (by decide) dX2_isRod_21 ?_
    obtain rfl := Option.some.inj h
    exact j_iret C rfl (bo_nar (Or.inl rfl)) (Nat.le_refl _) (Nat.le_refl _) dX2_isRod_22
  · replace h := (if_neg hc1).symm.trans h
    refine j_iload_n C 1 rfl rfl dX2_isRod_4 ?_
    refine j_aload_n C 0 rfl rfl dX2_isRod_5 ?_
    refine j_getG C in_X2 (by decide) cw_1 rfl 1 (by decide) mw_128 (fun _ h => h) rfl dX2_isRod_6 ?_
    refine j_lsize C (by decide) mw_296 ⟨Nat.le_of_ble_eq_true rfl, Nat.le_of_ble_eq_true rfl⟩ (Nat.le_of_ble_eq_true rfl) dX2_isRod_9 ⟨Nat.zero_le _, Nat.zero_le _⟩ ?_
    refine j_icmp_ge (tgt := 21) C (by decide) dX2_isRod_14 (fun hc2 => ?_) (fun hc2 => ?_)
    · replace h := (if_pos hc2).symm.trans h
      refine j_iconst (v := 0) C (by decide) dX2_isRod_21 ?_
      obtain rfl := Option.some.inj h
      exact j_iret C rfl (bo_nar (Or.inl rfl)) (Nat.le_refl _) (Nat.le_refl _) dX2_isRod_22
    · replace h := (if_neg hc2).symm.trans h
      refine j_iconst (v := 1) C (by decide) dX2_isRod_17 ?_
      refine j_goto (tgt := 22) C (by decide) dX2_isRod_18 ?_
      obtain rfl := Option.some.inj h
      exact j_iret C rfl (bo_nar (Or.inr rfl)) (Nat.le_refl _) (Nat.le_refl _) dX2_isRod_22
set_option maxRecDepth 100000 in
set_option maxHeartbeats 4000000 in
theorem c_X2_isRod {l : Launch} {g : Gc} {ad : Nat → Nat → Nat} {χ : Mem} {T : Nat → Mem} {σ : Mem} {a1 : Int32} {rr : Int32} (h : f_X2_isRod χ a1 = some rr) : Met l yX2_isRod (WS yX2_isRod cX2_isRod 2 (some .boolean)) rm_X2_isRod (PreW g ad χ T σ [.ref (ad 1 0), .int a1]) (PoI g ad χ T σ rr) 0 0 (geB g) := by
  refine j_metW (by decide) (Nat.le_of_ble_eq_true rfl) fun p e s m below meth c C hname => ?_
  rw [f_X2_isRod] at h
  exact j_sub [0, 1] rfl (t_X2_isRod_0 C a1 h)
set_option maxRecDepth 100000 in
set_option maxHeartbeats 4000000 in
theorem t_X2_pinAt_2 {T : Nat → Mem} {σ : Mem} {χ : Mem} (C : Cx p s m args meth c cX2_pinAt 5 RX2 (some (.object "RodBench$Pin")) COM g) {rr : Option Nat} : ∀ (n : Nat) (v1 : Int32) (v2 : Int32) (v3 : Int32) (h : f_X2_pinAt_2 χ n v1 v2 v3 = some rr), JJ p l e rm_X2_pinAt s m args below meth c 5 g ad (MQ below (PoR g ad χ T σ ((rr).map (ad 18))) args s 0 0 (geB g)) χ T σ 0 0 [(0, .ref (ad 1 0)), (1, .int v1), (2, .int v2), (3, .int v3)] 2 [] := by
  intro n
  induction n with
  | zero => intro v1 v2 v3  h; cases h
  | succ n ih =>
  intro v1 v2 v3  h
  rw [f_X2_pinAt_2] at h
  refine j_iload_n C 3 rfl rfl dX2_pinAt_2 ?_
  refine j_aload_n C 0 rfl rfl dX2_pinAt_3 ?_
  refine j_getG C in_X2 (by decide) cw_1 rfl 0 (by decide) mw_124 (fun _ h => h) rfl dX2_pinAt_4 ?_
  refine j_lsize C (by decide) mw_296 ⟨Nat.le_of_ble_eq_true rfl, Nat.le_of_ble_eq_true rfl⟩ (Nat.le_of_ble_eq_true rfl) dX2_pinAt_7 ⟨Nat.zero_le _, Nat.zero_le _⟩ ?_
  refine j_icmp_ge (tgt := 57) C (by decide) dX2_pinAt_12 (fun hc1 => ?_) (fun hc1 => ?_)
  · replace h := (if_pos hc1).symm.trans h
    refine j_null C dX2_pinAt_57 ?_
    obtain rfl := Option.some.inj h
    exact j_aret (v := ((none : Option Nat).map (ad 18))) C rfl (Or.inl ⟨_, rfl⟩) (Nat.le_refl _) (Nat.le_refl _) dX2_pinAt_58
  · replace h := (if_neg hc1).symm.trans h
    refine j_aload_n C 0 rfl rfl dX2_pinAt_15 ?_
    refine j_getG C in_X2 (by decide) cw_1 rfl 0 (by decide) mw_124 (fun _ h => h) rfl dX2_pinAt_16 ?_
    refine j_iload_n C 3 rfl rfl dX2_pinAt_19 ?_
    obtain ⟨hg2, h⟩ := gd_some h
    refine j_wt (fun wt3 => ?_)
    refine j_lgetK (ek := 18) C (by decide) (by decide) hg2 mw_306 ⟨Nat.le_of_ble_eq_true rfl, Nat.le_of_ble_eq_true rfl⟩ (Nat.le_of_ble_eq_true rfl) dX2_pinAt_20 ⟨Nat.zero_le _, Nat.zero_le _⟩ ?_
    refine j_castS (q := (RX4, TX4, 6)) C mw_324 (by decide) (cw_18 (wt_18 wt3 (by decide) (by decide) hg2)) rfl dX2_pinAt_25 ?_
    refine j_astore (L' := [(4, .ref (ad 18 (gN χ 0 v3.toNatClampNeg))), (0, .ref (ad 1 0)), (1, .int v1), (2, .int v2), (3, .int v3)]) C (by decide) rfl dX2_pinAt_28 ?_
    refine j_aload C 0 rfl dX2_pinAt_30 ?_
    refine j_getG C in_X4 (by decide) (cw_18 (wt_18 wt3 (by decide) (by decide) hg2)) rfl 1 (by decide) mw_339 (fun _ h => h) rfl dX2_pinAt_32 ?_
    refine j_iload_n C 2 rfl rfl dX2_pinAt_35 ?_
    refine j_icmp_ne (tgt := 51) C (by decide) dX2_pinAt_36 (fun hc4 => ?_) (fun hc4 => ?_)
    · replace h := (if_neg hc4).symm.trans h
      refine j_iinc (v := v3 + (1 : Int32)) (L' := [(3, .int (v3 + (1 : Int32))), (4, .ref (ad 18 (gN χ 0 v3.toNatClampNeg))), (0, .ref (ad 1 0)), (1, .int v1), (2, .int v2)]) C 4 rfl rfl (by decide) rfl dX2_pinAt_51 ?_
      refine j_goto (tgt := 2) C (by decide) dX2_pinAt_54 ?_
      exact j_sub [2, 3, 4, 0] rfl (ih v1 v2 (v3 + (1 : Int32)) h)
    · replace h := (if_pos hc4).symm.trans h
      refine j_aload C 0 rfl dX2_pinAt_39 ?_
      refine j_getG C in_X4 (by decide) (cw_18 (wt_18 wt3 (by decide) (by decide) hg2)) rfl 2 (by decide) mw_343 (fun _ h => h) rfl dX2_pinAt_41 ?_
      refine j_iload_n C 3 rfl rfl dX2_pinAt_44 ?_
      refine j_icmp_ne (tgt := 51) C (by decide) dX2_pinAt_45 (fun hc5 => ?_) (fun hc5 => ?_)
      · replace h := (if_neg hc5).symm.trans h
        refine j_iinc (v := v3 + (1 : Int32)) (L' := [(3, .int (v3 + (1 : Int32))), (4, .ref (ad 18 (gN χ 0 v3.toNatClampNeg))), (0, .ref (ad 1 0)), (1, .int v1), (2, .int v2)]) C 4 rfl rfl (by decide) rfl dX2_pinAt_51 ?_
        refine j_goto (tgt := 2) C (by decide) dX2_pinAt_54 ?_
        exact j_sub [2, 3, 4, 0] rfl (ih v1 v2 (v3 + (1 : Int32)) h)
      · replace h := (if_pos hc5).symm.trans h
        refine j_aload C 0 rfl dX2_pinAt_48 ?_
        obtain rfl := Option.some.inj h
        exact j_aret (v := ((some (gN χ 0 v3.toNatClampNeg)).map (ad 18))) C rfl (Or.inl ⟨_, rfl⟩) (Nat.le_refl _) (Nat.le_refl _) dX2_pinAt_50
set_option maxRecDepth 100000 in
set_option maxHeartbeats 4000000 in
theorem t_X2_pinAt_0 {T : Nat → Mem} {σ : Mem} {χ : Mem} (C : Cx p s m args meth c cX2_pinAt 5 RX2 (some (.object "RodBench$Pin")) COM g) {rr : Option Nat} (a1 : Int32) (a2 : Int32) (h : f_X2_pinAt_0 χ a1 a2 = some rr) : JJ p l e rm_X2_pinAt s m args below meth c 5 g ad (MQ below (PoR g ad χ T σ ((rr).map (ad 18))) args s 0 0 (geB g)) χ T σ 0 0 [(0, .ref (ad 1 0)), (1, .int a1), (2, .int a2)] 0 [] := by
  rw [f_X2_pinAt_0] at h
  refine j_iconst (v := 0) C (by decide) dX2_pinAt_0 ?_
  refine j_istore_n (L' := [(3, .int (0 : Int32)), (0, .ref (ad 1 0)), (1, .int a1), (2, .int a2)]) C rfl (by decide) rfl dX2_pinAt_1 ?_
  exact j_sub [1, 2, 3, 0] rfl (t_X2_pinAt_2 C FU a1 a2 (0 : Int32) h)
set_option maxRecDepth 100000 in
set_option maxHeartbeats 4000000 in
theorem c_X2_pinAt {l : Launch} {g : Gc} {ad : Nat → Nat → Nat} {χ : Mem} {T : Nat → Mem} {σ : Mem} {a1 : Int32} {a2 : Int32} {rr : Option Nat} (h : f_X2_pinAt χ a1 a2 = some rr) : Met l yX2_pinAt (WS yX2_pinAt cX2_pinAt 5 (some (.object "RodBench$Pin"))) rm_X2_pinAt (PreW g ad χ T σ [.ref (ad 1 0), .int a1, .int a2]) (PoR g ad χ T σ ((rr).map (ad 18))) 0 0 (geB g) := by
  refine j_metW (by decide) (Nat.le_of_ble_eq_true rfl) fun p e s m below meth c C hname => ?_
  rw [f_X2_pinAt] at h
  exact j_sub [0, 1, 2] rfl (t_X2_pinAt_0 C a1 a2 h)
set_option maxRecDepth 100000 in
set_option maxHeartbeats 4000000 in
theorem t_X2_planeMotions_0 {T : Nat → Mem} {σ : Mem} {χ : Mem} (C : Cx p s m args meth c cX2_planeMotions 3 RX2 (some .int) COM g) {rr : Int32} (h : f_X2_planeMotions_0 χ = some rr) : JJ p l e rm_X2_planeMotions s m args below meth c 3 g ad (MQ below (PoI g ad χ T σ rr) args s 0 0 (geB g)) χ T σ 0 0 [(0, .ref (ad 1 0))] 0 [] := by
  rw [f_X2_planeMotions_0] at h
  refine j_aload_n C 0 rfl rfl dX2_planeMotions_0 ?_
  refine j_getG C in_X2 (by decide) cw_1 rfl 2 (by decide) mw_132 (fun _ h => h) rfl dX2_planeMotions_1 ?_
  refine j_lsize C (by decide) mw_296 ⟨Nat.le_of_ble_eq_true rfl, Nat.le_of_ble_eq_true rfl⟩ (Nat.le_of_ble_eq_true rfl) dX2_planeMotions_4 ⟨Nat.zero_le _, Nat.zero_le _⟩ ?_
  refine j_istore_n (L' := [(1, .int (gI χ 14 2)), (0, .ref (ad 1 0))]) C rfl (by decide) rfl dX2_planeMotions_9 ?_
  refine j_aload_n C 1 rfl rfl dX2_planeMotions_10 ?_
  refine j_getG C in_X2 (by decide) cw_1 rfl 0 (by decide) mw_124 (fun _ h => h) rfl dX2_planeMotions_11 ?_
  refine j_lsize C (by decide) mw_296 ⟨Nat.le_of_ble_eq_true rfl, Nat.le_of_ble_eq_true rfl⟩ (Nat.le_of_ble_eq_true rfl) dX2_planeMotions_14 ⟨Nat.zero_le _, Nat.zero_le _⟩ ?_
  refine j_iload_n C 0 rfl rfl dX2_planeMotions_19 ?_
  refine j_isub C dX2_planeMotions_20 ?_
  refine j_istore_n (L' := [(2, .int ((gI χ 14 0) - (gI χ 14 2))), (1, .int (gI χ 14 2)), (0, .ref (ad 1 0))]) C rfl (by decide) rfl dX2_planeMotions_21 ?_
  refine j_iload_n C 1 rfl rfl dX2_planeMotions_22 ?_
  refine j_if_eq (tgt := 31) C (by decide) dX2_planeMotions_23 (fun hc1 => ?_) (fun hc1 => ?_)
  · replace h := (if_pos hc1).symm.trans h
    refine j_iconst (v := 0) C (by decide) dX2_planeMotions_31 ?_
    obtain rfl := Option.some.inj h
    exact j_iret C rfl rfl (Nat.le_refl _) (Nat.le_refl _) dX2_planeMotions_32
  · replace h := (if_neg hc1).symm.trans h
    refine j_iload_n C 0 rfl rfl dX2_planeMotions_26 ?_
    refine j_iconst (v := 1) C (by decide) dX2_planeMotions_27 ?_
    refine j_icmp_le (tgt := 33) C (by decide) dX2_planeMotions_28 (fun hc2 => ?_) (fun hc2 => ?_)
    · replace h := (if_pos hc2).symm.trans h
      refine j_iload_n C 0 rfl rfl dX2_planeMotions_33 ?_
      refine j_iconst (v := 1) C (by decide) dX2_planeMotions_34 ?_
      refine j_icmp_ne (tgt := 40) C (by decide) dX2_planeMotions_35 (fun hc3 => ?_) (fun hc3 => ?_)
      · replace h := (if_neg hc3).symm.trans h
        refine j_iload_n C 1 rfl rfl dX2_planeMotions_40 ?_
        refine j_iconst (v := 1) C (by decide) dX2_planeMotions_41 ?_
        refine j_icmp_ne (tgt := 49) C (by decide) dX2_planeMotions_42 (fun hc4 => ?_) (fun hc4 => ?_)
        · replace h := (if_neg hc4).symm.trans h
          refine j_iconst (v := 3) C (by decide) dX2_planeMotions_49 ?_
          obtain rfl := Option.some.inj h
          exact j_iret C rfl rfl (Nat.le_refl _) (Nat.le_refl _) dX2_planeMotions_50
        · replace h := (if_pos hc4).symm.trans h
          refine j_iconst (v := 2) C (by decide) dX2_planeMotions_45 ?_
          refine j_goto (tgt := 50) C (by decide) dX2_planeMotions_46 ?_
          obtain rfl := Option.some.inj h
          exact j_iret C rfl rfl (Nat.le_refl _) (Nat.le_refl _) dX2_planeMotions_50
      · replace h := (if_pos hc3).symm.trans h
        refine j_iconst (v := 1) C (by decide) dX2_planeMotions_38 ?_
        obtain rfl := Option.some.inj h
        exact j_iret C rfl rfl (Nat.le_refl _) (Nat.le_refl _) dX2_planeMotions_39
    · replace h := (if_neg hc2).symm.trans h
      refine j_iconst (v := 0) C (by decide) dX2_planeMotions_31 ?_
      obtain rfl := Option.some.inj h
      exact j_iret C rfl rfl (Nat.le_refl _) (Nat.le_refl _) dX2_planeMotions_32
set_option maxRecDepth 100000 in
set_option maxHeartbeats 4000000 in
theorem c_X2_planeMotions {l : Launch} {g : Gc} {ad : Nat → Nat → Nat} {χ : Mem} {T : Nat → Mem} {σ : Mem} {rr : Int32} (h : f_X2_planeMotions χ = some rr) : Met l yX2_planeMotions (WS yX2_planeMotions cX2_planeMotions 3 (some .int)) rm_X2_planeMotions (PreW g ad χ T σ [.ref (ad 1 0)]) (PoI g ad χ T σ rr) 0 0 (geB g) := by
  refine j_metW (by decide) (Nat.le_of_ble_eq_true rfl) fun p e s m below meth c C hname => ?_
  rw [f_X2_planeMotions] at h
  exact j_sub [0] rfl (t_X2_planeMotions_0 C h)
set_option maxRecDepth 100000 in
set_option maxHeartbeats 4000000 in
theorem t_X2_rodsInAt_4 {T : Nat → Mem} {σ : Mem} {χ : Mem} (C : Cx p s m args meth c cX2_rodsInAt 4 RX2 (some .int) COM g) {rr : Int32} : ∀ (n : Nat) (v1 : Nat) (v2 : Int32) (v3 : Int32) (hv1 : v1 < gN χ 8 0) (h : f_X2_rodsInAt_4 χ n v1 v2 v3 = some rr), JJ p l e rm_X2_rodsInAt s m args below meth c 4 g ad (MQ below (PoI g ad χ T σ rr) args s 0 0 (geB g)) χ T σ 0 0 [(0, .ref (ad 1 0)), (1, .ref (ad 18 v1)), (2, .int v2), (3, .int v3)] 4 [] := by
  intro n
  induction n with
  | zero => intro v1 v2 v3 hv1 h; cases h
  | succ n ih =>
  intro v1 v2 v3 hv1 h
  rw [f_X2_rodsInAt_4] at h
  refine j_iload_n C 3 rfl rfl dX2_rodsInAt_4 ?_
  refine j_aload_n C 0 rfl rfl dX2_rodsInAt_5 ?_
  refine j_getG C in_X2 (by decide) cw_1 rfl 3 (by decide) mw_136 (fun _ h => h) rfl dX2_rodsInAt_6 ?_
  refine j_lsize C (by decide) mw_296 ⟨Nat.le_of_ble_eq_true rfl, Nat.le_of_ble_eq_true rfl⟩ (Nat.le_of_ble_eq_true rfl) dX2_rodsInAt_9 ⟨Nat.zero_le _, Nat.zero_le _⟩ ?_
  refine j_icmp_ge (tgt := 46) C (by decide) dX2_rodsInAt_14 (fun hc1 => ?_) (fun hc1 => ?_)
  · replace h := (if_pos hc1).symm.trans h
    refine j_iload_n C 2 rfl rfl dX2_rodsInAt_46 ?_
    obtain rfl := Option.some.inj h
    exact j_iret C rfl rfl (Nat.le_refl _) (Nat.le_refl _) dX2_rodsInAt_47
  · replace h := (if_neg hc1).symm.trans h
    refine j_aload_n C 0 rfl rfl dX2_rodsInAt_17 ?_
    refine j_getG C in_X2 (by decide) cw_1 rfl 3 (by decide) mw_136 (fun _ h => h) rfl dX2_rodsInAt_18 ?_
    refine j_iload_n C 3 rfl rfl dX2_rodsInAt_21 ?_
    obtain ⟨hg2, h⟩ := gd_some h
    refine j_wt (fun wt3 => ?_)
    refine j_lgetK (ek := 19) C (by decide) (by decide) hg2 mw_306 ⟨Nat.le_of_ble_eq_true rfl, Nat.le_of_ble_eq_true rfl⟩ (Nat.le_of_ble_eq_true rfl) dX2_rodsInAt_22 ⟨Nat.zero_le _, Nat.zero_le _⟩ ?_
    refine j_castS (q := (RX5, TX5, 6)) C mw_449 (by decide) (cw_19 (wt_19 wt3 (by decide) (by decide) hg2)) rfl dX2_rodsInAt_27 ?_
    refine j_aload_n C 1 rfl rfl dX2_rodsInAt_30 ?_
    obtain ⟨q4, hq4, h⟩ := bi_some h
    refine j_callVi (As := [.ref (ad 18 v1)]) (rest := []) C (c_X5_endsAt (wt_19 wt3 (by decide) (by decide) hg2) hv1 hq4) (cwV 1 C.ts (good_V mw_749 mw_474 mw_475 mw_82 mw_476) rfl rfl rfl (by decide +kernel) ⟨Nat.le_of_ble_eq_true rfl, Nat.le_of_ble_eq_true rfl⟩) (fun H hW => CW.rv C.k hW (by decide) (cw_19 (wt_19 wt3 (by decide) (by decide) hg2)) rfl) rfl rfl (Nat.le_of_ble_eq_true rfl) dX2_rodsInAt_31 ⟨Nat.le_of_ble_eq_true rfl, Nat.le_of_ble_eq_true rfl⟩ ?_
    refine j_if_eq (tgt := 40) C (by decide) dX2_rodsInAt_34 (fun hc5 => ?_) (fun hc5 => ?_)
    · replace h := (if_pos hc5).symm.trans h
      refine j_iinc (v := v3 + (1 : Int32)) (L' := [(3, .int (v3 + (1 : Int32))), (0, .ref (ad 1 0)), (1, .ref (ad 18 v1)), (2, .int v2)]) C 3 rfl rfl (by decide) rfl dX2_rodsInAt_40 ?_
      refine j_goto (tgt := 4) C (by decide) dX2_rodsInAt_43 ?_
      exact j_sub [1, 2, 3, 0] rfl (ih v1 v2 (v3 + (1 : Int32)) hv1 h)
    · replace h := (if_neg hc5).symm.trans h
      refine j_iinc (v := v2 + (1 : Int32)) (L' := [(2, .int (v2 + (1 : Int32))), (0, .ref (ad 1 0)), (1, .ref (ad 18 v1)), (3, .int v3)]) C 2 rfl rfl (by decide) rfl dX2_rodsInAt_37 ?_
      refine j_iinc (v := v3 + (1 : Int32)) (L' := [(3, .int (v3 + (1 : Int32))), (2, .int (v2 + (1 : Int32))), (0, .ref (ad 1 0)), (1, .ref (ad 18 v1))]) C 3 rfl rfl (by decide) rfl dX2_rodsInAt_40 ?_
      refine j_goto (tgt := 4) C (by decide) dX2_rodsInAt_43 ?_
      exact j_sub [2, 3, 1, 0] rfl (ih v1 (v2 + (1 : Int32)) (v3 + (1 : Int32)) hv1 h)
set_option maxRecDepth 100000 in
set_option maxHeartbeats 4000000 in
theorem t_X2_rodsInAt_0 {T : Nat → Mem} {σ : Mem} {χ : Mem} (C : Cx p s m args meth c cX2_rodsInAt 4 RX2 (some .int) COM g) {rr : Int32} (a1 : Nat) (ha1 : a1 < gN χ 8 0) (h : f_X2_rodsInAt_0 χ a1 = some rr) : JJ p l e rm_X2_rodsInAt s m args below meth c 4 g ad (MQ below (PoI g ad χ T σ rr) args s 0 0 (geB g)) χ T σ 0 0 [(0, .ref (ad 1 0)), (1, .ref (ad 18 a1))] 0 [] := by
  rw [f_X2_rodsInAt_0] at h
  refine j_iconst (v := 0) C (by decide) dX2_rodsInAt_0 ?_
  refine j_istore_n (L' := [(2, .int (0 : Int32)), (0, .ref (ad 1 0)), (1, .ref (ad 18 a1))]) C rfl (by decide) rfl dX2_rodsInAt_1 ?_
  refine j_iconst (v := 0) C (by decide) dX2_rodsInAt_2 ?_
  refine j_istore_n (L' := [(3, .int (0 : Int32)), (2, .int (0 : Int32)), (0, .ref (ad 1 0)), (1, .ref (ad 18 a1))]) C rfl (by decide) rfl dX2_rodsInAt_3 ?_
  exact j_sub [2, 3, 1, 0] rfl (t_X2_rodsInAt_4 C FU a1 (0 : Int32) (0 : Int32) ha1 h)
set_option maxRecDepth 100000 in
set_option maxHeartbeats 4000000 in
theorem c_X2_rodsInAt {l : Launch} {g : Gc} {ad : Nat → Nat → Nat} {χ : Mem} {T : Nat → Mem} {σ : Mem} {a1 : Nat} (ha1 : a1 < gN χ 8 0) {rr : Int32} (h : f_X2_rodsInAt χ a1 = some rr) : Met l yX2_rodsInAt (WS yX2_rodsInAt cX2_rodsInAt 4 (some .int)) rm_X2_rodsInAt (PreW g ad χ T σ [.ref (ad 1 0), .ref (ad 18 a1)]) (PoI g ad χ T σ rr) 0 0 (geB g) := by
  refine j_metW (by decide) (Nat.le_of_ble_eq_true rfl) fun p e s m below meth c C hname => ?_
  rw [f_X2_rodsInAt] at h
  exact j_sub [0, 1] rfl (t_X2_rodsInAt_0 C a1 ha1 h)
set_option maxRecDepth 100000 in
set_option maxHeartbeats 4000000 in
theorem t_X7_layRodsAsColumns_45 {T : Nat → Mem} {σ : Mem} {t : Nat} {χ : Mem} (C : Cx p s m args meth c cX7_layRodsAsColumns 6 RX7 none COM g) (ht : t < 3) {rr : Mem} {k20 : Mem → Nat → Nat → Int32 → Option (Mem)} (hk20 : ∀ (τ : Mem) (v1 : Nat) (v2 : Nat) (v3 : Int32) (hv1 : v1 < 6 ∧ elK v1 = 19) (hv2 : v2 < 6 ∧ elK v2 = 18), k20 τ v1 v2 v3 = some rr → JJ p l e rm_X7_layRodsAsColumns s m args below meth c 6 g ad (MQ below (PoV g ad χ (stT T t (rr)) σ) args s 0 0 (geB g)) χ (stT T t τ) σ 0 0 [(0, .ref (ad 9 t)), (1, .ref (ad 16 v1)), (2, .ref (ad 16 v2)), (3, .int v3)] 20 []) : ∀ (n : Nat) (τ : Mem) (v1 : Nat) (v2 : Nat) (v3 : Int32) (v4 : Nat) (v5 : Int32) (hv1 : v1 < 6 ∧ elK v1 = 19) (hv2 : v2 < 6 ∧ elK v2 = 18) (hv4 : v4 < gN χ 8 0) (h : f_X7_layRodsAsColumns_45 χ k20 n τ v1 v2 v3 v4 v5 = some rr), JJ p l e rm_X7_layRodsAsColumns s m args below meth c 6 g ad (MQ below (PoV g ad χ (stT T t (rr)) σ) args s 0 0 (geB g)) χ (stT T t τ) σ 0 0 [(0, .ref (ad 9 t)), (1, .ref (ad 16 v1)), (2, .ref (ad 16 v2)), (3, .int v3), (4, .ref (ad 18 v4)), (5, .int v5)] 45 [] := by
  intro n
  induction n with
  | zero => intro τ v1 v2 v3 v4 v5 hv1 hv2 hv4 h; cases h
  | succ n ih =>
  intro τ v1 v2 v3 v4 v5 hv1 hv2 hv4 h
  rw [f_X7_layRodsAsColumns_45] at h
  refine j_iload C 5 rfl dX7_layRodsAsColumns_45 ?_
  refine j_aload_n C 0 rfl rfl dX7_layRodsAsColumns_47 ?_
  refine j_getG C in_X7 (by decide) (cwT_9 ht) rfl 6 (by decide) mw_170 (fun _ h => h) rfl dX7_layRodsAsColumns_48 ?_
  refine j_icmp_ge (tgt := 89) C (by decide) dX7_layRodsAsColumns_51 (fun hc1 => ?_) (fun hc1 => ?_)
  · replace h := (if_pos hc1).symm.trans h
    refine j_aload_n C 0 rfl rfl dX7_layRodsAsColumns_89 ?_
    refine j_getG C in_X7 (by decide) (cwT_9 ht) rfl 0 (by decide) mw_164 (fun _ h => h) rfl dX7_layRodsAsColumns_90 ?_
    refine j_iload_n C 3 rfl rfl dX7_layRodsAsColumns_93 ?_
    obtain ⟨hg2, h⟩ := gd_some h
    refine j_tabrow C ht hg2 dX7_layRodsAsColumns_94 ?_
    refine j_aload_n C 0 rfl rfl dX7_layRodsAsColumns_95 ?_
    refine j_getG C in_X7 (by decide) (cwT_9 ht) rfl 6 (by decide) mw_170 (fun _ h => h) rfl dX7_layRodsAsColumns_96 ?_
    refine j_iload_n C 3 rfl rfl dX7_layRodsAsColumns_99 ?_
    refine j_iconst (v := 2) C (by decide) dX7_layRodsAsColumns_100 ?_
    refine j_irem C (by decide) dX7_layRodsAsColumns_101 ?_
    refine j_if_ne (tgt := 114) C (by decide) dX7_layRodsAsColumns_102 (fun hc3 => ?_) (fun hc3 => ?_)
    · replace h := (if_neg hc3).symm.trans h
      refine j_aload C 4 rfl dX7_layRodsAsColumns_114 ?_
      refine j_getG C in_X4 (by decide) (cw_18 hv4) rfl 5 (by decide) mw_350 (fun _ h => h) rfl dX7_layRodsAsColumns_116 ?_
      refine j_i2l C dX7_layRodsAsColumns_119 ?_
      obtain ⟨hg4, h⟩ := gd_some h
      refine j_lastP C (by decide) (po_row ht (inB_lt hg2) ((gI τ 4 0).toNatClampNeg) ((gI χ 5 v4).toInt64)) hg4 dX7_layRodsAsColumns_120 ?_
      refine j_iinc (v := v3 + (1 : Int32)) (L' := [(3, .int (v3 + (1 : Int32))), (0, .ref (ad 9 t)), (1, .ref (ad 16 v1)), (2, .ref (ad 16 v2)), (4, .ref (ad 18 v4)), (5, .int v5)]) C 3 rfl rfl (by decide) rfl dX7_layRodsAsColumns_121 ?_
      refine j_goto (tgt := 20) C (by decide) dX7_layRodsAsColumns_124 ?_
      exact j_sub [1, 2, 3, 0] rfl (hk20 (wL τ v3.toNatClampNeg ((gI τ 4 0).toNatClampNeg) ((gI χ 5 v4).toInt64)) v1 v2 (v3 + (1 : Int32)) hv1 hv2 h)
    · replace h := (if_pos hc3).symm.trans h
      refine j_aload C 4 rfl dX7_layRodsAsColumns_105 ?_
      refine j_getG C in_X4 (by decide) (cw_18 hv4) rfl 4 (by decide) mw_347 (fun _ h => h) rfl dX7_layRodsAsColumns_107 ?_
      refine j_i2l C dX7_layRodsAsColumns_110 ?_
      refine j_goto (tgt := 120) C (by decide) dX7_layRodsAsColumns_111 ?_
      obtain ⟨hg5, h⟩ := gd_some h
      refine j_lastP C (by decide) (po_row ht (inB_lt hg2) ((gI τ 4 0).toNatClampNeg) ((gI χ 4 v4).toInt64)) hg5 dX7_layRodsAsColumns_120 ?_
      refine j_iinc (v := v3 + (1 : Int32)) (L' := [(3, .int (v3 + (1 : Int32))), (0, .ref (ad 9 t)), (1, .ref (ad 16 v1)), (2, .ref (ad 16 v2)), (4, .ref (ad 18 v4)), (5, .int v5)]) C 3 rfl rfl (by decide) rfl dX7_layRodsAsColumns_121 ?_
      refine j_goto (tgt := 20) C (by decide) dX7_layRodsAsColumns_124 ?_
      exact j_sub [1, 2, 3, 0] rfl (hk20 (wL τ v3.toNatClampNeg ((gI τ 4 0).toNatClampNeg) ((gI χ 4 v4).toInt64)) v1 v2 (v3 + (1 : Int32)) hv1 hv2 h)
  · replace h := (if_neg hc1).symm.trans h
    refine j_aload_n C 0 rfl rfl dX7_layRodsAsColumns_54 ?_
    refine j_getG C in_X7 (by decide) (cwT_9 ht) rfl 0 (by decide) mw_164 (fun _ h => h) rfl dX7_layRodsAsColumns_55 ?_
    refine j_iload_n C 3 rfl rfl dX7_layRodsAsColumns_58 ?_
    obtain ⟨hg6, h⟩ := gd_some h
    refine j_tabrow C ht hg6 dX7_layRodsAsColumns_59 ?_
    refine j_iload C 5 rfl dX7_layRodsAsColumns_60 ?_
    refine j_aload_n C 1 rfl rfl dX7_layRodsAsColumns_62 ?_
    refine j_iload C 5 rfl dX7_layRodsAsColumns_63 ?_
    obtain ⟨hg7, h⟩ := gd_some h
    refine j_wt (fun wt8 => ?_)
    refine j_lgetK (ek := 19) C hv1.1 hv1.2 hg7 mw_466 ⟨Nat.le_of_ble_eq_true rfl, Nat.le_of_ble_eq_true rfl⟩ (Nat.le_of_ble_eq_true rfl) dX7_layRodsAsColumns_65 ⟨Nat.zero_le _, Nat.zero_le _⟩ ?_
    refine j_castS (q := (RX5, TX5, 6)) C mw_467 (by decide) (cw_19 (wt_19 wt8 hv1.1 hv1.2 hg7)) rfl dX7_layRodsAsColumns_70 ?_
    refine j_aload C 4 rfl dX7_layRodsAsColumns_73 ?_
    refine j_iload_n C 3 rfl rfl dX7_layRodsAsColumns_75 ?_
    refine j_iconst (v := 2) C (by decide) dX7_layRodsAsColumns_76 ?_
    refine j_irem C (by decide) dX7_layRodsAsColumns_77 ?_
    obtain ⟨q9, hq9, h⟩ := bi_some h
    refine j_callVi (As := [.ref (ad 18 v4), .int (v3 - v3 / (2 : Int32) * (2 : Int32))]) (rest := [.int v5, .ref (ad 11 (15 * t + v3.toNatClampNeg))]) C (c_X5_reach (wt_19 wt8 hv1.1 hv1.2 hg7) hv4 hq9) (cwV 2 C.ts (good_V mw_469 mw_470 mw_471 mw_82 mw_472) rfl rfl rfl (by decide +kernel) ⟨Nat.le_of_ble_eq_true rfl, Nat.le_of_ble_eq_true rfl⟩) (fun H hW => CW.rv C.k hW (by decide) (cw_19 (wt_19 wt8 hv1.1 hv1.2 hg7)) rfl) rfl rfl (Nat.le_of_ble_eq_true rfl) dX7_layRodsAsColumns_78 ⟨Nat.le_of_ble_eq_true rfl, Nat.le_of_ble_eq_true rfl⟩ ?_
    refine j_i2l C dX7_layRodsAsColumns_81 ?_
    obtain ⟨hg10, h⟩ := gd_some h
    refine j_lastP C (by decide) (po_row ht (inB_lt hg6) v5.toNatClampNeg q9.toInt64) hg10 dX7_layRodsAsColumns_82 ?_
    refine j_iinc (v := v5 + (1 : Int32)) (L' := [(5, .int (v5 + (1 : Int32))), (0, .ref (ad 9 t)), (1, .ref (ad 16 v1)), (2, .ref (ad 16 v2)), (3, .int v3), (4, .ref (ad 18 v4))]) C 5 rfl rfl (by decide) rfl dX7_layRodsAsColumns_83 ?_
    refine j_goto (tgt := 45) C (by decide) dX7_layRodsAsColumns_86 ?_
    exact j_sub [1, 2, 3, 4, 5, 0] rfl (ih (wL τ v3.toNatClampNeg v5.toNatClampNeg q9.toInt64) v1 v2 v3 v4 (v5 + (1 : Int32)) hv1 hv2 hv4 h)
set_option maxRecDepth 100000 in
set_option maxHeartbeats 4000000 in
theorem t_X7_layRodsAsColumns_20 {T : Nat → Mem} {σ : Mem} {t : Nat} {χ : Mem} (C : Cx p s m args meth c cX7_layRodsAsColumns 6 RX7 none COM g) (ht : t < 3) {rr : Mem} : ∀ (n : Nat) (τ : Mem) (v1 : Nat) (v2 : Nat) (v3 : Int32) (hv1 : v1 < 6 ∧ elK v1 = 19) (hv2 : v2 < 6 ∧ elK v2 = 18) (h : f_X7_layRodsAsColumns_20 χ n τ v1 v2 v3 = some rr), JJ p l e rm_X7_layRodsAsColumns s m args below meth c 6 g ad (MQ below (PoV g ad χ (stT T t (rr)) σ) args s 0 0 (geB g)) χ (stT T t τ) σ 0 0 [(0, .ref (ad 9 t)), (1, .ref (ad 16 v1)), (2, .ref (ad 16 v2)), (3, .int v3)] 20 [] := by
  intro n
  induction n with
  | zero => intro τ v1 v2 v3 hv1 hv2 h; cases h
  | succ n ih =>
  intro τ v1 v2 v3 hv1 hv2 h
  rw [f_X7_layRodsAsColumns_20] at h
  refine j_iload_n C 3 rfl rfl dX7_layRodsAsColumns_20 ?_
  refine j_aload_n C 0 rfl rfl dX7_layRodsAsColumns_21 ?_
  refine j_getG C in_X7 (by decide) (cwT_9 ht) rfl 5 (by decide) mw_169 (fun _ h => h) rfl dX7_layRodsAsColumns_22 ?_
  refine j_icmp_ge (tgt := 127) C (by decide) dX7_layRodsAsColumns_25 (fun hc1 => ?_) (fun hc1 => ?_)
  · replace h := (if_pos hc1).symm.trans h
    obtain rfl := Option.some.inj h
    exact j_vret C rfl (Nat.le_refl _) (Nat.le_refl _) dX7_layRodsAsColumns_127
  · replace h := (if_neg hc1).symm.trans h
    refine j_aload_n C 2 rfl rfl dX7_layRodsAsColumns_28 ?_
    refine j_iload_n C 3 rfl rfl dX7_layRodsAsColumns_29 ?_
    refine j_iconst (v := 2) C (by decide) dX7_layRodsAsColumns_30 ?_
    refine j_idiv C (by decide) dX7_layRodsAsColumns_31 ?_
    obtain ⟨hg2, h⟩ := gd_some h
    refine j_wt (fun wt3 => ?_)
    refine j_lgetK (ek := 18) C hv2.1 hv2.2 hg2 mw_466 ⟨Nat.le_of_ble_eq_true rfl, Nat.le_of_ble_eq_true rfl⟩ (Nat.le_of_ble_eq_true rfl) dX7_layRodsAsColumns_32 ⟨Nat.zero_le _, Nat.zero_le _⟩ ?_
    refine j_castS (q := (RX4, TX4, 6)) C mw_468 (by decide) (cw_18 (wt_18 wt3 hv2.1 hv2.2 hg2)) rfl dX7_layRodsAsColumns_37 ?_
    refine j_astore (L' := [(4, .ref (ad 18 (gN χ v2 (v3 / (2 : Int32)).toNatClampNeg))), (0, .ref (ad 9 t)), (1, .ref (ad 16 v1)), (2, .ref (ad 16 v2)), (3, .int v3)]) C (by decide) rfl dX7_layRodsAsColumns_40 ?_
    refine j_iconst (v := 0) C (by decide) dX7_layRodsAsColumns_42 ?_
    refine j_istore (L' := [(5, .int (0 : Int32)), (4, .ref (ad 18 (gN χ v2 (v3 / (2 : Int32)).toNatClampNeg))), (0, .ref (ad 9 t)), (1, .ref (ad 16 v1)), (2, .ref (ad 16 v2)), (3, .int v3)]) C (by decide) rfl dX7_layRodsAsColumns_43 ?_
    exact j_sub [2, 3, 4, 5, 1, 0] rfl (t_X7_layRodsAsColumns_45 C ht ih FU τ v1 v2 v3 (gN χ v2 (v3 / (2 : Int32)).toNatClampNeg) (0 : Int32) hv1 hv2 (wt_18 wt3 hv2.1 hv2.2 hg2) h)
set_option maxRecDepth 100000 in
set_option maxHeartbeats 4000000 in
theorem t_X7_layRodsAsColumns_0 {T : Nat → Mem} {σ : Mem} {t : Nat} {χ : Mem} (C : Cx p s m args meth c cX7_layRodsAsColumns 6 RX7 none COM g) (ht : t < 3) {rr : Mem} (τ : Mem) (a1 : Nat) (a2 : Nat) (ha1 : a1 < 6 ∧ elK a1 = 19) (ha2 : a2 < 6 ∧ elK a2 = 18) (h : f_X7_layRodsAsColumns_0 χ τ a1 a2 = some rr) : JJ p l e rm_X7_layRodsAsColumns s m args below meth c 6 g ad (MQ below (PoV g ad χ (stT T t (rr)) σ) args s 0 0 (geB g)) χ (stT T t τ) σ 0 0 [(0, .ref (ad 9 t)), (1, .ref (ad 16 a1)), (2, .ref (ad 16 a2))] 0 [] := by
  rw [f_X7_layRodsAsColumns_0] at h
  refine j_aload_n C 0 rfl rfl dX7_layRodsAsColumns_0 ?_
  refine j_iconst (v := 2) C (by decide) dX7_layRodsAsColumns_1 ?_
  refine j_aload_n C 2 rfl rfl dX7_layRodsAsColumns_2 ?_
  refine j_lsize C ha2.1 mw_459 ⟨Nat.le_of_ble_eq_true rfl, Nat.le_of_ble_eq_true rfl⟩ (Nat.le_of_ble_eq_true rfl) dX7_layRodsAsColumns_3 ⟨Nat.zero_le _, Nat.zero_le _⟩ ?_
  refine j_imul C dX7_layRodsAsColumns_8 ?_
  refine j_aload_n C 1 rfl rfl dX7_layRodsAsColumns_9 ?_
  refine j_lsize C ha1.1 mw_459 ⟨Nat.le_of_ble_eq_true rfl, Nat.le_of_ble_eq_true rfl⟩ (Nat.le_of_ble_eq_true rfl) dX7_layRodsAsColumns_10 ⟨Nat.zero_le _, Nat.zero_le _⟩ ?_
  obtain ⟨q1, hq1, h⟩ := bi_some h
  refine j_callVv (As := [.int ((2 : Int32) * (gI χ 14 a2)), .int (gI χ 14 a1)]) (rest := []) C (c_X7_start ht hq1) (cwV 2 C.ts (good_V mw_460 mw_462 mw_4 mw_69 mw_463) rfl rfl rfl (by decide +kernel) ⟨Nat.le_of_ble_eq_true rfl, Nat.le_of_ble_eq_true rfl⟩) (fun H hW => CW.rv C.k hW (by decide) (cwT_9 ht) rfl) rfl rfl (Nat.le_of_ble_eq_true rfl) dX7_layRodsAsColumns_15 ⟨Nat.le_of_ble_eq_true rfl, Nat.le_of_ble_eq_true rfl⟩ ?_
  refine j_iconst (v := 0) C (by decide) dX7_layRodsAsColumns_18 ?_
  refine j_istore_n (L' := [(3, .int (0 : Int32)), (0, .ref (ad 9 t)), (1, .ref (ad 16 a1)), (2, .ref (ad 16 a2))]) C rfl (by decide) rfl dX7_layRodsAsColumns_19 ?_
  exact j_sub [1, 2, 3, 0] rfl (t_X7_layRodsAsColumns_20 C ht FU q1 a1 a2 (0 : Int32) ha1 ha2 h)
set_option maxRecDepth 100000 in
set_option maxHeartbeats 4000000 in
theorem c_X7_layRodsAsColumns {l : Launch} {g : Gc} {ad : Nat → Nat → Nat} {χ : Mem} {T : Nat → Mem} {σ : Mem} {τ : Mem} {t : Nat} {a1 : Nat} {a2 : Nat} (ht : t < 3) (ha1 : a1 < 6 ∧ elK a1 = 19) (ha2 : a2 < 6 ∧ elK a2 = 18) {rr : Mem} (h : f_X7_layRodsAsColumns χ τ a1 a2 = some rr) : Met l yX7_layRodsAsColumns (WS yX7_layRodsAsColumns cX7_layRodsAsColumns 6 none) rm_X7_layRodsAsColumns (PreW g ad χ (stT T t τ) σ [.ref (ad 9 t), .ref (ad 16 a1), .ref (ad 16 a2)]) (PoV g ad χ (stT T t (rr)) σ) 0 0 (geB g) := by
  refine j_metW (by decide) (Nat.le_of_ble_eq_true rfl) fun p e s m below meth c C hname => ?_
  rw [f_X7_layRodsAsColumns] at h
  exact j_sub [0, 1, 2] rfl (t_X7_layRodsAsColumns_0 C ht τ a1 a2 ha1 ha2 h)
theorem cc_X7_layRodsAsColumns {l : Launch} {g : Gc} {ad : Nat → Nat → Nat} {χ : Mem} {T : Nat → Mem} {σ : Mem} {t : Nat} {a1 : Nat} {a2 : Nat} (ht : t < 3) (ha1 : a1 < 6 ∧ elK a1 = 19) (ha2 : a2 < 6 ∧ elK a2 = 18) {rr : Mem} (h : f_X7_layRodsAsColumns χ (T t) a1 a2 = some rr) : Met l yX7_layRodsAsColumns (WS yX7_layRodsAsColumns cX7_layRodsAsColumns 6 none) rm_X7_layRodsAsColumns (PreW g ad χ T σ [.ref (ad 9 t), .ref (ad 16 a1), .ref (ad 16 a2)]) (PoV g ad χ (stT T t (rr)) σ) 0 0 (geB g) := by
  have k := c_X7_layRodsAsColumns (l := l) (g := g) (ad := ad) (χ := χ) (T := T) (σ := σ) ht ha1 ha2 h
  rw [stT_self] at k
  exact k
set_option maxRecDepth 100000 in
set_option maxHeartbeats 4000000 in
theorem t_X7_layRodsAsRows_31 {T : Nat → Mem} {σ : Mem} {t : Nat} {χ : Mem} (C : Cx p s m args meth c cX7_layRodsAsRows 5 RX7 none COM g) (ht : t < 3) {rr : Mem} {k20 : Mem → Nat → Nat → Int32 → Option (Mem)} (hk20 : ∀ (τ : Mem) (v1 : Nat) (v2 : Nat) (v3 : Int32) (hv1 : v1 < 6 ∧ elK v1 = 19) (hv2 : v2 < 6 ∧ elK v2 = 18), k20 τ v1 v2 v3 = some rr → JJ p l e rm_X7_layRodsAsRows s m args below meth c 5 g ad (MQ below (PoV g ad χ (stT T t (rr)) σ) args s 0 0 (geB g)) χ (stT T t τ) σ 0 0 [(0, .ref (ad 9 t)), (1, .ref (ad 16 v1)), (2, .ref (ad 16 v2)), (3, .int v3)] 20 []) : ∀ (n : Nat) (τ : Mem) (v1 : Nat) (v2 : Nat) (v3 : Int32) (v4 : Int32) (hv1 : v1 < 6 ∧ elK v1 = 19) (hv2 : v2 < 6 ∧ elK v2 = 18) (h : f_X7_layRodsAsRows_31 χ k20 n τ v1 v2 v3 v4 = some rr), JJ p l e rm_X7_layRodsAsRows s m args below meth c 5 g ad (MQ below (PoV g ad χ (stT T t (rr)) σ) args s 0 0 (geB g)) χ (stT T t τ) σ 0 0 [(0, .ref (ad 9 t)), (1, .ref (ad 16 v1)), (2, .ref (ad 16 v2)), (3, .int v3), (4, .int v4)] 31 [] := by
  intro n
  induction n with
  | zero => intro τ v1 v2 v3 v4 hv1 hv2 h; cases h
  | succ n ih =>
  intro τ v1 v2 v3 v4 hv1 hv2 h
  rw [f_X7_layRodsAsRows_31] at h
  refine j_iload C 4 rfl dX7_layRodsAsRows_31 ?_
  refine j_aload_n C 0 rfl rfl dX7_layRodsAsRows_33 ?_
  refine j_getG C in_X7 (by decide) (cwT_9 ht) rfl 6 (by decide) mw_170 (fun _ h => h) rfl dX7_layRodsAsRows_34 ?_
  refine j_icmp_ge (tgt := 86) C (by decide) dX7_layRodsAsRows_37 (fun hc1 => ?_) (fun hc1 => ?_)
  · replace h := (if_pos hc1).symm.trans h
    refine j_aload_n C 0 rfl rfl dX7_layRodsAsRows_86 ?_
    refine j_getG C in_X7 (by decide) (cwT_9 ht) rfl 0 (by decide) mw_164 (fun _ h => h) rfl dX7_layRodsAsRows_87 ?_
    refine j_iload_n C 3 rfl rfl dX7_layRodsAsRows_90 ?_
    obtain ⟨hg2, h⟩ := gd_some h
    refine j_tabrow C ht hg2 dX7_layRodsAsRows_91 ?_
    refine j_aload_n C 0 rfl rfl dX7_layRodsAsRows_92 ?_
    refine j_getG C in_X7 (by decide) (cwT_9 ht) rfl 6 (by decide) mw_170 (fun _ h => h) rfl dX7_layRodsAsRows_93 ?_
    refine j_lconst (v := 0) C (by decide) dX7_layRodsAsRows_96 ?_
    obtain ⟨hg3, h⟩ := gd_some h
    refine j_lastP C (by decide) (po_row ht (inB_lt hg2) ((gI τ 4 0).toNatClampNeg) (0 : Int64)) hg3 dX7_layRodsAsRows_97 ?_
    refine j_iinc (v := v3 + (1 : Int32)) (L' := [(3, .int (v3 + (1 : Int32))), (0, .ref (ad 9 t)), (1, .ref (ad 16 v1)), (2, .ref (ad 16 v2)), (4, .int v4)]) C 3 rfl rfl (by decide) rfl dX7_layRodsAsRows_98 ?_
    refine j_goto (tgt := 20) C (by decide) dX7_layRodsAsRows_101 ?_
    exact j_sub [1, 2, 3, 0] rfl (hk20 (wL τ v3.toNatClampNeg ((gI τ 4 0).toNatClampNeg) (0 : Int64)) v1 v2 (v3 + (1 : Int32)) hv1 hv2 h)
  · replace h := (if_neg hc1).symm.trans h
    refine j_aload_n C 0 rfl rfl dX7_layRodsAsRows_40 ?_
    refine j_getG C in_X7 (by decide) (cwT_9 ht) rfl 0 (by decide) mw_164 (fun _ h => h) rfl dX7_layRodsAsRows_41 ?_
    refine j_iload_n C 3 rfl rfl dX7_layRodsAsRows_44 ?_
    obtain ⟨hg4, h⟩ := gd_some h
    refine j_tabrow C ht hg4 dX7_layRodsAsRows_45 ?_
    refine j_iload C 4 rfl dX7_layRodsAsRows_46 ?_
    refine j_aload_n C 1 rfl rfl dX7_layRodsAsRows_48 ?_
    refine j_iload_n C 3 rfl rfl dX7_layRodsAsRows_49 ?_
    obtain ⟨hg5, h⟩ := gd_some h
    refine j_wt (fun wt6 => ?_)
    refine j_lgetK (ek := 19) C hv1.1 hv1.2 hg5 mw_466 ⟨Nat.le_of_ble_eq_true rfl, Nat.le_of_ble_eq_true rfl⟩ (Nat.le_of_ble_eq_true rfl) dX7_layRodsAsRows_50 ⟨Nat.zero_le _, Nat.zero_le _⟩ ?_
    refine j_castS (q := (RX5, TX5, 6)) C mw_467 (by decide) (cw_19 (wt_19 wt6 hv1.1 hv1.2 hg5)) rfl dX7_layRodsAsRows_55 ?_
    refine j_aload_n C 2 rfl rfl dX7_layRodsAsRows_58 ?_
    refine j_iload C 4 rfl dX7_layRodsAsRows_59 ?_
    refine j_iconst (v := 2) C (by decide) dX7_layRodsAsRows_61 ?_
    refine j_idiv C (by decide) dX7_layRodsAsRows_62 ?_
    obtain ⟨hg7, h⟩ := gd_some h
    refine j_wt (fun wt8 => ?_)
    refine j_lgetK (ek := 18) C hv2.1 hv2.2 hg7 mw_466 ⟨Nat.le_of_ble_eq_true rfl, Nat.le_of_ble_eq_true rfl⟩ (Nat.le_of_ble_eq_true rfl) dX7_layRodsAsRows_63 ⟨Nat.zero_le _, Nat.zero_le _⟩ ?_
    refine j_castS (q := (RX4, TX4, 6)) C mw_468 (by decide) (cw_18 (wt_18 wt8 hv2.1 hv2.2 hg7)) rfl dX7_layRodsAsRows_68 ?_
    refine j_iload C 4 rfl dX7_layRodsAsRows_71 ?_
    refine j_iconst (v := 2) C (by decide) dX7_layRodsAsRows_73 ?_
    refine j_irem C (by decide) dX7_layRodsAsRows_74 ?_
    obtain ⟨q9, hq9, h⟩ := bi_some h
    refine j_callVi (As := [.ref (ad 18 (gN χ v2 (v4 / (2 : Int32)).toNatClampNeg)), .int (v4 - v4 / (2 : Int32) * (2 : Int32))]) (rest := [.int v4, .ref (ad 11 (15 * t + v3.toNatClampNeg))]) C (c_X5_reach (wt_19 wt6 hv1.1 hv1.2 hg5) (wt_18 wt8 hv2.1 hv2.2 hg7) hq9) (cwV 2 C.ts (good_V mw_469 mw_470 mw_471 mw_82 mw_472) rfl rfl rfl (by decide +kernel) ⟨Nat.le_of_ble_eq_true rfl, Nat.le_of_ble_eq_true rfl⟩) (fun H hW => CW.rv C.k hW (by decide) (cw_19 (wt_19 wt6 hv1.1 hv1.2 hg5)) rfl) rfl rfl (Nat.le_of_ble_eq_true rfl) dX7_layRodsAsRows_75 ⟨Nat.le_of_ble_eq_true rfl, Nat.le_of_ble_eq_true rfl⟩ ?_
    refine j_i2l C dX7_layRodsAsRows_78 ?_
    obtain ⟨hg10, h⟩ := gd_some h
    refine j_lastP C (by decide) (po_row ht (inB_lt hg4) v4.toNatClampNeg q9.toInt64) hg10 dX7_layRodsAsRows_79 ?_
    refine j_iinc (v := v4 + (1 : Int32)) (L' := [(4, .int (v4 + (1 : Int32))), (0, .ref (ad 9 t)), (1, .ref (ad 16 v1)), (2, .ref (ad 16 v2)), (3, .int v3)]) C 4 rfl rfl (by decide) rfl dX7_layRodsAsRows_80 ?_
    refine j_goto (tgt := 31) C (by decide) dX7_layRodsAsRows_83 ?_
    exact j_sub [1, 2, 3, 4, 0] rfl (ih (wL τ v3.toNatClampNeg v4.toNatClampNeg q9.toInt64) v1 v2 v3 (v4 + (1 : Int32)) hv1 hv2 h)
set_option maxRecDepth 100000 in
set_option maxHeartbeats 4000000 in
theorem t_X7_layRodsAsRows_20 {T : Nat → Mem} {σ : Mem} {t : Nat} {χ : Mem} (C : Cx p s m args meth c cX7_layRodsAsRows 5 RX7 none COM g) (ht : t < 3) {rr : Mem} : ∀ (n : Nat) (τ : Mem) (v1 : Nat) (v2 : Nat) (v3 : Int32) (hv1 : v1 < 6 ∧ elK v1 = 19) (hv2 : v2 < 6 ∧ elK v2 = 18) (h : f_X7_layRodsAsRows_20 χ n τ v1 v2 v3 = some rr), JJ p l e rm_X7_layRodsAsRows s m args below meth c 5 g ad (MQ below (PoV g ad χ (stT T t (rr)) σ) args s 0 0 (geB g)) χ (stT T t τ) σ 0 0 [(0, .ref (ad 9 t)), (1, .ref (ad 16 v1)), (2, .ref (ad 16 v2)), (3, .int v3)] 20 [] := by
  intro n
  induction n with
  | zero => intro τ v1 v2 v3 hv1 hv2 h; cases h
  | succ n ih =>
  intro τ v1 v2 v3 hv1 hv2 h
  rw [f_X7_layRodsAsRows_20] at h
  refine j_iload_n C 3 rfl rfl dX7_layRodsAsRows_20 ?_
  refine j_aload_n C 0 rfl rfl dX7_layRodsAsRows_21 ?_
  refine j_getG C in_X7 (by decide) (cwT_9 ht) rfl 5 (by decide) mw_169 (fun _ h => h) rfl dX7_layRodsAsRows_22 ?_
  refine j_icmp_ge (tgt := 104) C (by decide) dX7_layRodsAsRows_25 (fun hc1 => ?_) (fun hc1 => ?_)
  · replace h := (if_pos hc1).symm.trans h
    obtain rfl := Option.some.inj h
    exact j_vret C rfl (Nat.le_refl _) (Nat.le_refl _) dX7_layRodsAsRows_104
  · replace h := (if_neg hc1).symm.trans h
    refine j_iconst (v := 0) C (by decide) dX7_layRodsAsRows_28 ?_
    refine j_istore (L' := [(4, .int (0 : Int32)), (0, .ref (ad 9 t)), (1, .ref (ad 16 v1)), (2, .ref (ad 16 v2)), (3, .int v3)]) C (by decide) rfl dX7_layRodsAsRows_29 ?_
    exact j_sub [1, 2, 3, 4, 0] rfl (t_X7_layRodsAsRows_31 C ht ih FU τ v1 v2 v3 (0 : Int32) hv1 hv2 h)
set_option maxRecDepth 100000 in
set_option maxHeartbeats 4000000 in
theorem t_X7_layRodsAsRows_0 {T : Nat → Mem} {σ : Mem} {t : Nat} {χ : Mem} (C : Cx p s m args meth c cX7_layRodsAsRows 5 RX7 none COM g) (ht : t < 3) {rr : Mem} (τ : Mem) (a1 : Nat) (a2 : Nat) (ha1 : a1 < 6 ∧ elK a1 = 19) (ha2 : a2 < 6 ∧ elK a2 = 18) (h : f_X7_layRodsAsRows_0 χ τ a1 a2 = some rr) : JJ p l e rm_X7_layRodsAsRows s m args below meth c 5 g ad (MQ below (PoV g ad χ (stT T t (rr)) σ) args s 0 0 (geB g)) χ (stT T t τ) σ 0 0 [(0, .ref (ad 9 t)), (1, .ref (ad 16 a1)), (2, .ref (ad 16 a2))] 0 [] := by
  rw [f_X7_layRodsAsRows_0] at h
  refine j_aload_n C 0 rfl rfl dX7_layRodsAsRows_0 ?_
  refine j_aload_n C 1 rfl rfl dX7_layRodsAsRows_1 ?_
  refine j_lsize C ha1.1 mw_459 ⟨Nat.le_of_ble_eq_true rfl, Nat.le_of_ble_eq_true rfl⟩ (Nat.le_of_ble_eq_true rfl) dX7_layRodsAsRows_2 ⟨Nat.zero_le _, Nat.zero_le _⟩ ?_
  refine j_iconst (v := 2) C (by decide) dX7_layRodsAsRows_7 ?_
  refine j_aload_n C 2 rfl rfl dX7_layRodsAsRows_8 ?_
  refine j_lsize C ha2.1 mw_459 ⟨Nat.le_of_ble_eq_true rfl, Nat.le_of_ble_eq_true rfl⟩ (Nat.le_of_ble_eq_true rfl) dX7_layRodsAsRows_9 ⟨Nat.zero_le _, Nat.zero_le _⟩ ?_
  refine j_imul C dX7_layRodsAsRows_14 ?_
  obtain ⟨q1, hq1, h⟩ := bi_some h
  refine j_callVv (As := [.int (gI χ 14 a1), .int ((2 : Int32) * (gI χ 14 a2))]) (rest := []) C (c_X7_start ht hq1) (cwV 2 C.ts (good_V mw_460 mw_462 mw_4 mw_69 mw_463) rfl rfl rfl (by decide +kernel) ⟨Nat.le_of_ble_eq_true rfl, Nat.le_of_ble_eq_true rfl⟩) (fun H hW => CW.rv C.k hW (by decide) (cwT_9 ht) rfl) rfl rfl (Nat.le_of_ble_eq_true rfl) dX7_layRodsAsRows_15 ⟨Nat.le_of_ble_eq_true rfl, Nat.le_of_ble_eq_true rfl⟩ ?_
  refine j_iconst (v := 0) C (by decide) dX7_layRodsAsRows_18 ?_
  refine j_istore_n (L' := [(3, .int (0 : Int32)), (0, .ref (ad 9 t)), (1, .ref (ad 16 a1)), (2, .ref (ad 16 a2))]) C rfl (by decide) rfl dX7_layRodsAsRows_19 ?_
  exact j_sub [1, 2, 3, 0] rfl (t_X7_layRodsAsRows_20 C ht FU q1 a1 a2 (0 : Int32) ha1 ha2 h)
set_option maxRecDepth 100000 in
set_option maxHeartbeats 4000000 in
theorem c_X7_layRodsAsRows {l : Launch} {g : Gc} {ad : Nat → Nat → Nat} {χ : Mem} {T : Nat → Mem} {σ : Mem} {τ : Mem} {t : Nat} {a1 : Nat} {a2 : Nat} (ht : t < 3) (ha1 : a1 < 6 ∧ elK a1 = 19) (ha2 : a2 < 6 ∧ elK a2 = 18) {rr : Mem} (h : f_X7_layRodsAsRows χ τ a1 a2 = some rr) : Met l yX7_layRodsAsRows (WS yX7_layRodsAsRows cX7_layRodsAsRows 5 none) rm_X7_layRodsAsRows (PreW g ad χ (stT T t τ) σ [.ref (ad 9 t), .ref (ad 16 a1), .ref (ad 16 a2)]) (PoV g ad χ (stT T t (rr)) σ) 0 0 (geB g) := by
  refine j_metW (by decide) (Nat.le_of_ble_eq_true rfl) fun p e s m below meth c C hname => ?_
  rw [f_X7_layRodsAsRows] at h
  exact j_sub [0, 1, 2] rfl (t_X7_layRodsAsRows_0 C ht τ a1 a2 ha1 ha2 h)
theorem cc_X7_layRodsAsRows {l : Launch} {g : Gc} {ad : Nat → Nat → Nat} {χ : Mem} {T : Nat → Mem} {σ : Mem} {t : Nat} {a1 : Nat} {a2 : Nat} (ht : t < 3) (ha1 : a1 < 6 ∧ elK a1 = 19) (ha2 : a2 < 6 ∧ elK a2 = 18) {rr : Mem} (h : f_X7_layRodsAsRows χ (T t) a1 a2 = some rr) : Met l yX7_layRodsAsRows (WS yX7_layRodsAsRows cX7_layRodsAsRows 5 none) rm_X7_layRodsAsRows (PreW g ad χ T σ [.ref (ad 9 t), .ref (ad 16 a1), .ref (ad 16 a2)]) (PoV g ad χ (stT T t (rr)) σ) 0 0 (geB g) := by
  have k := c_X7_layRodsAsRows (l := l) (g := g) (ad := ad) (χ := χ) (T := T) (σ := σ) ht ha1 ha2 h
  rw [stT_self] at k
  exact k
set_option maxRecDepth 100000 in
set_option maxHeartbeats 4000000 in
theorem t_X0_isCarried_0 {σ : Mem} {χ : Mem} {T : Nat → Mem} (C : Cx p s m args meth c cX0_isCarried 1 RX0 (some .boolean) COM g) {rr : Int32} (h : f_X0_isCarried_0 χ T = some rr) : JJ p l e rm_X0_isCarried s m args below meth c 1 g ad (MQ below (PoI g ad χ T σ rr) args s 0 0 (geB g)) χ T σ 0 0 [(0, .ref (ad 2 0))] 0 [] := by
  rw [f_X0_isCarried_0] at h
  refine j_aload_n C 0 rfl rfl dX0_isCarried_0 ?_
  refine j_getG C in_X0 (by decide) cw_2 rfl 2 (by decide) mw_194 (fun _ h => h) rfl dX0_isCarried_1 ?_
  obtain ⟨q1, hq1, h⟩ := bi_some h
  refine j_callVi (As := []) (rest := []) C (cc_X7_hasSolution (T := T) (t := 1) (by decide) hq1) (cwV 0 C.ts (good_V mw_812 mw_813 mw_814 mw_69 mw_815) rfl rfl rfl (by decide +kernel) ⟨Nat.le_of_ble_eq_true rfl, Nat.le_of_ble_eq_true rfl⟩) (fun H hW => CW.rv C.k hW (by decide) (cw_9 (by decide)) rfl) rfl rfl (Nat.le_of_ble_eq_true rfl) dX0_isCarried_4 ⟨Nat.le_of_ble_eq_true rfl, Nat.le_of_ble_eq_true rfl⟩ ?_
  obtain ⟨hg2, h⟩ := gd_some h
  obtain rfl := Option.some.inj h
  exact j_iret C rfl (bo_nar hg2) (Nat.le_refl _) (Nat.le_refl _) dX0_isCarried_7
set_option maxRecDepth 100000 in
set_option maxHeartbeats 4000000 in
theorem c_X0_isCarried {l : Launch} {g : Gc} {ad : Nat → Nat → Nat} {χ : Mem} {T : Nat → Mem} {σ : Mem} {rr : Int32} (h : f_X0_isCarried χ T = some rr) : Met l yX0_isCarried (WS yX0_isCarried cX0_isCarried 1 (some .boolean)) rm_X0_isCarried (PreW g ad χ T σ [.ref (ad 2 0)]) (PoI g ad χ T σ rr) 0 0 (geB g) := by
  refine j_metW (by decide) (Nat.le_of_ble_eq_true rfl) fun p e s m below meth c C hname => ?_
  rw [f_X0_isCarried] at h
  exact j_sub [0] rfl (t_X0_isCarried_0 C h)
set_option maxRecDepth 100000 in
set_option maxHeartbeats 4000000 in
theorem t_X0_columnOf_2 {σ : Mem} {χ : Mem} {T : Nat → Mem} (C : Cx p s m args meth c cX0_columnOf 3 RX0 (some .int) COM g) {rr : Int32} : ∀ (n : Nat) (v1 : Nat) (v2 : Int32) (hv1 : v1 < gN χ 8 1) (h : f_X0_columnOf_2 χ T n v1 v2 = some rr), JJ p l e rm_X0_columnOf s m args below meth c 3 g ad (MQ below (PoI g ad χ T σ rr) args s 0 0 (geB g)) χ T σ 0 0 [(0, .ref (ad 2 0)), (1, .ref (ad 19 v1)), (2, .int v2)] 2 [] := by
  intro n
  induction n with
  | zero => intro v1 v2 hv1 h; cases h
  | succ n ih =>
  intro v1 v2 hv1 h
  rw [f_X0_columnOf_2] at h
  refine j_iload_n C 2 rfl rfl dX0_columnOf_2 ?_
  refine j_aload_n C 0 rfl rfl dX0_columnOf_3 ?_
  refine j_getG C in_X0 (by decide) cw_2 rfl 0 (by decide) mw_192 (fun _ h => h) rfl dX0_columnOf_4 ?_
  refine j_getG C in_X2 (by decide) cw_1 rfl 3 (by decide) mw_140 (fun _ h => h) rfl dX0_columnOf_7 ?_
  refine j_lsize C (by decide) mw_734 ⟨Nat.le_of_ble_eq_true rfl, Nat.le_of_ble_eq_true rfl⟩ (Nat.le_of_ble_eq_true rfl) dX0_columnOf_10 ⟨Nat.zero_le _, Nat.zero_le _⟩ ?_
  refine j_icmp_ge (tgt := 43) C (by decide) dX0_columnOf_15 (fun hc1 => ?_) (fun hc1 => ?_)
  · replace h := (if_pos hc1).symm.trans h
    refine j_iconst (v := -1) C (by decide) dX0_columnOf_43 ?_
    obtain rfl := Option.some.inj h
    exact j_iret C rfl rfl (Nat.le_refl _) (Nat.le_refl _) dX0_columnOf_44
  · replace h := (if_neg hc1).symm.trans h
    refine j_aload_n C 0 rfl rfl dX0_columnOf_18 ?_
    refine j_getG C in_X0 (by decide) cw_2 rfl 0 (by decide) mw_192 (fun _ h => h) rfl dX0_columnOf_19 ?_
    refine j_getG C in_X2 (by decide) cw_1 rfl 3 (by decide) mw_140 (fun _ h => h) rfl dX0_columnOf_22 ?_
    refine j_iload_n C 2 rfl rfl dX0_columnOf_25 ?_
    obtain ⟨hg2, h⟩ := gd_some h
    refine j_wt (fun wt3 => ?_)
    refine j_lgetK (ek := 19) C (by decide) (by decide) hg2 mw_736 ⟨Nat.le_of_ble_eq_true rfl, Nat.le_of_ble_eq_true rfl⟩ (Nat.le_of_ble_eq_true rfl) dX0_columnOf_26 ⟨Nat.zero_le _, Nat.zero_le _⟩ ?_
    refine j_aload_n C 1 rfl rfl dX0_columnOf_31 ?_
    refine j_acmp_ne (tgt := 37) C (by decide) (cw_19 (wt_19 wt3 (by decide) (by decide) hg2)) (cw_19 hv1) (by decide) dX0_columnOf_32 (fun hc4 => ?_) (fun hc4 => ?_)
    · replace h := (if_neg hc4).symm.trans h
      refine j_iinc (v := v2 + (1 : Int32)) (L' := [(2, .int (v2 + (1 : Int32))), (0, .ref (ad 2 0)), (1, .ref (ad 19 v1))]) C 2 rfl rfl (by decide) rfl dX0_columnOf_37 ?_
      refine j_goto (tgt := 2) C (by decide) dX0_columnOf_40 ?_
      exact j_sub [1, 2, 0] rfl (ih v1 (v2 + (1 : Int32)) hv1 h)
    · replace h := (if_pos hc4).symm.trans h
      refine j_iload_n C 2 rfl rfl dX0_columnOf_35 ?_
      obtain rfl := Option.some.inj h
      exact j_iret C rfl rfl (Nat.le_refl _) (Nat.le_refl _) dX0_columnOf_36
set_option maxRecDepth 100000 in
set_option maxHeartbeats 4000000 in
theorem t_X0_columnOf_0 {σ : Mem} {χ : Mem} {T : Nat → Mem} (C : Cx p s m args meth c cX0_columnOf 3 RX0 (some .int) COM g) {rr : Int32} (a1 : Nat) (ha1 : a1 < gN χ 8 1) (h : f_X0_columnOf_0 χ T a1 = some rr) : JJ p l e rm_X0_columnOf s m args below meth c 3 g ad (MQ below (PoI g ad χ T σ rr) args s 0 0 (geB g)) χ T σ 0 0 [(0, .ref (ad 2 0)), (1, .ref (ad 19 a1))] 0 [] := by
  rw [f_X0_columnOf_0] at h
  refine j_iconst (v := 0) C (by decide) dX0_columnOf_0 ?_
  refine j_istore_n (L' := [(2, .int (0 : Int32)), (0, .ref (ad 2 0)), (1, .ref (ad 19 a1))]) C rfl (by decide) rfl dX0_columnOf_1 ?_
  exact j_sub [1, 2, 0] rfl (t_X0_columnOf_2 C FU a1 (0 : Int32) ha1 h)
set_option maxRecDepth 100000 in
set_option maxHeartbeats 4000000 in
theorem c_X0_columnOf {l : Launch} {g : Gc} {ad : Nat → Nat → Nat} {χ : Mem} {T : Nat → Mem} {σ : Mem} {a1 : Nat} (ha1 : a1 < gN χ 8 1) {rr : Int32} (h : f_X0_columnOf χ T a1 = some rr) : Met l yX0_columnOf (WS yX0_columnOf cX0_columnOf 3 (some .int)) rm_X0_columnOf (PreW g ad χ T σ [.ref (ad 2 0), .ref (ad 19 a1)]) (PoI g ad χ T σ rr) 0 0 (geB g) := by
  refine j_metW (by decide) (Nat.le_of_ble_eq_true rfl) fun p e s m below meth c C hname => ?_
  rw [f_X0_columnOf] at h
  exact j_sub [0, 1] rfl (t_X0_columnOf_0 C a1 ha1 h)
set_option maxRecDepth 100000 in
set_option maxHeartbeats 4000000 in
theorem t_X0_forceAbove_0 {σ : Mem} {χ : Mem} {T : Nat → Mem} (C : Cx p s m args meth c cX0_forceAbove 2 RX0 (some .long) COM g) {rr : Int64} (a1 : Nat) (ha1 : a1 < gN χ 8 1) (h : f_X0_forceAbove_0 χ T a1 = some rr) : JJ p l e rm_X0_forceAbove s m args below meth c 2 g ad (MQ below (PoL g ad χ T σ rr) args s 0 0 (geB g)) χ T σ 0 0 [(0, .ref (ad 2 0)), (1, .ref (ad 19 a1))] 0 [] := by
  rw [f_X0_forceAbove_0] at h
  refine j_aload_n C 1 rfl rfl dX0_forceAbove_0 ?_
  refine j_getG C in_X5 (by decide) (cw_19 ha1) rfl 5 (by decide) mw_664 (fun _ h => h) rfl dX0_forceAbove_1 ?_
  refine j_if_eq (tgt := 22) C (by decide) dX0_forceAbove_4 (fun hc1 => ?_) (fun hc1 => ?_)
  · replace h := (if_pos hc1).symm.trans h
    refine j_lconst (v := 0) C (by decide) dX0_forceAbove_22 ?_
    obtain rfl := Option.some.inj h
    exact j_lret C rfl (Nat.le_refl _) (Nat.le_refl _) dX0_forceAbove_23
  · replace h := (if_neg hc1).symm.trans h
    refine j_aload_n C 0 rfl rfl dX0_forceAbove_7 ?_
    refine j_getG C in_X0 (by decide) cw_2 rfl 2 (by decide) mw_194 (fun _ h => h) rfl dX0_forceAbove_8 ?_
    refine j_aload_n C 0 rfl rfl dX0_forceAbove_11 ?_
    refine j_aload_n C 1 rfl rfl dX0_forceAbove_12 ?_
    obtain ⟨q2, hq2, h⟩ := bi_some h
    refine j_callVi (As := [.ref (ad 19 a1)]) (rest := [.ref (ad 9 1)]) C (c_X0_columnOf ha1 hq2) (cwV 1 C.ts (good_V mw_729 mw_731 mw_20 mw_68 mw_732) rfl rfl rfl (by decide +kernel) ⟨Nat.le_of_ble_eq_true rfl, Nat.le_of_ble_eq_true rfl⟩) (fun H hW => CW.rv C.k hW (by decide) cw_2 rfl) rfl rfl (Nat.le_of_ble_eq_true rfl) dX0_forceAbove_13 ⟨Nat.le_of_ble_eq_true rfl, Nat.le_of_ble_eq_true rfl⟩ ?_
    obtain ⟨q3, hq3, h⟩ := bi_some h
    refine j_callVl (As := [.int q2]) (rest := []) C (cc_X7_solutionAbove (T := T) (t := 1) (by decide) hq3) (cwV 1 C.ts (good_V mw_824 mw_825 mw_826 mw_69 mw_827) rfl rfl rfl (by decide +kernel) ⟨Nat.le_of_ble_eq_true rfl, Nat.le_of_ble_eq_true rfl⟩) (fun H hW => CW.rv C.k hW (by decide) (cw_9 (by decide)) rfl) rfl rfl (Nat.le_of_ble_eq_true rfl) dX0_forceAbove_16 ⟨Nat.le_of_ble_eq_true rfl, Nat.le_of_ble_eq_true rfl⟩ ?_
    refine j_goto (tgt := 23) C (by decide) dX0_forceAbove_19 ?_
    obtain rfl := Option.some.inj h
    exact j_lret C rfl (Nat.le_refl _) (Nat.le_refl _) dX0_forceAbove_23
set_option maxRecDepth 100000 in
set_option maxHeartbeats 4000000 in
theorem c_X0_forceAbove {l : Launch} {g : Gc} {ad : Nat → Nat → Nat} {χ : Mem} {T : Nat → Mem} {σ : Mem} {a1 : Nat} (ha1 : a1 < gN χ 8 1) {rr : Int64} (h : f_X0_forceAbove χ T a1 = some rr) : Met l yX0_forceAbove (WS yX0_forceAbove cX0_forceAbove 2 (some .long)) rm_X0_forceAbove (PreW g ad χ T σ [.ref (ad 2 0), .ref (ad 19 a1)]) (PoL g ad χ T σ rr) 0 0 (geB g) := by
  refine j_metW (by decide) (Nat.le_of_ble_eq_true rfl) fun p e s m below meth c C hname => ?_
  rw [f_X0_forceAbove] at h
  exact j_sub [0, 1] rfl (t_X0_forceAbove_0 C a1 ha1 h)
set_option maxRecDepth 100000 in
set_option maxHeartbeats 4000000 in
theorem t_X0_forceBelow_0 {σ : Mem} {χ : Mem} {T : Nat → Mem} (C : Cx p s m args meth c cX0_forceBelow 2 RX0 (some .long) COM g) {rr : Int64} (a1 : Nat) (ha1 : a1 < gN χ 8 1) (h : f_X0_forceBelow_0 χ T a1 = some rr) : JJ p l e rm_X0_forceBelow s m args below meth c 2 g ad (MQ below (PoL g ad χ T σ rr) args s 0 0 (geB g)) χ T σ 0 0 [(0, .ref (ad 2 0)), (1, .ref (ad 19 a1))] 0 [] := by
  rw [f_X0_forceBelow_0] at h
  refine j_aload_n C 1 rfl rfl dX0_forceBelow_0 ?_
  refine j_getG C in_X5 (by decide) (cw_19 ha1) rfl 5 (by decide) mw_664 (fun _ h => h) rfl dX0_forceBelow_1 ?_
  refine j_if_eq (tgt := 22) C (by decide) dX0_forceBelow_4 (fun hc1 => ?_) (fun hc1 => ?_)
  · replace h := (if_pos hc1).symm.trans h
    refine j_lconst (v := 1) C (by decide) dX0_forceBelow_22 ?_
    obtain rfl := Option.some.inj h
    exact j_lret C rfl (Nat.le_refl _) (Nat.le_refl _) dX0_forceBelow_23
  · replace h := (if_neg hc1).symm.trans h
    refine j_aload_n C 0 rfl rfl dX0_forceBelow_7 ?_
    refine j_getG C in_X0 (by decide) cw_2 rfl 2 (by decide) mw_194 (fun _ h => h) rfl dX0_forceBelow_8 ?_
    refine j_aload_n C 0 rfl rfl dX0_forceBelow_11 ?_
    refine j_aload_n C 1 rfl rfl dX0_forceBelow_12 ?_
    obtain ⟨q2, hq2, h⟩ := bi_some h
    refine j_callVi (As := [.ref (ad 19 a1)]) (rest := [.ref (ad 9 1)]) C (c_X0_columnOf ha1 hq2) (cwV 1 C.ts (good_V mw_729 mw_731 mw_20 mw_68 mw_732) rfl rfl rfl (by decide +kernel) ⟨Nat.le_of_ble_eq_true rfl, Nat.le_of_ble_eq_true rfl⟩) (fun H hW => CW.rv C.k hW (by decide) cw_2 rfl) rfl rfl (Nat.le_of_ble_eq_true rfl) dX0_forceBelow_13 ⟨Nat.le_of_ble_eq_true rfl, Nat.le_of_ble_eq_true rfl⟩ ?_
    obtain ⟨q3, hq3, h⟩ := bi_some h
    refine j_callVl (As := [.int q2]) (rest := []) C (cc_X7_solutionBelow (T := T) (t := 1) (by decide) hq3) (cwV 1 C.ts (good_V mw_832 mw_833 mw_834 mw_69 mw_835) rfl rfl rfl (by decide +kernel) ⟨Nat.le_of_ble_eq_true rfl, Nat.le_of_ble_eq_true rfl⟩) (fun H hW => CW.rv C.k hW (by decide) (cw_9 (by decide)) rfl) rfl rfl (Nat.le_of_ble_eq_true rfl) dX0_forceBelow_16 ⟨Nat.le_of_ble_eq_true rfl, Nat.le_of_ble_eq_true rfl⟩ ?_
    refine j_goto (tgt := 23) C (by decide) dX0_forceBelow_19 ?_
    obtain rfl := Option.some.inj h
    exact j_lret C rfl (Nat.le_refl _) (Nat.le_refl _) dX0_forceBelow_23
set_option maxRecDepth 100000 in
set_option maxHeartbeats 4000000 in
theorem c_X0_forceBelow {l : Launch} {g : Gc} {ad : Nat → Nat → Nat} {χ : Mem} {T : Nat → Mem} {σ : Mem} {a1 : Nat} (ha1 : a1 < gN χ 8 1) {rr : Int64} (h : f_X0_forceBelow χ T a1 = some rr) : Met l yX0_forceBelow (WS yX0_forceBelow cX0_forceBelow 2 (some .long)) rm_X0_forceBelow (PreW g ad χ T σ [.ref (ad 2 0), .ref (ad 19 a1)]) (PoL g ad χ T σ rr) 0 0 (geB g) := by
  refine j_metW (by decide) (Nat.le_of_ble_eq_true rfl) fun p e s m below meth c C hname => ?_
  rw [f_X0_forceBelow] at h
  exact j_sub [0, 1] rfl (t_X0_forceBelow_0 C a1 ha1 h)
set_option maxRecDepth 100000 in
set_option maxHeartbeats 4000000 in
theorem t_X0_motionCount_0 {σ : Mem} {χ : Mem} {T : Nat → Mem} (C : Cx p s m args meth c cX0_motionCount 1 RX0 (some .int) COM g) {rr : Int32} (h : f_X0_motionCount_0 χ T = some rr) : JJ p l e rm_X0_motionCount s m args below meth c 1 g ad (MQ below (PoI g ad χ T σ rr) args s 0 0 (geB g)) χ T σ 0 0 [(0, .ref (ad 2 0))] 0 [] := by
  rw [f_X0_motionCount_0] at h
  refine j_aload_n C 0 rfl rfl dX0_motionCount_0 ?_
  refine j_getG C in_X0 (by decide) cw_2 rfl 1 (by decide) mw_193 (fun _ h => h) rfl dX0_motionCount_1 ?_
  obtain ⟨q1, hq1, h⟩ := bi_some h
  refine j_callVi (As := []) (rest := []) C (cc_X7_looseColumns (T := T) (t := 0) (by decide) hq1) (cwV 0 C.ts (good_V mw_700 mw_701 mw_702 mw_69 mw_703) rfl rfl rfl (by decide +kernel) ⟨Nat.le_of_ble_eq_true rfl, Nat.le_of_ble_eq_true rfl⟩) (fun H hW => CW.rv C.k hW (by decide) (cw_9 (by decide)) rfl) rfl rfl (Nat.le_of_ble_eq_true rfl) dX0_motionCount_4 ⟨Nat.le_of_ble_eq_true rfl, Nat.le_of_ble_eq_true rfl⟩ ?_
  obtain rfl := Option.some.inj h
  exact j_iret C rfl rfl (Nat.le_refl _) (Nat.le_refl _) dX0_motionCount_7
set_option maxRecDepth 100000 in
set_option maxHeartbeats 4000000 in
theorem c_X0_motionCount {l : Launch} {g : Gc} {ad : Nat → Nat → Nat} {χ : Mem} {T : Nat → Mem} {σ : Mem} {rr : Int32} (h : f_X0_motionCount χ T = some rr) : Met l yX0_motionCount (WS yX0_motionCount cX0_motionCount 1 (some .int)) rm_X0_motionCount (PreW g ad χ T σ [.ref (ad 2 0)]) (PoI g ad χ T σ rr) 0 0 (geB g) := by
  refine j_metW (by decide) (Nat.le_of_ble_eq_true rfl) fun p e s m below meth c C hname => ?_
  rw [f_X0_motionCount] at h
  exact j_sub [0] rfl (t_X0_motionCount_0 C h)
set_option maxRecDepth 100000 in
set_option maxHeartbeats 4000000 in
theorem t_X0_motionNumber_3 {σ : Mem} {χ : Mem} {T : Nat → Mem} (C : Cx p s m args meth c cX0_motionNumber 5 RX0 (some .long) COM g) {rr : Int64} : ∀ (n : Nat) (v1 : Int32) (v2 : Nat) (v3 : Int32) (v4 : Int32) (hv2 : v2 < gN χ 8 0) (h : f_X0_motionNumber_3 χ T n v1 v2 v3 v4 = some rr), JJ p l e rm_X0_motionNumber s m args below meth c 5 g ad (MQ below (PoL g ad χ T σ rr) args s 0 0 (geB g)) χ T σ 0 0 [(0, .ref (ad 2 0)), (1, .int v1), (2, .ref (ad 18 v2)), (3, .int v3), (4, .int v4)] 3 [] := by
  intro n
  induction n with
  | zero => intro v1 v2 v3 v4 hv2 h; cases h
  | succ n ih =>
  intro v1 v2 v3 v4 hv2 h
  rw [f_X0_motionNumber_3] at h
  refine j_iload C 4 rfl dX0_motionNumber_3 ?_
  refine j_aload_n C 0 rfl rfl dX0_motionNumber_5 ?_
  refine j_getG C in_X0 (by decide) cw_2 rfl 0 (by decide) mw_192 (fun _ h => h) rfl dX0_motionNumber_6 ?_
  refine j_getG C in_X2 (by decide) cw_1 rfl 2 (by decide) mw_134 (fun _ h => h) rfl dX0_motionNumber_9 ?_
  refine j_lsize C (by decide) mw_734 ⟨Nat.le_of_ble_eq_true rfl, Nat.le_of_ble_eq_true rfl⟩ (Nat.le_of_ble_eq_true rfl) dX0_motionNumber_12 ⟨Nat.zero_le _, Nat.zero_le _⟩ ?_
  refine j_icmp_ge (tgt := 59) C (by decide) dX0_motionNumber_17 (fun hc1 => ?_) (fun hc1 => ?_)
  · replace h := (if_pos hc1).symm.trans h
    refine j_lconst (v := 0) C (by decide) dX0_motionNumber_59 ?_
    obtain rfl := Option.some.inj h
    exact j_lret C rfl (Nat.le_refl _) (Nat.le_refl _) dX0_motionNumber_60
  · replace h := (if_neg hc1).symm.trans h
    refine j_aload_n C 0 rfl rfl dX0_motionNumber_20 ?_
    refine j_getG C in_X0 (by decide) cw_2 rfl 0 (by decide) mw_192 (fun _ h => h) rfl dX0_motionNumber_21 ?_
    refine j_getG C in_X2 (by decide) cw_1 rfl 2 (by decide) mw_134 (fun _ h => h) rfl dX0_motionNumber_24 ?_
    refine j_iload C 4 rfl dX0_motionNumber_27 ?_
    obtain ⟨hg2, h⟩ := gd_some h
    refine j_wt (fun wt3 => ?_)
    refine j_lgetK (ek := 18) C (by decide) (by decide) hg2 mw_736 ⟨Nat.le_of_ble_eq_true rfl, Nat.le_of_ble_eq_true rfl⟩ (Nat.le_of_ble_eq_true rfl) dX0_motionNumber_29 ⟨Nat.zero_le _, Nat.zero_le _⟩ ?_
    refine j_aload_n C 2 rfl rfl dX0_motionNumber_34 ?_
    refine j_acmp_ne (tgt := 53) C (by decide) (cw_18 (wt_18 wt3 (by decide) (by decide) hg2)) (cw_18 hv2) (by decide) dX0_motionNumber_35 (fun hc4 => ?_) (fun hc4 => ?_)
    · replace h := (if_neg hc4).symm.trans h
      refine j_iinc (v := v4 + (1 : Int32)) (L' := [(4, .int (v4 + (1 : Int32))), (0, .ref (ad 2 0)), (1, .int v1), (2, .ref (ad 18 v2)), (3, .int v3)]) C 4 rfl rfl (by decide) rfl dX0_motionNumber_53 ?_
      refine j_goto (tgt := 3) C (by decide) dX0_motionNumber_56 ?_
      exact j_sub [1, 2, 3, 4, 0] rfl (ih v1 v2 v3 (v4 + (1 : Int32)) hv2 h)
    · replace h := (if_pos hc4).symm.trans h
      refine j_aload_n C 0 rfl rfl dX0_motionNumber_38 ?_
      refine j_getG C in_X0 (by decide) cw_2 rfl 1 (by decide) mw_193 (fun _ h => h) rfl dX0_motionNumber_39 ?_
      refine j_iload_n C 1 rfl rfl dX0_motionNumber_42 ?_
      refine j_iconst (v := 2) C (by decide) dX0_motionNumber_43 ?_
      refine j_iload C 4 rfl dX0_motionNumber_44 ?_
      refine j_imul C dX0_motionNumber_46 ?_
      refine j_iload_n C 3 rfl rfl dX0_motionNumber_47 ?_
      refine j_iadd C dX0_motionNumber_48 ?_
      obtain ⟨q5, hq5, h⟩ := bi_some h
      refine j_callVl (As := [.int v1, .int (((2 : Int32) * v4) + v3)]) (rest := []) C (cc_X7_answer (T := T) (t := 0) (by decide) hq5) (cwV 2 C.ts (good_V mw_737 mw_738 mw_739 mw_69 mw_740) rfl rfl rfl (by decide +kernel) ⟨Nat.le_of_ble_eq_true rfl, Nat.le_of_ble_eq_true rfl⟩) (fun H hW => CW.rv C.k hW (by decide) (cw_9 (by decide)) rfl) rfl rfl (Nat.le_of_ble_eq_true rfl) dX0_motionNumber_49 ⟨Nat.le_of_ble_eq_true rfl, Nat.le_of_ble_eq_true rfl⟩ ?_
      obtain rfl := Option.some.inj h
      exact j_lret C rfl (Nat.le_refl _) (Nat.le_refl _) dX0_motionNumber_52
set_option maxRecDepth 100000 in
set_option maxHeartbeats 4000000 in
theorem t_X0_motionNumber_0 {σ : Mem} {χ : Mem} {T : Nat → Mem} (C : Cx p s m args meth c cX0_motionNumber 5 RX0 (some .long) COM g) {rr : Int64} (a1 : Int32) (a2 : Nat) (a3 : Int32) (ha2 : a2 < gN χ 8 0) (h : f_X0_motionNumber_0 χ T a1 a2 a3 = some rr) : JJ p l e rm_X0_motionNumber s m args below meth c 5 g ad (MQ below (PoL g ad χ T σ rr) args s 0 0 (geB g)) χ T σ 0 0 [(0, .ref (ad 2 0)), (1, .int a1), (2, .ref (ad 18 a2)), (3, .int a3)] 0 [] := by
  rw [f_X0_motionNumber_0] at h
  refine j_iconst (v := 0) C (by decide) dX0_motionNumber_0 ?_
  refine j_istore (L' := [(4, .int (0 : Int32)), (0, .ref (ad 2 0)), (1, .int a1), (2, .ref (ad 18 a2)), (3, .int a3)]) C (by decide) rfl dX0_motionNumber_1 ?_
  exact j_sub [1, 2, 3, 4, 0] rfl (t_X0_motionNumber_3 C FU a1 a2 a3 (0 : Int32) ha2 h)
set_option maxRecDepth 100000 in
set_option maxHeartbeats 4000000 in
theorem c_X0_motionNumber {l : Launch} {g : Gc} {ad : Nat → Nat → Nat} {χ : Mem} {T : Nat → Mem} {σ : Mem} {a1 : Int32} {a2 : Nat} {a3 : Int32} (ha2 : a2 < gN χ 8 0) {rr : Int64} (h : f_X0_motionNumber χ T a1 a2 a3 = some rr) : Met l yX0_motionNumber (WS yX0_motionNumber cX0_motionNumber 5 (some .long)) rm_X0_motionNumber (PreW g ad χ T σ [.ref (ad 2 0), .int a1, .ref (ad 18 a2), .int a3]) (PoL g ad χ T σ rr) 0 0 (geB g) := by
  refine j_metW (by decide) (Nat.le_of_ble_eq_true rfl) fun p e s m below meth c C hname => ?_
  rw [f_X0_motionNumber] at h
  exact j_sub [0, 1, 2, 3] rfl (t_X0_motionNumber_0 C a1 a2 a3 ha2 h)
set_option maxRecDepth 100000 in
set_option maxHeartbeats 4000000 in
theorem t_X0_stressCount_0 {σ : Mem} {χ : Mem} {T : Nat → Mem} (C : Cx p s m args meth c cX0_stressCount 1 RX0 (some .int) COM g) {rr : Int32} (h : f_X0_stressCount_0 χ T = some rr) : JJ p l e rm_X0_stressCount s m args below meth c 1 g ad (MQ below (PoI g ad χ T σ rr) args s 0 0 (geB g)) χ T σ 0 0 [(0, .ref (ad 2 0))] 0 [] := by
  rw [f_X0_stressCount_0] at h
  refine j_aload_n C 0 rfl rfl dX0_stressCount_0 ?_
  refine j_getG C in_X0 (by decide) cw_2 rfl 2 (by decide) mw_194 (fun _ h => h) rfl dX0_stressCount_1 ?_
  obtain ⟨q1, hq1, h⟩ := bi_some h
  refine j_callVi (As := []) (rest := []) C (cc_X7_looseColumns (T := T) (t := 1) (by decide) hq1) (cwV 0 C.ts (good_V mw_700 mw_701 mw_702 mw_69 mw_703) rfl rfl rfl (by decide +kernel) ⟨Nat.le_of_ble_eq_true rfl, Nat.le_of_ble_eq_true rfl⟩) (fun H hW => CW.rv C.k hW (by decide) (cw_9 (by decide)) rfl) rfl rfl (Nat.le_of_ble_eq_true rfl) dX0_stressCount_4 ⟨Nat.le_of_ble_eq_true rfl, Nat.le_of_ble_eq_true rfl⟩ ?_
  obtain rfl := Option.some.inj h
  exact j_iret C rfl rfl (Nat.le_refl _) (Nat.le_refl _) dX0_stressCount_7
set_option maxRecDepth 100000 in
set_option maxHeartbeats 4000000 in
theorem c_X0_stressCount {l : Launch} {g : Gc} {ad : Nat → Nat → Nat} {χ : Mem} {T : Nat → Mem} {σ : Mem} {rr : Int32} (h : f_X0_stressCount χ T = some rr) : Met l yX0_stressCount (WS yX0_stressCount cX0_stressCount 1 (some .int)) rm_X0_stressCount (PreW g ad χ T σ [.ref (ad 2 0)]) (PoI g ad χ T σ rr) 0 0 (geB g) := by
  refine j_metW (by decide) (Nat.le_of_ble_eq_true rfl) fun p e s m below meth c C hname => ?_
  rw [f_X0_stressCount] at h
  exact j_sub [0] rfl (t_X0_stressCount_0 C h)
set_option maxRecDepth 100000 in
set_option maxHeartbeats 4000000 in
theorem t_X0_stressNumber_0 {σ : Mem} {χ : Mem} {T : Nat → Mem} (C : Cx p s m args meth c cX0_stressNumber 3 RX0 (some .long) COM g) {rr : Int64} (a1 : Int32) (a2 : Nat) (ha2 : a2 < gN χ 8 1) (h : f_X0_stressNumber_0 χ T a1 a2 = some rr) : JJ p l e rm_X0_stressNumber s m args below meth c 3 g ad (MQ below (PoL g ad χ T σ rr) args s 0 0 (geB g)) χ T σ 0 0 [(0, .ref (ad 2 0)), (1, .int a1), (2, .ref (ad 19 a2))] 0 [] := by
  rw [f_X0_stressNumber_0] at h
  refine j_aload_n C 2 rfl rfl dX0_stressNumber_0 ?_
  refine j_getG C in_X5 (by decide) (cw_19 ha2) rfl 5 (by decide) mw_664 (fun _ h => h) rfl dX0_stressNumber_1 ?_
  refine j_if_eq (tgt := 23) C (by decide) dX0_stressNumber_4 (fun hc1 => ?_) (fun hc1 => ?_)
  · replace h := (if_pos hc1).symm.trans h
    refine j_lconst (v := 0) C (by decide) dX0_stressNumber_23 ?_
    obtain rfl := Option.some.inj h
    exact j_lret C rfl (Nat.le_refl _) (Nat.le_refl _) dX0_stressNumber_24
  · replace h := (if_neg hc1).symm.trans h
    refine j_aload_n C 0 rfl rfl dX0_stressNumber_7 ?_
    refine j_getG C in_X0 (by decide) cw_2 rfl 2 (by decide) mw_194 (fun _ h => h) rfl dX0_stressNumber_8 ?_
    refine j_iload_n C 1 rfl rfl dX0_stressNumber_11 ?_
    refine j_aload_n C 0 rfl rfl dX0_stressNumber_12 ?_
    refine j_aload_n C 2 rfl rfl dX0_stressNumber_13 ?_
    obtain ⟨q2, hq2, h⟩ := bi_some h
    refine j_callVi (As := [.ref (ad 19 a2)]) (rest := [.int a1, .ref (ad 9 1)]) C (c_X0_columnOf ha2 hq2) (cwV 1 C.ts (good_V mw_729 mw_731 mw_20 mw_68 mw_732) rfl rfl rfl (by decide +kernel) ⟨Nat.le_of_ble_eq_true rfl, Nat.le_of_ble_eq_true rfl⟩) (fun H hW => CW.rv C.k hW (by decide) cw_2 rfl) rfl rfl (Nat.le_of_ble_eq_true rfl) dX0_stressNumber_14 ⟨Nat.le_of_ble_eq_true rfl, Nat.le_of_ble_eq_true rfl⟩ ?_
    obtain ⟨q3, hq3, h⟩ := bi_some h
    refine j_callVl (As := [.int a1, .int q2]) (rest := []) C (cc_X7_answer (T := T) (t := 1) (by decide) hq3) (cwV 2 C.ts (good_V mw_737 mw_738 mw_739 mw_69 mw_740) rfl rfl rfl (by decide +kernel) ⟨Nat.le_of_ble_eq_true rfl, Nat.le_of_ble_eq_true rfl⟩) (fun H hW => CW.rv C.k hW (by decide) (cw_9 (by decide)) rfl) rfl rfl (Nat.le_of_ble_eq_true rfl) dX0_stressNumber_17 ⟨Nat.le_of_ble_eq_true rfl, Nat.le_of_ble_eq_true rfl⟩ ?_
    refine j_goto (tgt := 24) C (by decide) dX0_stressNumber_20 ?_
    obtain rfl := Option.some.inj h
    exact j_lret C rfl (Nat.le_refl _) (Nat.le_refl _) dX0_stressNumber_24
set_option maxRecDepth 100000 in
set_option maxHeartbeats 4000000 in
theorem c_X0_stressNumber {l : Launch} {g : Gc} {ad : Nat → Nat → Nat} {χ : Mem} {T : Nat → Mem} {σ : Mem} {a1 : Int32} {a2 : Nat} (ha2 : a2 < gN χ 8 1) {rr : Int64} (h : f_X0_stressNumber χ T a1 a2 = some rr) : Met l yX0_stressNumber (WS yX0_stressNumber cX0_stressNumber 3 (some .long)) rm_X0_stressNumber (PreW g ad χ T σ [.ref (ad 2 0), .int a1, .ref (ad 19 a2)]) (PoL g ad χ T σ rr) 0 0 (geB g) := by
  refine j_metW (by decide) (Nat.le_of_ble_eq_true rfl) fun p e s m below meth c C hname => ?_
  rw [f_X0_stressNumber] at h
  exact j_sub [0, 1, 2] rfl (t_X0_stressNumber_0 C a1 a2 ha2 h)
set_option maxRecDepth 100000 in
set_option maxHeartbeats 4000000 in
theorem t_X0_workOf_5 {σ : Mem} {χ : Mem} {T : Nat → Mem} (C : Cx p s m args meth c cX0_workOf 6 RX0 (some .long) COM g) {rr : Int64} : ∀ (n : Nat) (v1 : Int32) (v2 : Int64) (v4 : Int32) (h : f_X0_workOf_5 χ T n v1 v2 v4 = some rr), JJ p l e rm_X0_workOf s m args below meth c 6 g ad (MQ below (PoL g ad χ T σ rr) args s 0 0 (geB g)) χ T σ 0 0 [(0, .ref (ad 2 0)), (1, .int v1), (2, .long v2), (4, .int v4)] 5 [] := by
  intro n
  induction n with
  | zero => intro v1 v2 v4  h; cases h
  | succ n ih =>
  intro v1 v2 v4  h
  rw [f_X0_workOf_5] at h
  refine j_iload C 3 rfl dX0_workOf_5 ?_
  refine j_aload_n C 0 rfl rfl dX0_workOf_7 ?_
  refine j_getG C in_X0 (by decide) cw_2 rfl 0 (by decide) mw_192 (fun _ h => h) rfl dX0_workOf_8 ?_
  refine j_getG C in_X2 (by decide) cw_1 rfl 2 (by decide) mw_134 (fun _ h => h) rfl dX0_workOf_11 ?_
  refine j_lsize C (by decide) mw_734 ⟨Nat.le_of_ble_eq_true rfl, Nat.le_of_ble_eq_true rfl⟩ (Nat.le_of_ble_eq_true rfl) dX0_workOf_14 ⟨Nat.zero_le _, Nat.zero_le _⟩ ?_
  refine j_icmp_ge (tgt := 93) C (by decide) dX0_workOf_19 (fun hc1 => ?_) (fun hc1 => ?_)
  · replace h := (if_pos hc1).symm.trans h
    refine j_lload_n C 2 rfl rfl dX0_workOf_93 ?_
    obtain rfl := Option.some.inj h
    exact j_lret C rfl (Nat.le_refl _) (Nat.le_refl _) dX0_workOf_94
  · replace h := (if_neg hc1).symm.trans h
    refine j_aload_n C 0 rfl rfl dX0_workOf_22 ?_
    refine j_getG C in_X0 (by decide) cw_2 rfl 0 (by decide) mw_192 (fun _ h => h) rfl dX0_workOf_23 ?_
    refine j_getG C in_X2 (by decide) cw_1 rfl 2 (by decide) mw_134 (fun _ h => h) rfl dX0_workOf_26 ?_
    refine j_iload C 3 rfl dX0_workOf_29 ?_
    obtain ⟨hg2, h⟩ := gd_some h
    refine j_wt (fun wt3 => ?_)
    refine j_lgetK (ek := 18) C (by decide) (by decide) hg2 mw_736 ⟨Nat.le_of_ble_eq_true rfl, Nat.le_of_ble_eq_true rfl⟩ (Nat.le_of_ble_eq_true rfl) dX0_workOf_31 ⟨Nat.zero_le _, Nat.zero_le _⟩ ?_
    refine j_castS (q := (RX4, TX4, 6)) C mw_844 (by decide) (cw_18 (wt_18 wt3 (by decide) (by decide) hg2)) rfl dX0_workOf_36 ?_
    refine j_astore (L' := [(5, .ref (ad 18 (gN χ 2 v4.toNatClampNeg))), (0, .ref (ad 2 0)), (1, .int v1), (2, .long v2), (4, .int v4)]) C (by decide) rfl dX0_workOf_39 ?_
    refine j_lload_n C 3 rfl rfl dX0_workOf_41 ?_
    refine j_aload_n C 1 rfl rfl dX0_workOf_42 ?_
    refine j_getG C in_X0 (by decide) cw_2 rfl 1 (by decide) mw_193 (fun _ h => h) rfl dX0_workOf_43 ?_
    refine j_iload_n C 2 rfl rfl dX0_workOf_46 ?_
    refine j_iconst (v := 2) C (by decide) dX0_workOf_47 ?_
    refine j_iload C 4 rfl dX0_workOf_48 ?_
    refine j_imul C dX0_workOf_50 ?_
    obtain ⟨q4, hq4, h⟩ := bi_some h
    refine j_callVl (As := [.int v1, .int ((2 : Int32) * v4)]) (rest := [.long v2]) C (cc_X7_answer (T := T) (t := 0) (by decide) hq4) (cwV 2 C.ts (good_V mw_737 mw_738 mw_739 mw_69 mw_740) rfl rfl rfl (by decide +kernel) ⟨Nat.le_of_ble_eq_true rfl, Nat.le_of_ble_eq_true rfl⟩) (fun H hW => CW.rv C.k hW (by decide) (cw_9 (by decide)) rfl) rfl rfl (Nat.le_of_ble_eq_true rfl) dX0_workOf_51 ⟨Nat.le_of_ble_eq_true rfl, Nat.le_of_ble_eq_true rfl⟩ ?_
    refine j_aload C 0 rfl dX0_workOf_54 ?_
    refine j_getG C in_X4 (by decide) (cw_18 (wt_18 wt3 (by decide) (by decide) hg2)) rfl 4 (by decide) mw_349 (fun _ h => h) rfl dX0_workOf_56 ?_
    refine j_i2l C dX0_workOf_59 ?_
    refine j_lmul C dX0_workOf_60 ?_
    refine j_ladd C dX0_workOf_61 ?_
    refine j_lstore_n (L' := [(2, .long (v2 + (q4 * ((gI χ 4 (gN χ 2 v4.toNatClampNeg)).toInt64)))), (5, .ref (ad 18 (gN χ 2 v4.toNatClampNeg))), (0, .ref (ad 2 0)), (1, .int v1), (4, .int v4)]) C rfl (by decide) rfl dX0_workOf_62 ?_
    refine j_lload_n C 0 rfl rfl dX0_workOf_63 ?_
    refine j_aload_n C 2 rfl rfl dX0_workOf_64 ?_
    refine j_getG C in_X0 (by decide) cw_2 rfl 1 (by decide) mw_193 (fun _ h => h) rfl dX0_workOf_65 ?_
    refine j_iload_n C 3 rfl rfl dX0_workOf_68 ?_
    refine j_iconst (v := 2) C (by decide) dX0_workOf_69 ?_
    refine j_iload C 4 rfl dX0_workOf_70 ?_
    refine j_imul C dX0_workOf_72 ?_
    refine j_iconst (v := 1) C (by decide) dX0_workOf_73 ?_
    refine j_iadd C dX0_workOf_74 ?_
    obtain ⟨q5, hq5, h⟩ := bi_some h
    refine j_callVl (As := [.int v1, .int (((2 : Int32) * v4) + (1 : Int32))]) (rest := [.long (v2 + (q4 * ((gI χ 4 (gN χ 2 v4.toNatClampNeg)).toInt64)))]) C (cc_X7_answer (T := T) (t := 0) (by decide) hq5) (cwV 2 C.ts (good_V mw_737 mw_738 mw_739 mw_69 mw_740) rfl rfl rfl (by decide +kernel) ⟨Nat.le_of_ble_eq_true rfl, Nat.le_of_ble_eq_true rfl⟩) (fun H hW => CW.rv C.k hW (by decide) (cw_9 (by decide)) rfl) rfl rfl (Nat.le_of_ble_eq_true rfl) dX0_workOf_75 ⟨Nat.le_of_ble_eq_true rfl, Nat.le_of_ble_eq_true rfl⟩ ?_
    refine j_aload C 1 rfl dX0_workOf_78 ?_
    refine j_getG C in_X4 (by decide) (cw_18 (wt_18 wt3 (by decide) (by decide) hg2)) rfl 5 (by decide) mw_352 (fun _ h => h) rfl dX0_workOf_80 ?_
    refine j_i2l C dX0_workOf_83 ?_
    refine j_lmul C dX0_workOf_84 ?_
    refine j_ladd C dX0_workOf_85 ?_
    refine j_lstore_n (L' := [(2, .long ((v2 + (q4 * ((gI χ 4 (gN χ 2 v4.toNatClampNeg)).toInt64))) + (q5 * ((gI χ 5 (gN χ 2 v4.toNatClampNeg)).toInt64)))), (5, .ref (ad 18 (gN χ 2 v4.toNatClampNeg))), (0, .ref (ad 2 0)), (1, .int v1), (4, .int v4)]) C rfl (by decide) rfl dX0_workOf_86 ?_
    refine j_iinc (v := v4 + (1 : Int32)) (L' := [(4, .int (v4 + (1 : Int32))), (2, .long ((v2 + (q4 * ((gI χ 4 (gN χ 2 v4.toNatClampNeg)).toInt64))) + (q5 * ((gI χ 5 (gN χ 2 v4.toNatClampNeg)).toInt64)))), (5, .ref (ad 18 (gN χ 2 v4.toNatClampNeg))), (0, .ref (ad 2 0)), (1, .int v1)]) C 4 rfl rfl (by decide) rfl dX0_workOf_87 ?_
    refine j_goto (tgt := 5) C (by decide) dX0_workOf_90 ?_
    exact j_sub [3, 4, 1, 0] rfl (ih v1 ((v2 + (q4 * ((gI χ 4 (gN χ 2 v4.toNatClampNeg)).toInt64))) + (q5 * ((gI χ 5 (gN χ 2 v4.toNatClampNeg)).toInt64))) (v4 + (1 : Int32)) h)
set_option maxRecDepth 100000 in
set_option maxHeartbeats 4000000 in
theorem t_X0_workOf_0 {σ : Mem} {χ : Mem} {T : Nat → Mem} (C : Cx p s m args meth c cX0_workOf 6 RX0 (some .long) COM g) {rr : Int64} (a1 : Int32) (h : f_X0_workOf_0 χ T a1 = some rr) : JJ p l e rm_X0_workOf s m args below meth c 6 g ad (MQ below (PoL g ad χ T σ rr) args s 0 0 (geB g)) χ T σ 0 0 [(0, .ref (ad 2 0)), (1, .int a1)] 0 [] := by
  rw [f_X0_workOf_0] at h
  refine j_lconst (v := 0) C (by decide) dX0_workOf_0 ?_
  refine j_lstore_n (L' := [(2, .long (0 : Int64)), (0, .ref (ad 2 0)), (1, .int a1)]) C rfl (by decide) rfl dX0_workOf_1 ?_
  refine j_iconst (v := 0) C (by decide) dX0_workOf_2 ?_
  refine j_istore (L' := [(4, .int (0 : Int32)), (2, .long (0 : Int64)), (0, .ref (ad 2 0)), (1, .int a1)]) C (by decide) rfl dX0_workOf_3 ?_
  exact j_sub [2, 3, 1, 0] rfl (t_X0_workOf_5 C FU a1 (0 : Int64) (0 : Int32) h)
set_option maxRecDepth 100000 in
set_option maxHeartbeats 4000000 in
theorem c_X0_workOf {l : Launch} {g : Gc} {ad : Nat → Nat → Nat} {χ : Mem} {T : Nat → Mem} {σ : Mem} {a1 : Int32} {rr : Int64} (h : f_X0_workOf χ T a1 = some rr) : Met l yX0_workOf (WS yX0_workOf cX0_workOf 6 (some .long)) rm_X0_workOf (PreW g ad χ T σ [.ref (ad 2 0), .int a1]) (PoL g ad χ T σ rr) 0 0 (geB g) := by
  refine j_metW (by decide) (Nat.le_of_ble_eq_true rfl) fun p e s m below meth c C hname => ?_
  rw [f_X0_workOf] at h
  exact j_sub [0, 1] rfl (t_X0_workOf_0 C a1 h)
set_option maxRecDepth 100000 in
set_option maxHeartbeats 4000000 in
theorem t_X0_renew_0 {σ : Mem} (C : Cx p s m args meth c cX0_renew 1 RX0 none COM g) {rr : Mem × (Nat → Mem)} (χ : Mem) (T : Nat → Mem) (h : f_X0_renew_0 χ T = some rr) : JJ p l e rm_X0_renew s m args below meth c 1 g ad (MQ below (PoV g ad rr.1 rr.2 σ) args s 0 0 (geB g)) χ T σ 0 0 [(0, .ref (ad 2 0))] 0 [] := by
  rw [f_X0_renew_0] at h
  refine j_aload_n C 0 rfl rfl dX0_renew_0 ?_
  refine j_getG C in_X0 (by decide) cw_2 rfl 1 (by decide) mw_193 (fun _ h => h) rfl dX0_renew_1 ?_
  refine j_aload_n C 0 rfl rfl dX0_renew_4 ?_
  refine j_getG C in_X0 (by decide) cw_2 rfl 0 (by decide) mw_192 (fun _ h => h) rfl dX0_renew_5 ?_
  refine j_getG C in_X2 (by decide) cw_1 rfl 3 (by decide) mw_140 (fun _ h => h) rfl dX0_renew_8 ?_
  refine j_aload_n C 0 rfl rfl dX0_renew_11 ?_
  refine j_getG C in_X0 (by decide) cw_2 rfl 0 (by decide) mw_192 (fun _ h => h) rfl dX0_renew_12 ?_
  refine j_getG C in_X2 (by decide) cw_1 rfl 2 (by decide) mw_134 (fun _ h => h) rfl dX0_renew_15 ?_
  obtain ⟨q1, hq1, h⟩ := bi_some h
  refine j_callVv (As := [.ref (ad 16 3), .ref (ad 16 2)]) (rest := []) C (cc_X7_layRodsAsRows (T := T) (t := 0) (by decide) ⟨by decide, by decide⟩ ⟨by decide, by decide⟩ hq1) (cwV 2 C.ts (good_V mw_454 mw_455 mw_456 mw_69 mw_457) rfl rfl rfl (by decide +kernel) ⟨Nat.le_of_ble_eq_true rfl, Nat.le_of_ble_eq_true rfl⟩) (fun H hW => CW.rv C.k hW (by decide) (cw_9 (by decide)) rfl) rfl rfl (Nat.le_of_ble_eq_true rfl) dX0_renew_18 ⟨Nat.le_of_ble_eq_true rfl, Nat.le_of_ble_eq_true rfl⟩ ?_
  refine j_aload_n C 0 rfl rfl dX0_renew_21 ?_
  refine j_getG C in_X0 (by decide) cw_2 rfl 1 (by decide) mw_193 (fun _ h => h) rfl dX0_renew_22 ?_
  obtain ⟨q2, hq2, h⟩ := bi_some h
  refine j_callVv (As := []) (rest := []) C (cc_X7_reduce (T := (stT T 0 q1)) (t := 0) (by decide) hq2) (cwV 0 C.ts (good_V mw_477 mw_478 mw_479 mw_69 mw_480) rfl rfl rfl (by decide +kernel) ⟨Nat.le_of_ble_eq_true rfl, Nat.le_of_ble_eq_true rfl⟩) (fun H hW => CW.rv C.k hW (by decide) (cw_9 (by decide)) rfl) rfl rfl (Nat.le_of_ble_eq_true rfl) dX0_renew_25 ⟨Nat.le_of_ble_eq_true rfl, Nat.le_of_ble_eq_true rfl⟩ ?_
  refine j_aload_n C 0 rfl rfl dX0_renew_28 ?_
  refine j_getG C in_X0 (by decide) cw_2 rfl 2 (by decide) mw_194 (fun _ h => h) rfl dX0_renew_29 ?_
  refine j_aload_n C 0 rfl rfl dX0_renew_32 ?_
  refine j_getG C in_X0 (by decide) cw_2 rfl 0 (by decide) mw_192 (fun _ h => h) rfl dX0_renew_33 ?_
  refine j_getG C in_X2 (by decide) cw_1 rfl 3 (by decide) mw_140 (fun _ h => h) rfl dX0_renew_36 ?_
  refine j_aload_n C 0 rfl rfl dX0_renew_39 ?_
  refine j_getG C in_X0 (by decide) cw_2 rfl 0 (by decide) mw_192 (fun _ h => h) rfl dX0_renew_40 ?_
  refine j_getG C in_X2 (by decide) cw_1 rfl 2 (by decide) mw_134 (fun _ h => h) rfl dX0_renew_43 ?_
  obtain ⟨q3, hq3, h⟩ := bi_some h
  refine j_callVv (As := [.ref (ad 16 3), .ref (ad 16 2)]) (rest := []) C (cc_X7_layRodsAsColumns (T := (stT (stT T 0 q1) 0 q2)) (t := 1) (by decide) ⟨by decide, by decide⟩ ⟨by decide, by decide⟩ hq3) (cwV 2 C.ts (good_V mw_522 mw_523 mw_524 mw_69 mw_525) rfl rfl rfl (by decide +kernel) ⟨Nat.le_of_ble_eq_true rfl, Nat.le_of_ble_eq_true rfl⟩) (fun H hW => CW.rv C.k hW (by decide) (cw_9 (by decide)) rfl) rfl rfl (Nat.le_of_ble_eq_true rfl) dX0_renew_46 ⟨Nat.le_of_ble_eq_true rfl, Nat.le_of_ble_eq_true rfl⟩ ?_
  refine j_aload_n C 0 rfl rfl dX0_renew_49 ?_
  refine j_getG C in_X0 (by decide) cw_2 rfl 2 (by decide) mw_194 (fun _ h => h) rfl dX0_renew_50 ?_
  obtain ⟨q4, hq4, h⟩ := bi_some h
  refine j_callVv (As := []) (rest := []) C (cc_X7_reduce (T := (stT (stT (stT T 0 q1) 0 q2) 1 q3)) (t := 1) (by decide) hq4) (cwV 0 C.ts (good_V mw_477 mw_478 mw_479 mw_69 mw_480) rfl rfl rfl (by decide +kernel) ⟨Nat.le_of_ble_eq_true rfl, Nat.le_of_ble_eq_true rfl⟩) (fun H hW => CW.rv C.k hW (by decide) (cw_9 (by decide)) rfl) rfl rfl (Nat.le_of_ble_eq_true rfl) dX0_renew_53 ⟨Nat.le_of_ble_eq_true rfl, Nat.le_of_ble_eq_true rfl⟩ ?_
  obtain rfl := Option.some.inj h
  exact j_vret C rfl (Nat.le_refl _) (Nat.le_refl _) dX0_renew_56
set_option maxRecDepth 100000 in
set_option maxHeartbeats 4000000 in
theorem c_X0_renew {l : Launch} {g : Gc} {ad : Nat → Nat → Nat} {χ : Mem} {T : Nat → Mem} {σ : Mem} {rr : Mem × (Nat → Mem)} (h : f_X0_renew χ T = some rr) : Met l yX0_renew (WS yX0_renew cX0_renew 1 none) rm_X0_renew (PreW g ad χ T σ [.ref (ad 2 0)]) (PoV g ad rr.1 rr.2 σ) 0 0 (geB g) := by
  refine j_metW (by decide) (Nat.le_of_ble_eq_true rfl) fun p e s m below meth c C hname => ?_
  rw [f_X0_renew] at h
  exact j_sub [0] rfl (t_X0_renew_0 C χ T h)
set_option maxRecDepth 100000 in
set_option maxHeartbeats 4000000 in
theorem t_X1_bitOf_0 {χ : Mem} {T : Nat → Mem} {σ : Mem} (C : Cx p s m args meth c cX1_bitOf 1 RX1 (some .int) COM g) {rr : Int32} (a1 : Int32) (h : f_X1_bitOf_0 a1 = some rr) : JJ p l e rm_X1_bitOf s m args below meth c 1 g ad (MQ below (PoI g ad χ T σ rr) args s 0 0 (geB g)) χ T σ 0 0 [(0, .int a1)] 0 [] := by
  rw [f_X1_bitOf_0] at h
  refine j_bipush (v := 64) C (by decide) dX1_bitOf_0 ?_
  refine j_iload_n C 0 rfl rfl dX1_bitOf_2 ?_
  refine j_iconst (v := 1) C (by decide) dX1_bitOf_3 ?_
  refine j_iadd C dX1_bitOf_4 ?_
  refine j_ishr C dX1_bitOf_5 ?_
  obtain rfl := Option.some.inj h
  exact j_iret C rfl rfl (Nat.le_refl _) (Nat.le_refl _) dX1_bitOf_6
set_option maxRecDepth 100000 in
set_option maxHeartbeats 4000000 in
theorem c_X1_bitOf {l : Launch} {g : Gc} {ad : Nat → Nat → Nat} {χ : Mem} {T : Nat → Mem} {σ : Mem} {a1 : Int32} {rr : Int32} (h : f_X1_bitOf a1 = some rr) : Met l yX1_bitOf (WS yX1_bitOf cX1_bitOf 1 (some .int)) rm_X1_bitOf (PreW g ad χ T σ [.int a1]) (PoI g ad χ T σ rr) 0 0 (geB g) := by
  refine j_metW (by decide) (Nat.le_of_ble_eq_true rfl) fun p e s m below meth c C hname => ?_
  rw [f_X1_bitOf] at h
  exact j_sub [0] rfl (t_X1_bitOf_0 C a1 h)
set_option maxRecDepth 100000 in
set_option maxHeartbeats 4000000 in
theorem t_X1_holds_0 {χ : Mem} {T : Nat → Mem} {σ : Mem} (C : Cx p s m args meth c cX1_holds 2 RX1 (some .boolean) COM g) {rr : Int32} (a1 : Int32) (a2 : Int32) (h : f_X1_holds_0 a1 a2 = some rr) : JJ p l e rm_X1_holds s m args below meth c 2 g ad (MQ below (PoI g ad χ T σ rr) args s 0 0 (geB g)) χ T σ 0 0 [(0, .int a1), (1, .int a2)] 0 [] := by
  rw [f_X1_holds_0] at h
  refine j_iload_n C 0 rfl rfl dX1_holds_0 ?_
  refine j_iload_n C 1 rfl rfl dX1_holds_1 ?_
  refine j_iand C dX1_holds_2 ?_
  refine j_iload_n C 1 rfl rfl dX1_holds_3 ?_
  refine j_icmp_ne (tgt := 11) C (by decide) dX1_holds_4 (fun hc1 => ?_) (fun hc1 => ?_)
  · replace h := (if_neg hc1).symm.trans h
    refine j_iconst (v := 0) C (by decide) dX1_holds_11 ?_
    obtain rfl := Option.some.inj h
    exact j_iret C rfl (bo_nar (Or.inl rfl)) (Nat.le_refl _) (Nat.le_refl _) dX1_holds_12
  · replace h := (if_pos hc1).symm.trans h
    refine j_iconst (v := 1) C (by decide) dX1_holds_7 ?_
    refine j_goto (tgt := 12) C (by decide) dX1_holds_8 ?_
    obtain rfl := Option.some.inj h
    exact j_iret C rfl (bo_nar (Or.inr rfl)) (Nat.le_refl _) (Nat.le_refl _) dX1_holds_12
set_option maxRecDepth 100000 in
set_option maxHeartbeats 4000000 in
theorem c_X1_holds {l : Launch} {g : Gc} {ad : Nat → Nat → Nat} {χ : Mem} {T : Nat → Mem} {σ : Mem} {a1 : Int32} {a2 : Int32} {rr : Int32} (h : f_X1_holds a1 a2 = some rr) : Met l yX1_holds (WS yX1_holds cX1_holds 2 (some .boolean)) rm_X1_holds (PreW g ad χ T σ [.int a1, .int a2]) (PoI g ad χ T σ rr) 0 0 (geB g) := by
  refine j_metW (by decide) (Nat.le_of_ble_eq_true rfl) fun p e s m below meth c C hname => ?_
  rw [f_X1_holds] at h
  exact j_sub [0, 1] rfl (t_X1_holds_0 C a1 a2 h)
set_option maxRecDepth 100000 in
set_option maxHeartbeats 4000000 in
theorem t_X1_isInBody_2 {T : Nat → Mem} {σ : Mem} {χ : Mem} (C : Cx p s m args meth c cX1_isInBody 3 RX1 (some .boolean) COM g) {rr : Int32} : ∀ (n : Nat) (v1 : Int32) (v2 : Int32) (h : f_X1_isInBody_2 χ n v1 v2 = some rr), JJ p l e rm_X1_isInBody s m args below meth c 3 g ad (MQ below (PoI g ad χ T σ rr) args s 0 0 (geB g)) χ T σ 0 0 [(0, .ref (ad 4 0)), (1, .int v1), (2, .int v2)] 2 [] := by
  intro n
  induction n with
  | zero => intro v1 v2  h; cases h
  | succ n ih =>
  intro v1 v2  h
  rw [f_X1_isInBody_2] at h
  refine j_iload_n C 2 rfl rfl dX1_isInBody_2 ?_
  refine j_aload_n C 0 rfl rfl dX1_isInBody_3 ?_
  refine j_getG C in_X1 (by decide) cw_4 rfl 3 (by decide) mw_234 (fun _ h => h) rfl dX1_isInBody_4 ?_
  refine j_icmp_ge (tgt := 31) C (by decide) dX1_isInBody_7 (fun hc1 => ?_) (fun hc1 => ?_)
  · replace h := (if_pos hc1).symm.trans h
    refine j_iconst (v := 0) C (by decide) dX1_isInBody_31 ?_
    obtain rfl := Option.some.inj h
    exact j_iret C rfl (bo_nar (Or.inl rfl)) (Nat.le_refl _) (Nat.le_refl _) dX1_isInBody_32
  · replace h := (if_neg hc1).symm.trans h
    refine j_aload_n C 0 rfl rfl dX1_isInBody_10 ?_
    refine j_getG C in_X1 (by decide) cw_4 rfl 2 (by decide) mw_233 (fun _ h => h) rfl dX1_isInBody_11 ?_
    refine j_iload_n C 2 rfl rfl dX1_isInBody_14 ?_
    obtain ⟨hg2, h⟩ := gd_some h
    refine j_iald C (by decide) cw_7 hg2 dX1_isInBody_15 ?_
    refine j_iload_n C 1 rfl rfl dX1_isInBody_16 ?_
    obtain ⟨q3, hq3, h⟩ := bi_some h
    refine j_callSi (As := [.int (gI χ 13 v2.toNatClampNeg), .int v1]) (rest := []) C (c_X1_holds hq3) (va_cwS 2 C.ts (good_S mw_583 mw_584 mw_71 mw_585) rfl rfl rfl (by decide +kernel) ⟨Nat.le_of_ble_eq_true rfl, Nat.le_of_ble_eq_true rfl⟩) rfl rfl (Nat.le_of_ble_eq_true rfl) dX1_isInBody_17 ⟨Nat.le_of_ble_eq_true rfl, Nat.le_of_ble_eq_true rfl⟩ ?_
    refine j_if_eq (tgt := 25) C (by decide) dX1_isInBody_20 (fun hc4 => ?_) (fun hc4 => ?_)
    · replace h := (if_pos hc4).symm.trans h
      refine j_iinc (v := v2 + (1 : Int32)) (L' := [(2, .int (v2 + (1 : Int32))), (0, .ref (ad 4 0)), (1, .int v1)]) C 2 rfl rfl (by decide) rfl dX1_isInBody_25 ?_
      refine j_goto (tgt := 2) C (by decide) dX1_isInBody_28 ?_
      exact j_sub [1, 2, 0] rfl (ih v1 (v2 + (1 : Int32)) h)
    · replace h := (if_neg hc4).symm.trans h
      refine j_iconst (v := 1) C (by decide) dX1_isInBody_23 ?_
      obtain rfl := Option.some.inj h
      exact j_iret C rfl (bo_nar (Or.inr rfl)) (Nat.le_refl _) (Nat.le_refl _) dX1_isInBody_24
set_option maxRecDepth 100000 in
set_option maxHeartbeats 4000000 in
theorem t_X1_isInBody_0 {T : Nat → Mem} {σ : Mem} {χ : Mem} (C : Cx p s m args meth c cX1_isInBody 3 RX1 (some .boolean) COM g) {rr : Int32} (a1 : Int32) (h : f_X1_isInBody_0 χ a1 = some rr) : JJ p l e rm_X1_isInBody s m args below meth c 3 g ad (MQ below (PoI g ad χ T σ rr) args s 0 0 (geB g)) χ T σ 0 0 [(0, .ref (ad 4 0)), (1, .int a1)] 0 [] := by
  rw [f_X1_isInBody_0] at h
  refine j_iconst (v := 0) C (by decide) dX1_isInBody_0 ?_
  refine j_istore_n (L' := [(2, .int (0 : Int32)), (0, .ref (ad 4 0)), (1, .int a1)]) C rfl (by decide) rfl dX1_isInBody_1 ?_
  exact j_sub [1, 2, 0] rfl (t_X1_isInBody_2 C FU a1 (0 : Int32) h)
set_option maxRecDepth 100000 in
set_option maxHeartbeats 4000000 in
theorem c_X1_isInBody {l : Launch} {g : Gc} {ad : Nat → Nat → Nat} {χ : Mem} {T : Nat → Mem} {σ : Mem} {a1 : Int32} {rr : Int32} (h : f_X1_isInBody χ a1 = some rr) : Met l yX1_isInBody (WS yX1_isInBody cX1_isInBody 3 (some .boolean)) rm_X1_isInBody (PreW g ad χ T σ [.ref (ad 4 0), .int a1]) (PoI g ad χ T σ rr) 0 0 (geB g) := by
  refine j_metW (by decide) (Nat.le_of_ble_eq_true rfl) fun p e s m below meth c C hname => ?_
  rw [f_X1_isInBody] at h
  exact j_sub [0, 1] rfl (t_X1_isInBody_0 C a1 h)
set_option maxRecDepth 100000 in
set_option maxHeartbeats 4000000 in
theorem t_X1_surplus_0 {T : Nat → Mem} {σ : Mem} {χ : Mem} (C : Cx p s m args meth c cX1_surplus 1 RX1 (some .int) COM g) {rr : Int32} (h : f_X1_surplus_0 χ = some rr) : JJ p l e rm_X1_surplus s m args below meth c 1 g ad (MQ below (PoI g ad χ T σ rr) args s 0 0 (geB g)) χ T σ 0 0 [(0, .ref (ad 4 0))] 0 [] := by
  rw [f_X1_surplus_0] at h
  refine j_aload_n C 0 rfl rfl dX1_surplus_0 ?_
  refine j_getG C in_X1 (by decide) cw_4 rfl 0 (by decide) mw_231 (fun _ h => h) rfl dX1_surplus_1 ?_
  refine j_getG C in_X2 (by decide) cw_1 rfl 3 (by decide) mw_137 (fun _ h => h) rfl dX1_surplus_4 ?_
  refine j_lsize C (by decide) mw_573 ⟨Nat.le_of_ble_eq_true rfl, Nat.le_of_ble_eq_true rfl⟩ (Nat.le_of_ble_eq_true rfl) dX1_surplus_7 ⟨Nat.zero_le _, Nat.zero_le _⟩ ?_
  refine j_aload_n C 0 rfl rfl dX1_surplus_12 ?_
  refine j_getG C in_X1 (by decide) cw_4 rfl 4 (by decide) mw_235 (fun _ h => h) rfl dX1_surplus_13 ?_
  refine j_isub C dX1_surplus_16 ?_
  obtain rfl := Option.some.inj h
  exact j_iret C rfl rfl (Nat.le_refl _) (Nat.le_refl _) dX1_surplus_17
set_option maxRecDepth 100000 in
set_option maxHeartbeats 4000000 in
theorem c_X1_surplus {l : Launch} {g : Gc} {ad : Nat → Nat → Nat} {χ : Mem} {T : Nat → Mem} {σ : Mem} {rr : Int32} (h : f_X1_surplus χ = some rr) : Met l yX1_surplus (WS yX1_surplus cX1_surplus 1 (some .int)) rm_X1_surplus (PreW g ad χ T σ [.ref (ad 4 0)]) (PoI g ad χ T σ rr) 0 0 (geB g) := by
  refine j_metW (by decide) (Nat.le_of_ble_eq_true rfl) fun p e s m below meth c C hname => ?_
  rw [f_X1_surplus] at h
  exact j_sub [0] rfl (t_X1_surplus_0 C h)
set_option maxRecDepth 100000 in
set_option maxHeartbeats 4000000 in
theorem t_X1_endsOf_0 {T : Nat → Mem} {σ : Mem} {χ : Mem} (C : Cx p s m args meth c cX1_endsOf 1 RX1 (some .int) COM g) {rr : Int32} (a1 : Nat) (ha1 : a1 < gN χ 8 1) (h : f_X1_endsOf_0 χ a1 = some rr) : JJ p l e rm_X1_endsOf s m args below meth c 1 g ad (MQ below (PoI g ad χ T σ rr) args s 0 0 (geB g)) χ T σ 0 0 [(0, .ref (ad 19 a1))] 0 [] := by
  rw [f_X1_endsOf_0] at h
  refine j_aload_n C 0 rfl rfl dX1_endsOf_0 ?_
  refine j_getG C in_X5 (by decide) (cw_19 ha1) rfl 2 (by decide) mw_653 (fun _ h => h) rfl dX1_endsOf_1 ?_
  refine j_wt (fun wt1 => ?_)
  refine j_getG C in_X4 (by decide) (cw_18 (wt1.2.1 _ ha1).1) rfl 0 (by decide) mw_336 (fun _ h => h) rfl dX1_endsOf_4 ?_
  obtain ⟨q2, hq2, h⟩ := bi_some h
  refine j_callSi (As := [.int (gI χ 0 (gN χ 6 a1))]) (rest := []) C (c_X1_bitOf hq2) (va_cwS 1 C.ts (good_S mw_580 mw_581 mw_71 mw_582) rfl rfl rfl (by decide +kernel) ⟨Nat.le_of_ble_eq_true rfl, Nat.le_of_ble_eq_true rfl⟩) rfl rfl (Nat.le_of_ble_eq_true rfl) dX1_endsOf_7 ⟨Nat.le_of_ble_eq_true rfl, Nat.le_of_ble_eq_true rfl⟩ ?_
  refine j_aload_n C 0 rfl rfl dX1_endsOf_10 ?_
  refine j_getG C in_X5 (by decide) (cw_19 ha1) rfl 3 (by decide) mw_656 (fun _ h => h) rfl dX1_endsOf_11 ?_
  refine j_wt (fun wt3 => ?_)
  refine j_getG C in_X4 (by decide) (cw_18 (wt3.2.1 _ ha1).2) rfl 0 (by decide) mw_336 (fun _ h => h) rfl dX1_endsOf_14 ?_
  obtain ⟨q4, hq4, h⟩ := bi_some h
  refine j_callSi (As := [.int (gI χ 0 (gN χ 7 a1))]) (rest := [.int q2]) C (c_X1_bitOf hq4) (va_cwS 1 C.ts (good_S mw_580 mw_581 mw_71 mw_582) rfl rfl rfl (by decide +kernel) ⟨Nat.le_of_ble_eq_true rfl, Nat.le_of_ble_eq_true rfl⟩) rfl rfl (Nat.le_of_ble_eq_true rfl) dX1_endsOf_17 ⟨Nat.le_of_ble_eq_true rfl, Nat.le_of_ble_eq_true rfl⟩ ?_
  refine j_ior C dX1_endsOf_20 ?_
  obtain rfl := Option.some.inj h
  exact j_iret C rfl rfl (Nat.le_refl _) (Nat.le_refl _) dX1_endsOf_21
set_option maxRecDepth 100000 in
set_option maxHeartbeats 4000000 in
theorem c_X1_endsOf {l : Launch} {g : Gc} {ad : Nat → Nat → Nat} {χ : Mem} {T : Nat → Mem} {σ : Mem} {a1 : Nat} (ha1 : a1 < gN χ 8 1) {rr : Int32} (h : f_X1_endsOf χ a1 = some rr) : Met l yX1_endsOf (WS yX1_endsOf cX1_endsOf 1 (some .int)) rm_X1_endsOf (PreW g ad χ T σ [.ref (ad 19 a1)]) (PoI g ad χ T σ rr) 0 0 (geB g) := by
  refine j_metW (by decide) (Nat.le_of_ble_eq_true rfl) fun p e s m below meth c C hname => ?_
  rw [f_X1_endsOf] at h
  exact j_sub [0] rfl (t_X1_endsOf_0 C a1 ha1 h)
set_option maxRecDepth 100000 in
set_option maxHeartbeats 4000000 in
theorem t_X1_mostRods_0 {χ : Mem} {T : Nat → Mem} {σ : Mem} (C : Cx p s m args meth c cX1_mostRods 1 RX1 (some .int) COM g) {rr : Int32} (a1 : Int32) (h : f_X1_mostRods_0 a1 = some rr) : JJ p l e rm_X1_mostRods s m args below meth c 1 g ad (MQ below (PoI g ad χ T σ rr) args s 0 0 (geB g)) χ T σ 0 0 [(0, .int a1)] 0 [] := by
  rw [f_X1_mostRods_0] at h
  refine j_iconst (v := 2) C (by decide) dX1_mostRods_0 ?_
  refine j_iload_n C 0 rfl rfl dX1_mostRods_1 ?_
  refine j_imul C dX1_mostRods_2 ?_
  refine j_iconst (v := 3) C (by decide) dX1_mostRods_3 ?_
  refine j_isub C dX1_mostRods_4 ?_
  obtain rfl := Option.some.inj h
  exact j_iret C rfl rfl (Nat.le_refl _) (Nat.le_refl _) dX1_mostRods_5
set_option maxRecDepth 100000 in
set_option maxHeartbeats 4000000 in
theorem c_X1_mostRods {l : Launch} {g : Gc} {ad : Nat → Nat → Nat} {χ : Mem} {T : Nat → Mem} {σ : Mem} {a1 : Int32} {rr : Int32} (h : f_X1_mostRods a1 = some rr) : Met l yX1_mostRods (WS yX1_mostRods cX1_mostRods 1 (some .int)) rm_X1_mostRods (PreW g ad χ T σ [.int a1]) (PoI g ad χ T σ rr) 0 0 (geB g) := by
  refine j_metW (by decide) (Nat.le_of_ble_eq_true rfl) fun p e s m below meth c C hname => ?_
  rw [f_X1_mostRods] at h
  exact j_sub [0] rfl (t_X1_mostRods_0 C a1 h)
set_option maxRecDepth 100000 in
set_option maxHeartbeats 4000000 in
theorem t_X1_hasRoom_2 {T : Nat → Mem} {σ : Mem} {χ : Mem} (C : Cx p s m args meth c cX1_hasRoom 3 RX1 (some .boolean) COM g) {rr : Int32} : ∀ (n : Nat) (v1 : Int32) (v2 : Int32) (h : f_X1_hasRoom_2 χ n v1 v2 = some rr), JJ p l e rm_X1_hasRoom s m args below meth c 3 g ad (MQ below (PoI g ad χ T σ rr) args s 0 0 (geB g)) χ T σ 0 0 [(0, .ref (ad 4 0)), (1, .int v1), (2, .int v2)] 2 [] := by
  intro n
  induction n with
  | zero => intro v1 v2  h; cases h
  | succ n ih =>
  intro v1 v2  h
  rw [f_X1_hasRoom_2] at h
  refine j_iload_n C 2 rfl rfl dX1_hasRoom_2 ?_
  refine j_bipush (v := 64) C (by decide) dX1_hasRoom_3 ?_
  refine j_icmp_ge (tgt := 40) C (by decide) dX1_hasRoom_5 (fun hc1 => ?_) (fun hc1 => ?_)
  · replace h := (if_pos hc1).symm.trans h
    refine j_iconst (v := 1) C (by decide) dX1_hasRoom_40 ?_
    obtain rfl := Option.some.inj h
    exact j_iret C rfl (bo_nar (Or.inr rfl)) (Nat.le_refl _) (Nat.le_refl _) dX1_hasRoom_41
  · replace h := (if_neg hc1).symm.trans h
    refine j_iload_n C 2 rfl rfl dX1_hasRoom_8 ?_
    refine j_iload_n C 1 rfl rfl dX1_hasRoom_9 ?_
    obtain ⟨q2, hq2, h⟩ := bi_some h
    refine j_callSi (As := [.int v2, .int v1]) (rest := []) C (c_X1_holds hq2) (va_cwS 2 C.ts (good_S mw_583 mw_584 mw_71 mw_585) rfl rfl rfl (by decide +kernel) ⟨Nat.le_of_ble_eq_true rfl, Nat.le_of_ble_eq_true rfl⟩) rfl rfl (Nat.le_of_ble_eq_true rfl) dX1_hasRoom_10 ⟨Nat.le_of_ble_eq_true rfl, Nat.le_of_ble_eq_true rfl⟩ ?_
    refine j_if_eq (tgt := 34) C (by decide) dX1_hasRoom_13 (fun hc3 => ?_) (fun hc3 => ?_)
    · replace h := (if_pos hc3).symm.trans h
      refine j_iinc (v := v2 + (1 : Int32)) (L' := [(2, .int (v2 + (1 : Int32))), (0, .ref (ad 4 0)), (1, .int v1)]) C 2 rfl rfl (by decide) rfl dX1_hasRoom_34 ?_
      refine j_goto (tgt := 2) C (by decide) dX1_hasRoom_37 ?_
      exact j_sub [1, 2, 0] rfl (ih v1 (v2 + (1 : Int32)) h)
    · replace h := (if_neg hc3).symm.trans h
      refine j_aload_n C 0 rfl rfl dX1_hasRoom_16 ?_
      refine j_getG C in_X1 (by decide) cw_4 rfl 1 (by decide) mw_232 (fun _ h => h) rfl dX1_hasRoom_17 ?_
      refine j_iload_n C 2 rfl rfl dX1_hasRoom_20 ?_
      obtain ⟨hg4, h⟩ := gd_some h
      refine j_iald C (by decide) cw_6 hg4 dX1_hasRoom_21 ?_
      refine j_iload_n C 2 rfl rfl dX1_hasRoom_22 ?_
      obtain ⟨q5, hq5, h⟩ := bi_some h
      refine j_callSi (As := [.int v2]) (rest := [.int (gI χ 12 v2.toNatClampNeg)]) C (c_J6_bitCount_0f7a4 hq5) (va_cwS 1 C.ts (good_S mw_590 mw_591 mw_81 mw_592) rfl rfl rfl (by decide +kernel) ⟨Nat.le_of_ble_eq_true rfl, Nat.le_of_ble_eq_true rfl⟩) rfl rfl (Nat.le_of_ble_eq_true rfl) dX1_hasRoom_23 ⟨Nat.le_of_ble_eq_true rfl, Nat.le_of_ble_eq_true rfl⟩ ?_
      obtain ⟨q6, hq6, h⟩ := bi_some h
      refine j_callSi (As := [.int q5]) (rest := [.int (gI χ 12 v2.toNatClampNeg)]) C (c_X1_mostRods hq6) (va_cwS 1 C.ts (good_S mw_596 mw_597 mw_71 mw_598) rfl rfl rfl (by decide +kernel) ⟨Nat.le_of_ble_eq_true rfl, Nat.le_of_ble_eq_true rfl⟩) rfl rfl (Nat.le_of_ble_eq_true rfl) dX1_hasRoom_26 ⟨Nat.le_of_ble_eq_true rfl, Nat.le_of_ble_eq_true rfl⟩ ?_
      refine j_icmp_lt (tgt := 34) C (by decide) dX1_hasRoom_29 (fun hc7 => ?_) (fun hc7 => ?_)
      · replace h := (if_pos hc7).symm.trans h
        refine j_iinc (v := v2 + (1 : Int32)) (L' := [(2, .int (v2 + (1 : Int32))), (0, .ref (ad 4 0)), (1, .int v1)]) C 2 rfl rfl (by decide) rfl dX1_hasRoom_34 ?_
        refine j_goto (tgt := 2) C (by decide) dX1_hasRoom_37 ?_
        exact j_sub [1, 2, 0] rfl (ih v1 (v2 + (1 : Int32)) h)
      · replace h := (if_neg hc7).symm.trans h
        refine j_iconst (v := 0) C (by decide) dX1_hasRoom_32 ?_
        obtain rfl := Option.some.inj h
        exact j_iret C rfl (bo_nar (Or.inl rfl)) (Nat.le_refl _) (Nat.le_refl _) dX1_hasRoom_33
set_option maxRecDepth 100000 in
set_option maxHeartbeats 4000000 in
theorem t_X1_hasRoom_0 {T : Nat → Mem} {σ : Mem} {χ : Mem} (C : Cx p s m args meth c cX1_hasRoom 3 RX1 (some .boolean) COM g) {rr : Int32} (a1 : Int32) (h : f_X1_hasRoom_0 χ a1 = some rr) : JJ p l e rm_X1_hasRoom s m args below meth c 3 g ad (MQ below (PoI g ad χ T σ rr) args s 0 0 (geB g)) χ T σ 0 0 [(0, .ref (ad 4 0)), (1, .int a1)] 0 [] := by
  rw [f_X1_hasRoom_0] at h
  refine j_iload_n C 1 rfl rfl dX1_hasRoom_0 ?_
  refine j_istore_n (L' := [(2, .int a1), (0, .ref (ad 4 0)), (1, .int a1)]) C rfl (by decide) rfl dX1_hasRoom_1 ?_
  exact j_sub [1, 2, 0] rfl (t_X1_hasRoom_2 C FU a1 a1 h)
set_option maxRecDepth 100000 in
set_option maxHeartbeats 4000000 in
theorem c_X1_hasRoom {l : Launch} {g : Gc} {ad : Nat → Nat → Nat} {χ : Mem} {T : Nat → Mem} {σ : Mem} {a1 : Int32} {rr : Int32} (h : f_X1_hasRoom χ a1 = some rr) : Met l yX1_hasRoom (WS yX1_hasRoom cX1_hasRoom 3 (some .boolean)) rm_X1_hasRoom (PreW g ad χ T σ [.ref (ad 4 0), .int a1]) (PoI g ad χ T σ rr) 0 0 (geB g) := by
  refine j_metW (by decide) (Nat.le_of_ble_eq_true rfl) fun p e s m below meth c C hname => ?_
  rw [f_X1_hasRoom] at h
  exact j_sub [0, 1] rfl (t_X1_hasRoom_0 C a1 h)
set_option maxRecDepth 100000 in
set_option maxHeartbeats 4000000 in
theorem t_X1_choose_2 {T : Nat → Mem} {σ : Mem} (C : Cx p s m args meth c cX1_choose 3 RX1 none COM g) {rr : Mem} : ∀ (n : Nat) (χ : Mem) (v1 : Int32) (v2 : Int32) (h : f_X1_choose_2 n χ v1 v2 = some rr), JJ p l e rm_X1_choose s m args below meth c 3 g ad (MQ below (PoV g ad (rr) T σ) args s 0 0 (geB g)) χ T σ 0 0 [(0, .ref (ad 4 0)), (1, .int v1), (2, .int v2)] 2 [] := by
  intro n
  induction n with
  | zero => intro χ v1 v2  h; cases h
  | succ n ih =>
  intro χ v1 v2  h
  rw [f_X1_choose_2] at h
  refine j_iload_n C 2 rfl rfl dX1_choose_2 ?_
  refine j_bipush (v := 64) C (by decide) dX1_choose_3 ?_
  refine j_icmp_ge (tgt := 32) C (by decide) dX1_choose_5 (fun hc1 => ?_) (fun hc1 => ?_)
  · replace h := (if_pos hc1).symm.trans h
    obtain rfl := Option.some.inj h
    exact j_vret C rfl (Nat.le_refl _) (Nat.le_refl _) dX1_choose_32
  · replace h := (if_neg hc1).symm.trans h
    refine j_iload_n C 2 rfl rfl dX1_choose_8 ?_
    refine j_iload_n C 1 rfl rfl dX1_choose_9 ?_
    obtain ⟨q2, hq2, h⟩ := bi_some h
    refine j_callSi (As := [.int v2, .int v1]) (rest := []) C (c_X1_holds hq2) (va_cwS 2 C.ts (good_S mw_583 mw_584 mw_71 mw_585) rfl rfl rfl (by decide +kernel) ⟨Nat.le_of_ble_eq_true rfl, Nat.le_of_ble_eq_true rfl⟩) rfl rfl (Nat.le_of_ble_eq_true rfl) dX1_choose_10 ⟨Nat.le_of_ble_eq_true rfl, Nat.le_of_ble_eq_true rfl⟩ ?_
    refine j_if_eq (tgt := 26) C (by decide) dX1_choose_13 (fun hc3 => ?_) (fun hc3 => ?_)
    · replace h := (if_pos hc3).symm.trans h
      refine j_iinc (v := v2 + (1 : Int32)) (L' := [(2, .int (v2 + (1 : Int32))), (0, .ref (ad 4 0)), (1, .int v1)]) C 2 rfl rfl (by decide) rfl dX1_choose_26 ?_
      refine j_goto (tgt := 2) C (by decide) dX1_choose_29 ?_
      exact j_sub [1, 2, 0] rfl (ih χ v1 (v2 + (1 : Int32)) h)
    · replace h := (if_neg hc3).symm.trans h
      refine j_aload_n C 0 rfl rfl dX1_choose_16 ?_
      refine j_getG C in_X1 (by decide) cw_4 rfl 1 (by decide) mw_232 (fun _ h => h) rfl dX1_choose_17 ?_
      refine j_iload_n C 2 rfl rfl dX1_choose_20 ?_
      refine j_dup2 C rfl rfl dX1_choose_21 ?_
      obtain ⟨hg4, h⟩ := gd_some h
      refine j_iald C (by decide) cw_6 hg4 dX1_choose_22 ?_
      refine j_iconst (v := 1) C (by decide) dX1_choose_23 ?_
      refine j_iadd C dX1_choose_24 ?_
      refine j_iastP C (by decide) (po_chosen v2.toNatClampNeg ((gI χ 12 v2.toNatClampNeg) + (1 : Int32))) hg4 dX1_choose_25 ?_
      refine j_iinc (v := v2 + (1 : Int32)) (L' := [(2, .int (v2 + (1 : Int32))), (0, .ref (ad 4 0)), (1, .int v1)]) C 2 rfl rfl (by decide) rfl dX1_choose_26 ?_
      refine j_goto (tgt := 2) C (by decide) dX1_choose_29 ?_
      exact j_sub [1, 2, 0] rfl (ih (wI χ 12 v2.toNatClampNeg ((gI χ 12 v2.toNatClampNeg) + (1 : Int32))) v1 (v2 + (1 : Int32)) h)
set_option maxRecDepth 100000 in
set_option maxHeartbeats 4000000 in
theorem t_X1_choose_0 {T : Nat → Mem} {σ : Mem} (C : Cx p s m args meth c cX1_choose 3 RX1 none COM g) {rr : Mem} (χ : Mem) (a1 : Int32) (h : f_X1_choose_0 χ a1 = some rr) : JJ p l e rm_X1_choose s m args below meth c 3 g ad (MQ below (PoV g ad (rr) T σ) args s 0 0 (geB g)) χ T σ 0 0 [(0, .ref (ad 4 0)), (1, .int a1)] 0 [] := by
  rw [f_X1_choose_0] at h
  refine j_iload_n C 1 rfl rfl dX1_choose_0 ?_
  refine j_istore_n (L' := [(2, .int a1), (0, .ref (ad 4 0)), (1, .int a1)]) C rfl (by decide) rfl dX1_choose_1 ?_
  exact j_sub [1, 2, 0] rfl (t_X1_choose_2 C FU χ a1 a1 h)
set_option maxRecDepth 100000 in
set_option maxHeartbeats 4000000 in
theorem c_X1_choose {l : Launch} {g : Gc} {ad : Nat → Nat → Nat} {χ : Mem} {T : Nat → Mem} {σ : Mem} {a1 : Int32} {rr : Mem} (h : f_X1_choose χ a1 = some rr) : Met l yX1_choose (WS yX1_choose cX1_choose 3 none) rm_X1_choose (PreW g ad χ T σ [.ref (ad 4 0), .int a1]) (PoV g ad (rr) T σ) 0 0 (geB g) := by
  refine j_metW (by decide) (Nat.le_of_ble_eq_true rfl) fun p e s m below meth c C hname => ?_
  rw [f_X1_choose] at h
  exact j_sub [0, 1] rfl (t_X1_choose_0 C χ a1 h)
set_option maxRecDepth 100000 in
set_option maxHeartbeats 4000000 in
theorem t_X1_leastBodyOf_7 {T : Nat → Mem} {σ : Mem} {χ : Mem} (C : Cx p s m args meth c cX1_leastBodyOf 4 RX1 (some .int) COM g) {rr : Int32} : ∀ (n : Nat) (v2 : Int32) (v3 : Int32) (h : f_X1_leastBodyOf_7 χ n v2 v3 = some rr), JJ p l e rm_X1_leastBodyOf s m args below meth c 4 g ad (MQ below (PoI g ad χ T σ rr) args s 0 0 (geB g)) χ T σ 0 0 [(0, .ref (ad 4 0)), (2, .int v2), (3, .int v3)] 7 [] := by
  intro n
  induction n with
  | zero => intro v2 v3  h; cases h
  | succ n ih =>
  intro v2 v3  h
  rw [f_X1_leastBodyOf_7] at h
  refine j_iload_n C 2 rfl rfl dX1_leastBodyOf_7 ?_
  refine j_aload_n C 0 rfl rfl dX1_leastBodyOf_8 ?_
  refine j_getG C in_X1 (by decide) cw_4 rfl 3 (by decide) mw_234 (fun _ h => h) rfl dX1_leastBodyOf_9 ?_
  refine j_icmp_ge (tgt := 36) C (by decide) dX1_leastBodyOf_12 (fun hc1 => ?_) (fun hc1 => ?_)
  · replace h := (if_pos hc1).symm.trans h
    refine j_iconst (v := -1) C (by decide) dX1_leastBodyOf_36 ?_
    obtain rfl := Option.some.inj h
    exact j_iret C rfl rfl (Nat.le_refl _) (Nat.le_refl _) dX1_leastBodyOf_37
  · replace h := (if_neg hc1).symm.trans h
    refine j_aload_n C 0 rfl rfl dX1_leastBodyOf_15 ?_
    refine j_getG C in_X1 (by decide) cw_4 rfl 2 (by decide) mw_233 (fun _ h => h) rfl dX1_leastBodyOf_16 ?_
    refine j_iload_n C 2 rfl rfl dX1_leastBodyOf_19 ?_
    obtain ⟨hg2, h⟩ := gd_some h
    refine j_iald C (by decide) cw_7 hg2 dX1_leastBodyOf_20 ?_
    refine j_iload_n C 1 rfl rfl dX1_leastBodyOf_21 ?_
    obtain ⟨q3, hq3, h⟩ := bi_some h
    refine j_callSi (As := [.int (gI χ 13 v3.toNatClampNeg), .int v2]) (rest := []) C (c_X1_holds hq3) (va_cwS 2 C.ts (good_S mw_583 mw_584 mw_71 mw_585) rfl rfl rfl (by decide +kernel) ⟨Nat.le_of_ble_eq_true rfl, Nat.le_of_ble_eq_true rfl⟩) rfl rfl (Nat.le_of_ble_eq_true rfl) dX1_leastBodyOf_22 ⟨Nat.le_of_ble_eq_true rfl, Nat.le_of_ble_eq_true rfl⟩ ?_
    refine j_if_eq (tgt := 30) C (by decide) dX1_leastBodyOf_25 (fun hc4 => ?_) (fun hc4 => ?_)
    · replace h := (if_pos hc4).symm.trans h
      refine j_iinc (v := v3 + (1 : Int32)) (L' := [(3, .int (v3 + (1 : Int32))), (0, .ref (ad 4 0)), (2, .int v2)]) C 2 rfl rfl (by decide) rfl dX1_leastBodyOf_30 ?_
      refine j_goto (tgt := 7) C (by decide) dX1_leastBodyOf_33 ?_
      exact j_sub [1, 2, 0] rfl (ih v2 (v3 + (1 : Int32)) h)
    · replace h := (if_neg hc4).symm.trans h
      refine j_iload_n C 2 rfl rfl dX1_leastBodyOf_28 ?_
      obtain rfl := Option.some.inj h
      exact j_iret C rfl rfl (Nat.le_refl _) (Nat.le_refl _) dX1_leastBodyOf_29
set_option maxRecDepth 100000 in
set_option maxHeartbeats 4000000 in
theorem t_X1_leastBodyOf_0 {T : Nat → Mem} {σ : Mem} {χ : Mem} (C : Cx p s m args meth c cX1_leastBodyOf 4 RX1 (some .int) COM g) {rr : Int32} (a1 : Nat) (ha1 : a1 < gN χ 8 1) (h : f_X1_leastBodyOf_0 χ a1 = some rr) : JJ p l e rm_X1_leastBodyOf s m args below meth c 4 g ad (MQ below (PoI g ad χ T σ rr) args s 0 0 (geB g)) χ T σ 0 0 [(0, .ref (ad 4 0)), (1, .ref (ad 19 a1))] 0 [] := by
  rw [f_X1_leastBodyOf_0] at h
  refine j_aload_n C 1 rfl rfl dX1_leastBodyOf_0 ?_
  obtain ⟨q1, hq1, h⟩ := bi_some h
  refine j_callSi (As := [.ref (ad 19 a1)]) (rest := []) C (c_X1_endsOf ha1 hq1) (va_cwS 1 C.ts (good_S mw_577 mw_578 mw_71 mw_579) rfl rfl rfl (by decide +kernel) ⟨Nat.le_of_ble_eq_true rfl, Nat.le_of_ble_eq_true rfl⟩) rfl rfl (Nat.le_of_ble_eq_true rfl) dX1_leastBodyOf_1 ⟨Nat.le_of_ble_eq_true rfl, Nat.le_of_ble_eq_true rfl⟩ ?_
  refine j_istore_n (L' := [(2, .int q1), (0, .ref (ad 4 0)), (1, .ref (ad 19 a1))]) C rfl (by decide) rfl dX1_leastBodyOf_4 ?_
  refine j_iconst (v := 0) C (by decide) dX1_leastBodyOf_5 ?_
  refine j_istore_n (L' := [(3, .int (0 : Int32)), (2, .int q1), (0, .ref (ad 4 0)), (1, .ref (ad 19 a1))]) C rfl (by decide) rfl dX1_leastBodyOf_6 ?_
  exact j_sub [2, 1, 0] rfl (t_X1_leastBodyOf_7 C FU q1 (0 : Int32) h)
set_option maxRecDepth 100000 in
set_option maxHeartbeats 4000000 in
theorem c_X1_leastBodyOf {l : Launch} {g : Gc} {ad : Nat → Nat → Nat} {χ : Mem} {T : Nat → Mem} {σ : Mem} {a1 : Nat} (ha1 : a1 < gN χ 8 1) {rr : Int32} (h : f_X1_leastBodyOf χ a1 = some rr) : Met l yX1_leastBodyOf (WS yX1_leastBodyOf cX1_leastBodyOf 4 (some .int)) rm_X1_leastBodyOf (PreW g ad χ T σ [.ref (ad 4 0), .ref (ad 19 a1)]) (PoI g ad χ T σ rr) 0 0 (geB g) := by
  refine j_metW (by decide) (Nat.le_of_ble_eq_true rfl) fun p e s m below meth c C hname => ?_
  rw [f_X1_leastBodyOf] at h
  exact j_sub [0, 1] rfl (t_X1_leastBodyOf_0 C a1 ha1 h)
set_option maxRecDepth 100000 in
set_option maxHeartbeats 4000000 in
theorem t_X1_bodyCount_0 {T : Nat → Mem} {σ : Mem} {χ : Mem} (C : Cx p s m args meth c cX1_bodyCount 1 RX1 (some .int) COM g) {rr : Int32} (h : f_X1_bodyCount_0 χ = some rr) : JJ p l e rm_X1_bodyCount s m args below meth c 1 g ad (MQ below (PoI g ad χ T σ rr) args s 0 0 (geB g)) χ T σ 0 0 [(0, .ref (ad 4 0))] 0 [] := by
  rw [f_X1_bodyCount_0] at h
  refine j_aload_n C 0 rfl rfl dX1_bodyCount_0 ?_
  refine j_getG C in_X1 (by decide) cw_4 rfl 3 (by decide) mw_234 (fun _ h => h) rfl dX1_bodyCount_1 ?_
  obtain rfl := Option.some.inj h
  exact j_iret C rfl rfl (Nat.le_refl _) (Nat.le_refl _) dX1_bodyCount_4
set_option maxRecDepth 100000 in
set_option maxHeartbeats 4000000 in
theorem c_X1_bodyCount {l : Launch} {g : Gc} {ad : Nat → Nat → Nat} {χ : Mem} {T : Nat → Mem} {σ : Mem} {rr : Int32} (h : f_X1_bodyCount χ = some rr) : Met l yX1_bodyCount (WS yX1_bodyCount cX1_bodyCount 1 (some .int)) rm_X1_bodyCount (PreW g ad χ T σ [.ref (ad 4 0)]) (PoI g ad χ T σ rr) 0 0 (geB g) := by
  refine j_metW (by decide) (Nat.le_of_ble_eq_true rfl) fun p e s m below meth c C hname => ?_
  rw [f_X1_bodyCount] at h
  exact j_sub [0] rfl (t_X1_bodyCount_0 C h)
set_option maxRecDepth 100000 in
set_option maxHeartbeats 4000000 in
theorem t_X0_isMotion_0 {σ : Mem} {χ : Mem} {T : Nat → Mem} (C : Cx p s m args meth c cX0_isMotion 2 RX0 (some .boolean) COM g) {rr : Int32} (a1 : Int32) (h : f_X0_isMotion_0 χ T a1 = some rr) : JJ p l e rm_X0_isMotion s m args below meth c 2 g ad (MQ below (PoI g ad χ T σ rr) args s 0 0 (geB g)) χ T σ 0 0 [(0, .ref (ad 2 0)), (1, .int a1)] 0 [] := by
  rw [f_X0_isMotion_0] at h
  refine j_iload_n C 1 rfl rfl dX0_isMotion_0 ?_
  refine j_if_lt (tgt := 16) C (by decide) dX0_isMotion_1 (fun hc1 => ?_) (fun hc1 => ?_)
  · replace h := (if_pos hc1).symm.trans h
    refine j_iconst (v := 0) C (by decide) dX0_isMotion_16 ?_
    obtain rfl := Option.some.inj h
    exact j_iret C rfl (bo_nar (Or.inl rfl)) (Nat.le_refl _) (Nat.le_refl _) dX0_isMotion_17
  · replace h := (if_neg hc1).symm.trans h
    refine j_iload_n C 1 rfl rfl dX0_isMotion_4 ?_
    refine j_aload_n C 0 rfl rfl dX0_isMotion_5 ?_
    obtain ⟨q2, hq2, h⟩ := bi_some h
    refine j_callVi (As := []) (rest := [.int a1]) C (c_X0_motionCount hq2) (cwV 0 C.ts (good_V mw_766 mw_697 mw_698 mw_68 mw_699) rfl rfl rfl (by decide +kernel) ⟨Nat.le_of_ble_eq_true rfl, Nat.le_of_ble_eq_true rfl⟩) (fun H hW => CW.rv C.k hW (by decide) cw_2 rfl) rfl rfl (Nat.le_of_ble_eq_true rfl) dX0_isMotion_6 ⟨Nat.le_of_ble_eq_true rfl, Nat.le_of_ble_eq_true rfl⟩ ?_
    refine j_icmp_ge (tgt := 16) C (by decide) dX0_isMotion_9 (fun hc3 => ?_) (fun hc3 => ?_)
    · replace h := (if_pos hc3).symm.trans h
      refine j_iconst (v := 0) C (by decide) dX0_isMotion_16 ?_
      obtain rfl := Option.some.inj h
      exact j_iret C rfl (bo_nar (Or.inl rfl)) (Nat.le_refl _) (Nat.le_refl _) dX0_isMotion_17
    · replace h := (if_neg hc3).symm.trans h
      refine j_iconst (v := 1) C (by decide) dX0_isMotion_12 ?_
      refine j_goto (tgt := 17) C (by decide) dX0_isMotion_13 ?_
      obtain rfl := Option.some.inj h
      exact j_iret C rfl (bo_nar (Or.inr rfl)) (Nat.le_refl _) (Nat.le_refl _) dX0_isMotion_17
set_option maxRecDepth 100000 in
set_option maxHeartbeats 4000000 in
theorem c_X0_isMotion {l : Launch} {g : Gc} {ad : Nat → Nat → Nat} {χ : Mem} {T : Nat → Mem} {σ : Mem} {a1 : Int32} {rr : Int32} (h : f_X0_isMotion χ T a1 = some rr) : Met l yX0_isMotion (WS yX0_isMotion cX0_isMotion 2 (some .boolean)) rm_X0_isMotion (PreW g ad χ T σ [.ref (ad 2 0), .int a1]) (PoI g ad χ T σ rr) 0 0 (geB g) := by
  refine j_metW (by decide) (Nat.le_of_ble_eq_true rfl) fun p e s m below meth c C hname => ?_
  rw [f_X0_isMotion] at h
  exact j_sub [0, 1] rfl (t_X0_isMotion_0 C a1 h)
set_option maxRecDepth 100000 in
set_option maxHeartbeats 4000000 in
theorem t_X0_isStress_0 {σ : Mem} {χ : Mem} {T : Nat → Mem} (C : Cx p s m args meth c cX0_isStress 2 RX0 (some .boolean) COM g) {rr : Int32} (a1 : Int32) (h : f_X0_isStress_0 χ T a1 = some rr) : JJ p l e rm_X0_isStress s m args below meth c 2 g ad (MQ below (PoI g ad χ T σ rr) args s 0 0 (geB g)) χ T σ 0 0 [(0, .ref (ad 2 0)), (1, .int a1)] 0 [] := by
  rw [f_X0_isStress_0] at h
  refine j_iload_n C 1 rfl rfl dX0_isStress_0 ?_
  refine j_if_lt (tgt := 16) C (by decide) dX0_isStress_1 (fun hc1 => ?_) (fun hc1 => ?_)
  · replace h := (if_pos hc1).symm.trans h
    refine j_iconst (v := 0) C (by decide) dX0_isStress_16 ?_
    obtain rfl := Option.some.inj h
    exact j_iret C rfl (bo_nar (Or.inl rfl)) (Nat.le_refl _) (Nat.le_refl _) dX0_isStress_17
  · replace h := (if_neg hc1).symm.trans h
    refine j_iload_n C 1 rfl rfl dX0_isStress_4 ?_
    refine j_aload_n C 0 rfl rfl dX0_isStress_5 ?_
    obtain ⟨q2, hq2, h⟩ := bi_some h
    refine j_callVi (As := []) (rest := [.int a1]) C (c_X0_stressCount hq2) (cwV 0 C.ts (good_V mw_724 mw_705 mw_706 mw_68 mw_707) rfl rfl rfl (by decide +kernel) ⟨Nat.le_of_ble_eq_true rfl, Nat.le_of_ble_eq_true rfl⟩) (fun H hW => CW.rv C.k hW (by decide) cw_2 rfl) rfl rfl (Nat.le_of_ble_eq_true rfl) dX0_isStress_6 ⟨Nat.le_of_ble_eq_true rfl, Nat.le_of_ble_eq_true rfl⟩ ?_
    refine j_icmp_ge (tgt := 16) C (by decide) dX0_isStress_9 (fun hc3 => ?_) (fun hc3 => ?_)
    · replace h := (if_pos hc3).symm.trans h
      refine j_iconst (v := 0) C (by decide) dX0_isStress_16 ?_
      obtain rfl := Option.some.inj h
      exact j_iret C rfl (bo_nar (Or.inl rfl)) (Nat.le_refl _) (Nat.le_refl _) dX0_isStress_17
    · replace h := (if_neg hc3).symm.trans h
      refine j_iconst (v := 1) C (by decide) dX0_isStress_12 ?_
      refine j_goto (tgt := 17) C (by decide) dX0_isStress_13 ?_
      obtain rfl := Option.some.inj h
      exact j_iret C rfl (bo_nar (Or.inr rfl)) (Nat.le_refl _) (Nat.le_refl _) dX0_isStress_17
set_option maxRecDepth 100000 in
set_option maxHeartbeats 4000000 in
theorem c_X0_isStress {l : Launch} {g : Gc} {ad : Nat → Nat → Nat} {χ : Mem} {T : Nat → Mem} {σ : Mem} {a1 : Int32} {rr : Int32} (h : f_X0_isStress χ T a1 = some rr) : Met l yX0_isStress (WS yX0_isStress cX0_isStress 2 (some .boolean)) rm_X0_isStress (PreW g ad χ T σ [.ref (ad 2 0), .int a1]) (PoI g ad χ T σ rr) 0 0 (geB g) := by
  refine j_metW (by decide) (Nat.le_of_ble_eq_true rfl) fun p e s m below meth c C hname => ?_
  rw [f_X0_isStress] at h
  exact j_sub [0, 1] rfl (t_X0_isStress_0 C a1 h)
set_option maxRecDepth 100000 in
set_option maxHeartbeats 4000000 in
theorem t_X0_isNeeded_2 {σ : Mem} {χ : Mem} {T : Nat → Mem} (C : Cx p s m args meth c cX0_isNeeded 3 RX0 (some .boolean) COM g) {rr : Int32} : ∀ (n : Nat) (v1 : Nat) (v2 : Int32) (hv1 : v1 < gN χ 8 1) (h : f_X0_isNeeded_2 χ T n v1 v2 = some rr), JJ p l e rm_X0_isNeeded s m args below meth c 3 g ad (MQ below (PoI g ad χ T σ rr) args s 0 0 (geB g)) χ T σ 0 0 [(0, .ref (ad 2 0)), (1, .ref (ad 19 v1)), (2, .int v2)] 2 [] := by
  intro n
  induction n with
  | zero => intro v1 v2 hv1 h; cases h
  | succ n ih =>
  intro v1 v2 hv1 h
  rw [f_X0_isNeeded_2] at h
  refine j_iload_n C 2 rfl rfl dX0_isNeeded_2 ?_
  refine j_aload_n C 0 rfl rfl dX0_isNeeded_3 ?_
  obtain ⟨q1, hq1, h⟩ := bi_some h
  refine j_callVi (As := []) (rest := [.int v2]) C (c_X0_stressCount hq1) (cwV 0 C.ts (good_V mw_724 mw_705 mw_706 mw_68 mw_707) rfl rfl rfl (by decide +kernel) ⟨Nat.le_of_ble_eq_true rfl, Nat.le_of_ble_eq_true rfl⟩) (fun H hW => CW.rv C.k hW (by decide) cw_2 rfl) rfl rfl (Nat.le_of_ble_eq_true rfl) dX0_isNeeded_4 ⟨Nat.le_of_ble_eq_true rfl, Nat.le_of_ble_eq_true rfl⟩ ?_
  refine j_icmp_ge (tgt := 29) C (by decide) dX0_isNeeded_7 (fun hc2 => ?_) (fun hc2 => ?_)
  · replace h := (if_pos hc2).symm.trans h
    refine j_aload_n C 1 rfl rfl dX0_isNeeded_29 ?_
    refine j_getG C in_X5 (by decide) (cw_19 hv1) rfl 5 (by decide) mw_664 (fun _ h => h) rfl dX0_isNeeded_30 ?_
    obtain ⟨hg3, h⟩ := gd_some h
    obtain rfl := Option.some.inj h
    exact j_iret C rfl (bo_nar hg3) (Nat.le_refl _) (Nat.le_refl _) dX0_isNeeded_33
  · replace h := (if_neg hc2).symm.trans h
    refine j_aload_n C 0 rfl rfl dX0_isNeeded_10 ?_
    refine j_iload_n C 2 rfl rfl dX0_isNeeded_11 ?_
    refine j_aload_n C 1 rfl rfl dX0_isNeeded_12 ?_
    obtain ⟨q4, hq4, h⟩ := bi_some h
    refine j_callVl (As := [.int v2, .ref (ad 19 v1)]) (rest := []) C (c_X0_stressNumber hv1 hq4) (cwV 2 C.ts (good_V mw_725 mw_726 mw_727 mw_68 mw_728) rfl rfl rfl (by decide +kernel) ⟨Nat.le_of_ble_eq_true rfl, Nat.le_of_ble_eq_true rfl⟩) (fun H hW => CW.rv C.k hW (by decide) cw_2 rfl) rfl rfl (Nat.le_of_ble_eq_true rfl) dX0_isNeeded_13 ⟨Nat.le_of_ble_eq_true rfl, Nat.le_of_ble_eq_true rfl⟩ ?_
    refine j_lconst (v := 0) C (by decide) dX0_isNeeded_16 ?_
    refine j_lcmp_eq (tgt := 23) C dX0_isNeeded_18 (by decide) dX0_isNeeded_17 (fun hc5 => ?_) (fun hc5 => ?_)
    · replace h := (if_pos hc5).symm.trans h
      refine j_iinc (v := v2 + (1 : Int32)) (L' := [(2, .int (v2 + (1 : Int32))), (0, .ref (ad 2 0)), (1, .ref (ad 19 v1))]) C 2 rfl rfl (by decide) rfl dX0_isNeeded_23 ?_
      refine j_goto (tgt := 2) C (by decide) dX0_isNeeded_26 ?_
      exact j_sub [1, 2, 0] rfl (ih v1 (v2 + (1 : Int32)) hv1 h)
    · replace h := (if_neg hc5).symm.trans h
      refine j_iconst (v := 0) C (by decide) dX0_isNeeded_21 ?_
      obtain rfl := Option.some.inj h
      exact j_iret C rfl (bo_nar (Or.inl rfl)) (Nat.le_refl _) (Nat.le_refl _) dX0_isNeeded_22
set_option maxRecDepth 100000 in
set_option maxHeartbeats 4000000 in
theorem t_X0_isNeeded_0 {σ : Mem} {χ : Mem} {T : Nat → Mem} (C : Cx p s m args meth c cX0_isNeeded 3 RX0 (some .boolean) COM g) {rr : Int32} (a1 : Nat) (ha1 : a1 < gN χ 8 1) (h : f_X0_isNeeded_0 χ T a1 = some rr) : JJ p l e rm_X0_isNeeded s m args below meth c 3 g ad (MQ below (PoI g ad χ T σ rr) args s 0 0 (geB g)) χ T σ 0 0 [(0, .ref (ad 2 0)), (1, .ref (ad 19 a1))] 0 [] := by
  rw [f_X0_isNeeded_0] at h
  refine j_iconst (v := 0) C (by decide) dX0_isNeeded_0 ?_
  refine j_istore_n (L' := [(2, .int (0 : Int32)), (0, .ref (ad 2 0)), (1, .ref (ad 19 a1))]) C rfl (by decide) rfl dX0_isNeeded_1 ?_
  exact j_sub [1, 2, 0] rfl (t_X0_isNeeded_2 C FU a1 (0 : Int32) ha1 h)
set_option maxRecDepth 100000 in
set_option maxHeartbeats 4000000 in
theorem c_X0_isNeeded {l : Launch} {g : Gc} {ad : Nat → Nat → Nat} {χ : Mem} {T : Nat → Mem} {σ : Mem} {a1 : Nat} (ha1 : a1 < gN χ 8 1) {rr : Int32} (h : f_X0_isNeeded χ T a1 = some rr) : Met l yX0_isNeeded (WS yX0_isNeeded cX0_isNeeded 3 (some .boolean)) rm_X0_isNeeded (PreW g ad χ T σ [.ref (ad 2 0), .ref (ad 19 a1)]) (PoI g ad χ T σ rr) 0 0 (geB g) := by
  refine j_metW (by decide) (Nat.le_of_ble_eq_true rfl) fun p e s m below meth c C hname => ?_
  rw [f_X0_isNeeded] at h
  exact j_sub [0, 1] rfl (t_X0_isNeeded_0 C a1 ha1 h)
set_option maxRecDepth 100000 in
set_option maxHeartbeats 4000000 in
theorem t_X1_isBody_0 {T : Nat → Mem} {σ : Mem} {χ : Mem} (C : Cx p s m args meth c cX1_isBody 2 RX1 (some .boolean) COM g) {rr : Int32} (a1 : Int32) (h : f_X1_isBody_0 χ a1 = some rr) : JJ p l e rm_X1_isBody s m args below meth c 2 g ad (MQ below (PoI g ad χ T σ rr) args s 0 0 (geB g)) χ T σ 0 0 [(0, .ref (ad 4 0)), (1, .int a1)] 0 [] := by
  rw [f_X1_isBody_0] at h
  refine j_iload_n C 1 rfl rfl dX1_isBody_0 ?_
  refine j_if_lt (tgt := 16) C (by decide) dX1_isBody_1 (fun hc1 => ?_) (fun hc1 => ?_)
  · replace h := (if_pos hc1).symm.trans h
    refine j_iconst (v := 0) C (by decide) dX1_isBody_16 ?_
    obtain rfl := Option.some.inj h
    exact j_iret C rfl (bo_nar (Or.inl rfl)) (Nat.le_refl _) (Nat.le_refl _) dX1_isBody_17
  · replace h := (if_neg hc1).symm.trans h
    refine j_iload_n C 1 rfl rfl dX1_isBody_4 ?_
    refine j_aload_n C 0 rfl rfl dX1_isBody_5 ?_
    obtain ⟨q2, hq2, h⟩ := bi_some h
    refine j_callVi (As := []) (rest := [.int a1]) C (c_X1_bodyCount hq2) (cwV 0 C.ts (good_V mw_861 mw_709 mw_710 mw_71 mw_711) rfl rfl rfl (by decide +kernel) ⟨Nat.le_of_ble_eq_true rfl, Nat.le_of_ble_eq_true rfl⟩) (fun H hW => CW.rv C.k hW (by decide) cw_4 rfl) rfl rfl (Nat.le_of_ble_eq_true rfl) dX1_isBody_6 ⟨Nat.le_of_ble_eq_true rfl, Nat.le_of_ble_eq_true rfl⟩ ?_
    refine j_icmp_ge (tgt := 16) C (by decide) dX1_isBody_9 (fun hc3 => ?_) (fun hc3 => ?_)
    · replace h := (if_pos hc3).symm.trans h
      refine j_iconst (v := 0) C (by decide) dX1_isBody_16 ?_
      obtain rfl := Option.some.inj h
      exact j_iret C rfl (bo_nar (Or.inl rfl)) (Nat.le_refl _) (Nat.le_refl _) dX1_isBody_17
    · replace h := (if_neg hc3).symm.trans h
      refine j_iconst (v := 1) C (by decide) dX1_isBody_12 ?_
      refine j_goto (tgt := 17) C (by decide) dX1_isBody_13 ?_
      obtain rfl := Option.some.inj h
      exact j_iret C rfl (bo_nar (Or.inr rfl)) (Nat.le_refl _) (Nat.le_refl _) dX1_isBody_17
set_option maxRecDepth 100000 in
set_option maxHeartbeats 4000000 in
theorem c_X1_isBody {l : Launch} {g : Gc} {ad : Nat → Nat → Nat} {χ : Mem} {T : Nat → Mem} {σ : Mem} {a1 : Int32} {rr : Int32} (h : f_X1_isBody χ a1 = some rr) : Met l yX1_isBody (WS yX1_isBody cX1_isBody 2 (some .boolean)) rm_X1_isBody (PreW g ad χ T σ [.ref (ad 4 0), .int a1]) (PoI g ad χ T σ rr) 0 0 (geB g) := by
  refine j_metW (by decide) (Nat.le_of_ble_eq_true rfl) fun p e s m below meth c C hname => ?_
  rw [f_X1_isBody] at h
  exact j_sub [0, 1] rfl (t_X1_isBody_0 C a1 h)
set_option maxRecDepth 100000 in
set_option maxHeartbeats 4000000 in
theorem t_X1_areAllOne_0 {T : Nat → Mem} {σ : Mem} {χ : Mem} (C : Cx p s m args meth c cX1_areAllOne 2 RX1 (some .boolean) COM g) {rr : Int32} (h : f_X1_areAllOne_0 χ = some rr) : JJ p l e rm_X1_areAllOne s m args below meth c 2 g ad (MQ below (PoI g ad χ T σ rr) args s 0 0 (geB g)) χ T σ 0 0 [(0, .ref (ad 4 0))] 0 [] := by
  rw [f_X1_areAllOne_0] at h
  refine j_aload_n C 0 rfl rfl dX1_areAllOne_0 ?_
  refine j_getG C in_X1 (by decide) cw_4 rfl 0 (by decide) mw_231 (fun _ h => h) rfl dX1_areAllOne_1 ?_
  refine j_getG C in_X2 (by decide) cw_1 rfl 0 (by decide) mw_126 (fun _ h => h) rfl dX1_areAllOne_4 ?_
  refine j_lsize C (by decide) mw_573 ⟨Nat.le_of_ble_eq_true rfl, Nat.le_of_ble_eq_true rfl⟩ (Nat.le_of_ble_eq_true rfl) dX1_areAllOne_7 ⟨Nat.zero_le _, Nat.zero_le _⟩ ?_
  refine j_istore_n (L' := [(1, .int (gI χ 14 0)), (0, .ref (ad 4 0))]) C rfl (by decide) rfl dX1_areAllOne_12 ?_
  refine j_iload_n C 0 rfl rfl dX1_areAllOne_13 ?_
  refine j_iconst (v := 2) C (by decide) dX1_areAllOne_14 ?_
  refine j_icmp_lt (tgt := 33) C (by decide) dX1_areAllOne_15 (fun hc1 => ?_) (fun hc1 => ?_)
  · replace h := (if_pos hc1).symm.trans h
    refine j_iconst (v := 0) C (by decide) dX1_areAllOne_33 ?_
    obtain rfl := Option.some.inj h
    exact j_iret C rfl (bo_nar (Or.inl rfl)) (Nat.le_refl _) (Nat.le_refl _) dX1_areAllOne_34
  · replace h := (if_neg hc1).symm.trans h
    refine j_aload_n C 1 rfl rfl dX1_areAllOne_18 ?_
    refine j_getG C in_X1 (by decide) cw_4 rfl 4 (by decide) mw_235 (fun _ h => h) rfl dX1_areAllOne_19 ?_
    refine j_iload_n C 0 rfl rfl dX1_areAllOne_22 ?_
    obtain ⟨q2, hq2, h⟩ := bi_some h
    refine j_callSi (As := [.int (gI χ 14 0)]) (rest := [.int (gI χ 11 0)]) C (c_X1_mostRods hq2) (va_cwS 1 C.ts (good_S mw_596 mw_597 mw_71 mw_598) rfl rfl rfl (by decide +kernel) ⟨Nat.le_of_ble_eq_true rfl, Nat.le_of_ble_eq_true rfl⟩) rfl rfl (Nat.le_of_ble_eq_true rfl) dX1_areAllOne_23 ⟨Nat.le_of_ble_eq_true rfl, Nat.le_of_ble_eq_true rfl⟩ ?_
    refine j_icmp_ne (tgt := 33) C (by decide) dX1_areAllOne_26 (fun hc3 => ?_) (fun hc3 => ?_)
    · replace h := (if_neg hc3).symm.trans h
      refine j_iconst (v := 0) C (by decide) dX1_areAllOne_33 ?_
      obtain rfl := Option.some.inj h
      exact j_iret C rfl (bo_nar (Or.inl rfl)) (Nat.le_refl _) (Nat.le_refl _) dX1_areAllOne_34
    · replace h := (if_pos hc3).symm.trans h
      refine j_iconst (v := 1) C (by decide) dX1_areAllOne_29 ?_
      refine j_goto (tgt := 34) C (by decide) dX1_areAllOne_30 ?_
      obtain rfl := Option.some.inj h
      exact j_iret C rfl (bo_nar (Or.inr rfl)) (Nat.le_refl _) (Nat.le_refl _) dX1_areAllOne_34
set_option maxRecDepth 100000 in
set_option maxHeartbeats 4000000 in
theorem c_X1_areAllOne {l : Launch} {g : Gc} {ad : Nat → Nat → Nat} {χ : Mem} {T : Nat → Mem} {σ : Mem} {rr : Int32} (h : f_X1_areAllOne χ = some rr) : Met l yX1_areAllOne (WS yX1_areAllOne cX1_areAllOne 2 (some .boolean)) rm_X1_areAllOne (PreW g ad χ T σ [.ref (ad 4 0)]) (PoI g ad χ T σ rr) 0 0 (geB g) := by
  refine j_metW (by decide) (Nat.le_of_ble_eq_true rfl) fun p e s m below meth c C hname => ?_
  rw [f_X1_areAllOne] at h
  exact j_sub [0] rfl (t_X1_areAllOne_0 C h)
set_option maxRecDepth 100000 in
set_option maxHeartbeats 4000000 in
theorem t_X1_mostEven_25 {T : Nat → Mem} {σ : Mem} (C : Cx p s m args meth c cX1_mostEven 5 RX1 (some .int) COM g) {rr : Mem × Int32} : ∀ (n : Nat) (χ : Mem) (v1 : Int32) (v2 : Int32) (v3 : Int32) (h : f_X1_mostEven_25 n χ v1 v2 v3 = some rr), JJ p l e rm_X1_mostEven s m args below meth c 5 g ad (MQ below (PoI g ad (rr.1) T σ rr.2) args s 0 0 (geB g)) χ T σ 0 0 [(0, .ref (ad 4 0)), (1, .int v1), (2, .int v2), (3, .int v3)] 25 [] := by
  intro n
  induction n with
  | zero => intro χ v1 v2 v3  h; cases h
  | succ n ih =>
  intro χ v1 v2 v3  h
  rw [f_X1_mostEven_25] at h
  refine j_iload_n C 3 rfl rfl dX1_mostEven_25 ?_
  refine j_aload_n C 0 rfl rfl dX1_mostEven_26 ?_
  refine j_getG C in_X1 (by decide) cw_4 rfl 0 (by decide) mw_231 (fun _ h => h) rfl dX1_mostEven_27 ?_
  refine j_getG C in_X2 (by decide) cw_1 rfl 3 (by decide) mw_137 (fun _ h => h) rfl dX1_mostEven_30 ?_
  refine j_lsize C (by decide) mw_573 ⟨Nat.le_of_ble_eq_true rfl, Nat.le_of_ble_eq_true rfl⟩ (Nat.le_of_ble_eq_true rfl) dX1_mostEven_33 ⟨Nat.zero_le _, Nat.zero_le _⟩ ?_
  refine j_icmp_ge (tgt := 95) C (by decide) dX1_mostEven_38 (fun hc1 => ?_) (fun hc1 => ?_)
  · replace h := (if_pos hc1).symm.trans h
    refine j_iload_n C 2 rfl rfl dX1_mostEven_95 ?_
    obtain rfl := Option.some.inj h
    exact j_iret C rfl rfl (Nat.le_refl _) (Nat.le_refl _) dX1_mostEven_96
  · replace h := (if_neg hc1).symm.trans h
    refine j_aload_n C 0 rfl rfl dX1_mostEven_41 ?_
    refine j_getG C in_X1 (by decide) cw_4 rfl 0 (by decide) mw_231 (fun _ h => h) rfl dX1_mostEven_42 ?_
    refine j_getG C in_X2 (by decide) cw_1 rfl 3 (by decide) mw_137 (fun _ h => h) rfl dX1_mostEven_45 ?_
    refine j_iload_n C 3 rfl rfl dX1_mostEven_48 ?_
    obtain ⟨hg2, h⟩ := gd_some h
    refine j_wt (fun wt3 => ?_)
    refine j_lgetK (ek := 19) C (by decide) (by decide) hg2 mw_575 ⟨Nat.le_of_ble_eq_true rfl, Nat.le_of_ble_eq_true rfl⟩ (Nat.le_of_ble_eq_true rfl) dX1_mostEven_49 ⟨Nat.zero_le _, Nat.zero_le _⟩ ?_
    refine j_castS (q := (RX5, TX5, 6)) C mw_576 (by decide) (cw_19 (wt_19 wt3 (by decide) (by decide) hg2)) rfl dX1_mostEven_54 ?_
    obtain ⟨q4, hq4, h⟩ := bi_some h
    refine j_callSi (As := [.ref (ad 19 (gN χ 3 v3.toNatClampNeg))]) (rest := []) C (c_X1_endsOf (wt_19 wt3 (by decide) (by decide) hg2) hq4) (va_cwS 1 C.ts (good_S mw_577 mw_578 mw_71 mw_579) rfl rfl rfl (by decide +kernel) ⟨Nat.le_of_ble_eq_true rfl, Nat.le_of_ble_eq_true rfl⟩) rfl rfl (Nat.le_of_ble_eq_true rfl) dX1_mostEven_57 ⟨Nat.le_of_ble_eq_true rfl, Nat.le_of_ble_eq_true rfl⟩ ?_
    refine j_istore (L' := [(4, .int q4), (0, .ref (ad 4 0)), (1, .int v1), (2, .int v2), (3, .int v3)]) C (by decide) rfl dX1_mostEven_60 ?_
    refine j_iload_n C 2 rfl rfl dX1_mostEven_62 ?_
    refine j_iload C 0 rfl dX1_mostEven_63 ?_
    obtain ⟨q5, hq5, h⟩ := bi_some h
    refine j_callSi (As := [.int v1, .int q4]) (rest := []) C (c_X1_holds hq5) (va_cwS 2 C.ts (good_S mw_583 mw_584 mw_71 mw_585) rfl rfl rfl (by decide +kernel) ⟨Nat.le_of_ble_eq_true rfl, Nat.le_of_ble_eq_true rfl⟩) rfl rfl (Nat.le_of_ble_eq_true rfl) dX1_mostEven_65 ⟨Nat.le_of_ble_eq_true rfl, Nat.le_of_ble_eq_true rfl⟩ ?_
    refine j_if_eq (tgt := 89) C (by decide) dX1_mostEven_68 (fun hc6 => ?_) (fun hc6 => ?_)
    · replace h := (if_pos hc6).symm.trans h
      refine j_iinc (v := v3 + (1 : Int32)) (L' := [(3, .int (v3 + (1 : Int32))), (4, .int q4), (0, .ref (ad 4 0)), (1, .int v1), (2, .int v2)]) C 4 rfl rfl (by decide) rfl dX1_mostEven_89 ?_
      refine j_goto (tgt := 25) C (by decide) dX1_mostEven_92 ?_
      exact j_sub [2, 3, 4, 0] rfl (ih χ v1 v2 (v3 + (1 : Int32)) h)
    · replace h := (if_neg hc6).symm.trans h
      refine j_aload_n C 1 rfl rfl dX1_mostEven_71 ?_
      refine j_iload C 0 rfl dX1_mostEven_72 ?_
      obtain ⟨q7, hq7, h⟩ := bi_some h
      refine j_callVi (As := [.int q4]) (rest := []) C (c_X1_hasRoom hq7) (cwV 1 C.ts (good_V mw_586 mw_588 mw_15 mw_71 mw_589) rfl rfl rfl (by decide +kernel) ⟨Nat.le_of_ble_eq_true rfl, Nat.le_of_ble_eq_true rfl⟩) (fun H hW => CW.rv C.k hW (by decide) cw_4 rfl) rfl rfl (Nat.le_of_ble_eq_true rfl) dX1_mostEven_74 ⟨Nat.le_of_ble_eq_true rfl, Nat.le_of_ble_eq_true rfl⟩ ?_
      refine j_if_eq (tgt := 89) C (by decide) dX1_mostEven_77 (fun hc8 => ?_) (fun hc8 => ?_)
      · replace h := (if_pos hc8).symm.trans h
        refine j_iinc (v := v3 + (1 : Int32)) (L' := [(3, .int (v3 + (1 : Int32))), (4, .int q4), (0, .ref (ad 4 0)), (1, .int v1), (2, .int v2)]) C 4 rfl rfl (by decide) rfl dX1_mostEven_89 ?_
        refine j_goto (tgt := 25) C (by decide) dX1_mostEven_92 ?_
        exact j_sub [2, 3, 4, 0] rfl (ih χ v1 v2 (v3 + (1 : Int32)) h)
      · replace h := (if_neg hc8).symm.trans h
        refine j_aload_n C 1 rfl rfl dX1_mostEven_80 ?_
        refine j_iload C 0 rfl dX1_mostEven_81 ?_
        obtain ⟨q9, hq9, h⟩ := bi_some h
        refine j_callVv (As := [.int q4]) (rest := []) C (c_X1_choose hq9) (cwV 1 C.ts (good_V mw_599 mw_601 mw_16 mw_71 mw_602) rfl rfl rfl (by decide +kernel) ⟨Nat.le_of_ble_eq_true rfl, Nat.le_of_ble_eq_true rfl⟩) (fun H hW => CW.rv C.k hW (by decide) cw_4 rfl) rfl rfl (Nat.le_of_ble_eq_true rfl) dX1_mostEven_83 ⟨Nat.le_of_ble_eq_true rfl, Nat.le_of_ble_eq_true rfl⟩ ?_
        refine j_iinc (v := v2 + (1 : Int32)) (L' := [(2, .int (v2 + (1 : Int32))), (4, .int q4), (0, .ref (ad 4 0)), (1, .int v1), (3, .int v3)]) C 3 rfl rfl (by decide) rfl dX1_mostEven_86 ?_
        refine j_iinc (v := v3 + (1 : Int32)) (L' := [(3, .int (v3 + (1 : Int32))), (2, .int (v2 + (1 : Int32))), (4, .int q4), (0, .ref (ad 4 0)), (1, .int v1)]) C 4 rfl rfl (by decide) rfl dX1_mostEven_89 ?_
        refine j_goto (tgt := 25) C (by decide) dX1_mostEven_92 ?_
        exact j_sub [3, 4, 1, 0] rfl (ih q9 v1 (v2 + (1 : Int32)) (v3 + (1 : Int32)) h)
set_option maxRecDepth 100000 in
set_option maxHeartbeats 4000000 in
theorem t_X1_mostEven_2 {T : Nat → Mem} {σ : Mem} (C : Cx p s m args meth c cX1_mostEven 5 RX1 (some .int) COM g) {rr : Mem × Int32} : ∀ (n : Nat) (χ : Mem) (v1 : Int32) (v2 : Int32) (h : f_X1_mostEven_2 n χ v1 v2 = some rr), JJ p l e rm_X1_mostEven s m args below meth c 5 g ad (MQ below (PoI g ad (rr.1) T σ rr.2) args s 0 0 (geB g)) χ T σ 0 0 [(0, .ref (ad 4 0)), (1, .int v1), (2, .int v2)] 2 [] := by
  intro n
  induction n with
  | zero => intro χ v1 v2  h; cases h
  | succ n ih =>
  intro χ v1 v2  h
  rw [f_X1_mostEven_2] at h
  refine j_iload_n C 2 rfl rfl dX1_mostEven_2 ?_
  refine j_bipush (v := 64) C (by decide) dX1_mostEven_3 ?_
  refine j_icmp_ge (tgt := 21) C (by decide) dX1_mostEven_5 (fun hc1 => ?_) (fun hc1 => ?_)
  · replace h := (if_pos hc1).symm.trans h
    refine j_iconst (v := 0) C (by decide) dX1_mostEven_21 ?_
    refine j_istore_n (L' := [(2, .int (0 : Int32)), (0, .ref (ad 4 0)), (1, .int v1)]) C rfl (by decide) rfl dX1_mostEven_22 ?_
    refine j_iconst (v := 0) C (by decide) dX1_mostEven_23 ?_
    refine j_istore_n (L' := [(3, .int (0 : Int32)), (2, .int (0 : Int32)), (0, .ref (ad 4 0)), (1, .int v1)]) C rfl (by decide) rfl dX1_mostEven_24 ?_
    exact j_sub [2, 3, 1, 0] rfl (t_X1_mostEven_25 C FU χ v1 (0 : Int32) (0 : Int32) h)
  · replace h := (if_neg hc1).symm.trans h
    refine j_aload_n C 0 rfl rfl dX1_mostEven_8 ?_
    refine j_getG C in_X1 (by decide) cw_4 rfl 1 (by decide) mw_232 (fun _ h => h) rfl dX1_mostEven_9 ?_
    refine j_iload_n C 2 rfl rfl dX1_mostEven_12 ?_
    refine j_iconst (v := 0) C (by decide) dX1_mostEven_13 ?_
    obtain ⟨hg2, h⟩ := gd_some h
    refine j_iastP C (by decide) (po_chosen v2.toNatClampNeg (0 : Int32)) hg2 dX1_mostEven_14 ?_
    refine j_iinc (v := v2 + (1 : Int32)) (L' := [(2, .int (v2 + (1 : Int32))), (0, .ref (ad 4 0)), (1, .int v1)]) C 2 rfl rfl (by decide) rfl dX1_mostEven_15 ?_
    refine j_goto (tgt := 2) C (by decide) dX1_mostEven_18 ?_
    exact j_sub [1, 2, 0] rfl (ih (wI χ 12 v2.toNatClampNeg (0 : Int32)) v1 (v2 + (1 : Int32)) h)
set_option maxRecDepth 100000 in
set_option maxHeartbeats 4000000 in
theorem t_X1_mostEven_0 {T : Nat → Mem} {σ : Mem} (C : Cx p s m args meth c cX1_mostEven 5 RX1 (some .int) COM g) {rr : Mem × Int32} (χ : Mem) (a1 : Int32) (h : f_X1_mostEven_0 χ a1 = some rr) : JJ p l e rm_X1_mostEven s m args below meth c 5 g ad (MQ below (PoI g ad (rr.1) T σ rr.2) args s 0 0 (geB g)) χ T σ 0 0 [(0, .ref (ad 4 0)), (1, .int a1)] 0 [] := by
  rw [f_X1_mostEven_0] at h
  refine j_iconst (v := 0) C (by decide) dX1_mostEven_0 ?_
  refine j_istore_n (L' := [(2, .int (0 : Int32)), (0, .ref (ad 4 0)), (1, .int a1)]) C rfl (by decide) rfl dX1_mostEven_1 ?_
  exact j_sub [1, 2, 0] rfl (t_X1_mostEven_2 C FU χ a1 (0 : Int32) h)
set_option maxRecDepth 100000 in
set_option maxHeartbeats 4000000 in
theorem c_X1_mostEven {l : Launch} {g : Gc} {ad : Nat → Nat → Nat} {χ : Mem} {T : Nat → Mem} {σ : Mem} {a1 : Int32} {rr : Mem × Int32} (h : f_X1_mostEven χ a1 = some rr) : Met l yX1_mostEven (WS yX1_mostEven cX1_mostEven 5 (some .int)) rm_X1_mostEven (PreW g ad χ T σ [.ref (ad 4 0), .int a1]) (PoI g ad (rr.1) T σ rr.2) 0 0 (geB g) := by
  refine j_metW (by decide) (Nat.le_of_ble_eq_true rfl) fun p e s m below meth c C hname => ?_
  rw [f_X1_mostEven] at h
  exact j_sub [0, 1] rfl (t_X1_mostEven_0 C χ a1 h)
set_option maxRecDepth 100000 in
set_option maxHeartbeats 4000000 in
theorem t_X1_isWhole_0 {T : Nat → Mem} {σ : Mem} (C : Cx p s m args meth c cX1_isWhole 2 RX1 (some .boolean) COM g) {rr : Mem × Int32} (χ : Mem) (a1 : Int32) (h : f_X1_isWhole_0 χ a1 = some rr) : JJ p l e rm_X1_isWhole s m args below meth c 2 g ad (MQ below (PoI g ad (rr.1) T σ rr.2) args s 0 0 (geB g)) χ T σ 0 0 [(0, .ref (ad 4 0)), (1, .int a1)] 0 [] := by
  rw [f_X1_isWhole_0] at h
  refine j_aload_n C 0 rfl rfl dX1_isWhole_0 ?_
  refine j_iload_n C 1 rfl rfl dX1_isWhole_1 ?_
  obtain ⟨q1, hq1, h⟩ := bi_some h
  refine j_callVi (As := [.int a1]) (rest := []) C (c_X1_mostEven hq1) (cwV 1 C.ts (good_V mw_568 mw_570 mw_14 mw_71 mw_571) rfl rfl rfl (by decide +kernel) ⟨Nat.le_of_ble_eq_true rfl, Nat.le_of_ble_eq_true rfl⟩) (fun H hW => CW.rv C.k hW (by decide) cw_4 rfl) rfl rfl (Nat.le_of_ble_eq_true rfl) dX1_isWhole_2 ⟨Nat.le_of_ble_eq_true rfl, Nat.le_of_ble_eq_true rfl⟩ ?_
  refine j_iload_n C 1 rfl rfl dX1_isWhole_5 ?_
  obtain ⟨q2, hq2, h⟩ := bi_some h
  refine j_callSi (As := [.int a1]) (rest := [.int q1.2]) C (c_J6_bitCount_0f7a4 hq2) (va_cwS 1 C.ts (good_S mw_590 mw_591 mw_81 mw_592) rfl rfl rfl (by decide +kernel) ⟨Nat.le_of_ble_eq_true rfl, Nat.le_of_ble_eq_true rfl⟩) rfl rfl (Nat.le_of_ble_eq_true rfl) dX1_isWhole_6 ⟨Nat.le_of_ble_eq_true rfl, Nat.le_of_ble_eq_true rfl⟩ ?_
  obtain ⟨q3, hq3, h⟩ := bi_some h
  refine j_callSi (As := [.int q2]) (rest := [.int q1.2]) C (c_X1_mostRods hq3) (va_cwS 1 C.ts (good_S mw_596 mw_597 mw_71 mw_598) rfl rfl rfl (by decide +kernel) ⟨Nat.le_of_ble_eq_true rfl, Nat.le_of_ble_eq_true rfl⟩) rfl rfl (Nat.le_of_ble_eq_true rfl) dX1_isWhole_9 ⟨Nat.le_of_ble_eq_true rfl, Nat.le_of_ble_eq_true rfl⟩ ?_
  refine j_icmp_ne (tgt := 19) C (by decide) dX1_isWhole_12 (fun hc4 => ?_) (fun hc4 => ?_)
  · replace h := (if_neg hc4).symm.trans h
    refine j_iconst (v := 0) C (by decide) dX1_isWhole_19 ?_
    obtain rfl := Option.some.inj h
    exact j_iret C rfl (bo_nar (Or.inl rfl)) (Nat.le_refl _) (Nat.le_refl _) dX1_isWhole_20
  · replace h := (if_pos hc4).symm.trans h
    refine j_iconst (v := 1) C (by decide) dX1_isWhole_15 ?_
    refine j_goto (tgt := 20) C (by decide) dX1_isWhole_16 ?_
    obtain rfl := Option.some.inj h
    exact j_iret C rfl (bo_nar (Or.inr rfl)) (Nat.le_refl _) (Nat.le_refl _) dX1_isWhole_20
set_option maxRecDepth 100000 in
set_option maxHeartbeats 4000000 in
theorem c_X1_isWhole {l : Launch} {g : Gc} {ad : Nat → Nat → Nat} {χ : Mem} {T : Nat → Mem} {σ : Mem} {a1 : Int32} {rr : Mem × Int32} (h : f_X1_isWhole χ a1 = some rr) : Met l yX1_isWhole (WS yX1_isWhole cX1_isWhole 2 (some .boolean)) rm_X1_isWhole (PreW g ad χ T σ [.ref (ad 4 0), .int a1]) (PoI g ad (rr.1) T σ rr.2) 0 0 (geB g) := by
  refine j_metW (by decide) (Nat.le_of_ble_eq_true rfl) fun p e s m below meth c C hname => ?_
  rw [f_X1_isWhole] at h
  exact j_sub [0, 1] rfl (t_X1_isWhole_0 C χ a1 h)
set_option maxRecDepth 100000 in
set_option maxHeartbeats 4000000 in
theorem t_X1_renew_18 {T : Nat → Mem} {σ : Mem} (C : Cx p s m args meth c cX1_renew 2 RX1 none COM g) {rr : Mem} : ∀ (n : Nat) (χ : Mem) (v1 : Int32) (h : f_X1_renew_18 n χ v1 = some rr), JJ p l e rm_X1_renew s m args below meth c 2 g ad (MQ below (PoV g ad (rr) T σ) args s 0 0 (geB g)) χ T σ 0 0 [(0, .ref (ad 4 0)), (1, .int v1)] 18 [] := by
  intro n
  induction n with
  | zero => intro χ v1  h; cases h
  | succ n ih =>
  intro χ v1  h
  rw [f_X1_renew_18] at h
  refine j_iload_n C 1 rfl rfl dX1_renew_18 ?_
  refine j_if_le (tgt := 72) C (by decide) dX1_renew_19 (fun hc1 => ?_) (fun hc1 => ?_)
  · replace h := (if_pos hc1).symm.trans h
    obtain rfl := Option.some.inj h
    exact j_vret C rfl (Nat.le_refl _) (Nat.le_refl _) dX1_renew_72
  · replace h := (if_neg hc1).symm.trans h
    refine j_iload_n C 1 rfl rfl dX1_renew_22 ?_
    obtain ⟨q2, hq2, h⟩ := bi_some h
    refine j_callSi (As := [.int v1]) (rest := []) C (c_J6_bitCount_0f7a4 hq2) (va_cwS 1 C.ts (good_S mw_590 mw_591 mw_81 mw_592) rfl rfl rfl (by decide +kernel) ⟨Nat.le_of_ble_eq_true rfl, Nat.le_of_ble_eq_true rfl⟩) rfl rfl (Nat.le_of_ble_eq_true rfl) dX1_renew_23 ⟨Nat.le_of_ble_eq_true rfl, Nat.le_of_ble_eq_true rfl⟩ ?_
    refine j_iconst (v := 2) C (by decide) dX1_renew_26 ?_
    refine j_icmp_lt (tgt := 66) C (by decide) dX1_renew_27 (fun hc3 => ?_) (fun hc3 => ?_)
    · replace h := (if_pos hc3).symm.trans h
      refine j_iinc (v := v1 + (-1 : Int32)) (L' := [(1, .int (v1 + (-1 : Int32))), (0, .ref (ad 4 0))]) C 1 rfl (congrArg (fun z => v1 + z) (by decide)) (by decide) rfl dX1_renew_66 ?_
      refine j_goto (tgt := 18) C (by decide) dX1_renew_69 ?_
      exact j_sub [1, 0] rfl (ih χ (v1 + (-1 : Int32)) h)
    · replace h := (if_neg hc3).symm.trans h
      refine j_aload_n C 0 rfl rfl dX1_renew_30 ?_
      refine j_iload_n C 1 rfl rfl dX1_renew_31 ?_
      obtain ⟨q4, hq4, h⟩ := bi_some h
      refine j_callVi (As := [.int v1]) (rest := []) C (c_X1_isInBody hq4) (cwV 1 C.ts (good_V mw_603 mw_605 mw_17 mw_71 mw_606) rfl rfl rfl (by decide +kernel) ⟨Nat.le_of_ble_eq_true rfl, Nat.le_of_ble_eq_true rfl⟩) (fun H hW => CW.rv C.k hW (by decide) cw_4 rfl) rfl rfl (Nat.le_of_ble_eq_true rfl) dX1_renew_32 ⟨Nat.le_of_ble_eq_true rfl, Nat.le_of_ble_eq_true rfl⟩ ?_
      refine j_if_ne (tgt := 66) C (by decide) dX1_renew_35 (fun hc5 => ?_) (fun hc5 => ?_)
      · replace h := (if_neg hc5).symm.trans h
        refine j_iinc (v := v1 + (-1 : Int32)) (L' := [(1, .int (v1 + (-1 : Int32))), (0, .ref (ad 4 0))]) C 1 rfl (congrArg (fun z => v1 + z) (by decide)) (by decide) rfl dX1_renew_66 ?_
        refine j_goto (tgt := 18) C (by decide) dX1_renew_69 ?_
        exact j_sub [1, 0] rfl (ih χ (v1 + (-1 : Int32)) h)
      · replace h := (if_pos hc5).symm.trans h
        refine j_aload_n C 0 rfl rfl dX1_renew_38 ?_
        refine j_iload_n C 1 rfl rfl dX1_renew_39 ?_
        obtain ⟨q6, hq6, h⟩ := bi_some h
        refine j_callVi (As := [.int v1]) (rest := []) C (c_X1_isWhole hq6) (cwV 1 C.ts (good_V mw_607 mw_609 mw_18 mw_71 mw_610) rfl rfl rfl (by decide +kernel) ⟨Nat.le_of_ble_eq_true rfl, Nat.le_of_ble_eq_true rfl⟩) (fun H hW => CW.rv C.k hW (by decide) cw_4 rfl) rfl rfl (Nat.le_of_ble_eq_true rfl) dX1_renew_40 ⟨Nat.le_of_ble_eq_true rfl, Nat.le_of_ble_eq_true rfl⟩ ?_
        refine j_if_eq (tgt := 66) C (by decide) dX1_renew_43 (fun hc7 => ?_) (fun hc7 => ?_)
        · replace h := (if_pos hc7).symm.trans h
          refine j_iinc (v := v1 + (-1 : Int32)) (L' := [(1, .int (v1 + (-1 : Int32))), (0, .ref (ad 4 0))]) C 1 rfl (congrArg (fun z => v1 + z) (by decide)) (by decide) rfl dX1_renew_66 ?_
          refine j_goto (tgt := 18) C (by decide) dX1_renew_69 ?_
          exact j_sub [1, 0] rfl (ih q6.1 (v1 + (-1 : Int32)) h)
        · replace h := (if_neg hc7).symm.trans h
          refine j_aload_n C 0 rfl rfl dX1_renew_46 ?_
          refine j_getG C in_X1 (by decide) cw_4 rfl 2 (by decide) mw_233 (fun _ h => h) rfl dX1_renew_47 ?_
          refine j_aload_n C 0 rfl rfl dX1_renew_50 ?_
          refine j_getG C in_X1 (by decide) cw_4 rfl 3 (by decide) mw_234 (fun _ h => h) rfl dX1_renew_51 ?_
          refine j_iload_n C 1 rfl rfl dX1_renew_54 ?_
          obtain ⟨hg8, h⟩ := gd_some h
          refine j_iastP C (by decide) (po_found ((gI q6.1 10 0).toNatClampNeg) v1) hg8 dX1_renew_55 ?_
          refine j_aload_n C 0 rfl rfl dX1_renew_56 ?_
          refine j_dup C rfl dX1_renew_57 ?_
          refine j_getG C in_X1 (by decide) cw_4 rfl 3 (by decide) mw_234 (fun _ h => h) rfl dX1_renew_58 ?_
          refine j_iconst (v := 1) C (by decide) dX1_renew_61 ?_
          refine j_iadd C dX1_renew_62 ?_
          refine j_putI C in_X1 tyX1_ok nmX1 rfl 3 (by decide) (by decide) (po_Bodies_foundCount ((gI (wI q6.1 13 ((gI q6.1 10 0).toNatClampNeg) v1) 10 0) + (1 : Int32))) mw_234 (fun _ h => h) rfl (tyX1_ok 3 (by decide)) (Nat.le_of_ble_eq_true rfl) dX1_renew_63 ?_
          refine j_iinc (v := v1 + (-1 : Int32)) (L' := [(1, .int (v1 + (-1 : Int32))), (0, .ref (ad 4 0))]) C 1 rfl (congrArg (fun z => v1 + z) (by decide)) (by decide) rfl dX1_renew_66 ?_
          refine j_goto (tgt := 18) C (by decide) dX1_renew_69 ?_
          exact j_sub [1, 0] rfl (ih (wI (wI q6.1 13 ((gI q6.1 10 0).toNatClampNeg) v1) 10 0 ((gI (wI q6.1 13 ((gI q6.1 10 0).toNatClampNeg) v1) 10 0) + (1 : Int32))) (v1 + (-1 : Int32)) h)
set_option maxRecDepth 100000 in
set_option maxHeartbeats 4000000 in
theorem t_X1_renew_0 {T : Nat → Mem} {σ : Mem} (C : Cx p s m args meth c cX1_renew 2 RX1 none COM g) {rr : Mem} (χ : Mem) (h : f_X1_renew_0 χ = some rr) : JJ p l e rm_X1_renew s m args below meth c 2 g ad (MQ below (PoV g ad (rr) T σ) args s 0 0 (geB g)) χ T σ 0 0 [(0, .ref (ad 4 0))] 0 [] := by
  rw [f_X1_renew_0] at h
  refine j_aload_n C 0 rfl rfl dX1_renew_0 ?_
  refine j_aload_n C 0 rfl rfl dX1_renew_1 ?_
  refine j_bipush (v := 63) C (by decide) dX1_renew_2 ?_
  obtain ⟨q1, hq1, h⟩ := bi_some h
  refine j_callVi (As := [.int (63 : Int32)]) (rest := [.ref (ad 4 0)]) C (c_X1_mostEven hq1) (cwV 1 C.ts (good_V mw_568 mw_570 mw_14 mw_71 mw_571) rfl rfl rfl (by decide +kernel) ⟨Nat.le_of_ble_eq_true rfl, Nat.le_of_ble_eq_true rfl⟩) (fun H hW => CW.rv C.k hW (by decide) cw_4 rfl) rfl rfl (Nat.le_of_ble_eq_true rfl) dX1_renew_4 ⟨Nat.le_of_ble_eq_true rfl, Nat.le_of_ble_eq_true rfl⟩ ?_
  refine j_putI C in_X1 tyX1_ok nmX1 rfl 4 (by decide) (by decide) (po_Bodies_greatest q1.2) mw_235 (fun _ h => h) rfl (tyX1_ok 4 (by decide)) (Nat.le_of_ble_eq_true rfl) dX1_renew_7 ?_
  refine j_aload_n C 0 rfl rfl dX1_renew_10 ?_
  refine j_iconst (v := 0) C (by decide) dX1_renew_11 ?_
  refine j_putI C in_X1 tyX1_ok nmX1 rfl 3 (by decide) (by decide) (po_Bodies_foundCount (0 : Int32)) mw_234 (fun _ h => h) rfl (tyX1_ok 3 (by decide)) (Nat.le_of_ble_eq_true rfl) dX1_renew_12 ?_
  refine j_bipush (v := 63) C (by decide) dX1_renew_15 ?_
  refine j_istore_n (L' := [(1, .int (63 : Int32)), (0, .ref (ad 4 0))]) C rfl (by decide) rfl dX1_renew_17 ?_
  exact j_sub [1, 0] rfl (t_X1_renew_18 C FU (wI (wI q1.1 11 0 q1.2) 10 0 (0 : Int32)) (63 : Int32) h)
set_option maxRecDepth 100000 in
set_option maxHeartbeats 4000000 in
theorem c_X1_renew {l : Launch} {g : Gc} {ad : Nat → Nat → Nat} {χ : Mem} {T : Nat → Mem} {σ : Mem} {rr : Mem} (h : f_X1_renew χ = some rr) : Met l yX1_renew (WS yX1_renew cX1_renew 2 none) rm_X1_renew (PreW g ad χ T σ [.ref (ad 4 0)]) (PoV g ad (rr) T σ) 0 0 (geB g) := by
  refine j_metW (by decide) (Nat.le_of_ble_eq_true rfl) fun p e s m below meth c C hname => ?_
  rw [f_X1_renew] at h
  exact j_sub [0] rfl (t_X1_renew_0 C χ h)
set_option maxRecDepth 100000 in
set_option maxHeartbeats 4000000 in
theorem t_X1_pinOf_5 {T : Nat → Mem} {σ : Mem} {χ : Mem} (C : Cx p s m args meth c cX1_pinOf 5 RX1 (some .int) COM g) {rr : Int32} : ∀ (n : Nat) (v1 : Int32) (v3 : Int32) (v4 : Int32) (h : f_X1_pinOf_5 χ n v1 v3 v4 = some rr), JJ p l e rm_X1_pinOf s m args below meth c 5 g ad (MQ below (PoI g ad χ T σ rr) args s 0 0 (geB g)) χ T σ 0 0 [(0, .ref (ad 4 0)), (1, .int v1), (3, .int v3), (4, .int v4)] 5 [] := by
  intro n
  induction n with
  | zero => intro v1 v3 v4  h; cases h
  | succ n ih =>
  intro v1 v3 v4  h
  rw [f_X1_pinOf_5] at h
  refine j_iload C 3 rfl dX1_pinOf_5 ?_
  refine j_bipush (v := 6) C (by decide) dX1_pinOf_7 ?_
  refine j_icmp_ge (tgt := 53) C (by decide) dX1_pinOf_9 (fun hc1 => ?_) (fun hc1 => ?_)
  · replace h := (if_pos hc1).symm.trans h
    refine j_iconst (v := -1) C (by decide) dX1_pinOf_53 ?_
    obtain rfl := Option.some.inj h
    exact j_iret C rfl rfl (Nat.le_refl _) (Nat.le_refl _) dX1_pinOf_54
  · replace h := (if_neg hc1).symm.trans h
    refine j_aload_n C 0 rfl rfl dX1_pinOf_12 ?_
    refine j_iload_n C 1 rfl rfl dX1_pinOf_13 ?_
    obtain ⟨q2, hq2, h⟩ := bi_some h
    refine j_callVi (As := [.int v1]) (rest := []) C (c_X1_isBody hq2) (cwV 1 C.ts (good_V mw_866 mw_858 mw_859 mw_71 mw_860) rfl rfl rfl (by decide +kernel) ⟨Nat.le_of_ble_eq_true rfl, Nat.le_of_ble_eq_true rfl⟩) (fun H hW => CW.rv C.k hW (by decide) cw_4 rfl) rfl rfl (Nat.le_of_ble_eq_true rfl) dX1_pinOf_14 ⟨Nat.le_of_ble_eq_true rfl, Nat.le_of_ble_eq_true rfl⟩ ?_
    refine j_if_eq (tgt := 53) C (by decide) dX1_pinOf_17 (fun hc3 => ?_) (fun hc3 => ?_)
    · replace h := (if_pos hc3).symm.trans h
      refine j_iconst (v := -1) C (by decide) dX1_pinOf_53 ?_
      obtain rfl := Option.some.inj h
      exact j_iret C rfl rfl (Nat.le_refl _) (Nat.le_refl _) dX1_pinOf_54
    · replace h := (if_neg hc3).symm.trans h
      refine j_aload_n C 0 rfl rfl dX1_pinOf_20 ?_
      refine j_getG C in_X1 (by decide) cw_4 rfl 2 (by decide) mw_233 (fun _ h => h) rfl dX1_pinOf_21 ?_
      refine j_iload_n C 1 rfl rfl dX1_pinOf_24 ?_
      obtain ⟨hg4, h⟩ := gd_some h
      refine j_iald C (by decide) cw_7 hg4 dX1_pinOf_25 ?_
      refine j_iload C 3 rfl dX1_pinOf_26 ?_
      obtain ⟨q5, hq5, h⟩ := bi_some h
      refine j_callSi (As := [.int v4]) (rest := [.int (gI χ 13 v1.toNatClampNeg)]) C (c_X1_bitOf hq5) (va_cwS 1 C.ts (good_S mw_580 mw_581 mw_71 mw_582) rfl rfl rfl (by decide +kernel) ⟨Nat.le_of_ble_eq_true rfl, Nat.le_of_ble_eq_true rfl⟩) rfl rfl (Nat.le_of_ble_eq_true rfl) dX1_pinOf_28 ⟨Nat.le_of_ble_eq_true rfl, Nat.le_of_ble_eq_true rfl⟩ ?_
      obtain ⟨q6, hq6, h⟩ := bi_some h
      refine j_callSi (As := [.int (gI χ 13 v1.toNatClampNeg), .int q5]) (rest := []) C (c_X1_holds hq6) (va_cwS 2 C.ts (good_S mw_583 mw_584 mw_71 mw_585) rfl rfl rfl (by decide +kernel) ⟨Nat.le_of_ble_eq_true rfl, Nat.le_of_ble_eq_true rfl⟩) rfl rfl (Nat.le_of_ble_eq_true rfl) dX1_pinOf_31 ⟨Nat.le_of_ble_eq_true rfl, Nat.le_of_ble_eq_true rfl⟩ ?_
      refine j_if_eq (tgt := 47) C (by decide) dX1_pinOf_34 (fun hc7 => ?_) (fun hc7 => ?_)
      · replace h := (if_pos hc7).symm.trans h
        refine j_iinc (v := v4 + (1 : Int32)) (L' := [(4, .int (v4 + (1 : Int32))), (0, .ref (ad 4 0)), (1, .int v1), (3, .int v3)]) C 3 rfl rfl (by decide) rfl dX1_pinOf_47 ?_
        refine j_goto (tgt := 5) C (by decide) dX1_pinOf_50 ?_
        exact j_sub [1, 2, 3, 0] rfl (ih v1 v3 (v4 + (1 : Int32)) h)
      · replace h := (if_neg hc7).symm.trans h
        refine j_iload_n C 2 rfl rfl dX1_pinOf_37 ?_
        refine j_if_ne (tgt := 44) C (by decide) dX1_pinOf_38 (fun hc8 => ?_) (fun hc8 => ?_)
        · replace h := (if_neg hc8).symm.trans h
          refine j_iinc (v := v3 + (-1 : Int32)) (L' := [(3, .int (v3 + (-1 : Int32))), (0, .ref (ad 4 0)), (1, .int v1), (4, .int v4)]) C 2 rfl (congrArg (fun z => v3 + z) (by decide)) (by decide) rfl dX1_pinOf_44 ?_
          refine j_iinc (v := v4 + (1 : Int32)) (L' := [(4, .int (v4 + (1 : Int32))), (3, .int (v3 + (-1 : Int32))), (0, .ref (ad 4 0)), (1, .int v1)]) C 3 rfl rfl (by decide) rfl dX1_pinOf_47 ?_
          refine j_goto (tgt := 5) C (by decide) dX1_pinOf_50 ?_
          exact j_sub [2, 3, 1, 0] rfl (ih v1 (v3 + (-1 : Int32)) (v4 + (1 : Int32)) h)
        · replace h := (if_pos hc8).symm.trans h
          refine j_iload C 3 rfl dX1_pinOf_41 ?_
          obtain rfl := Option.some.inj h
          exact j_iret C rfl rfl (Nat.le_refl _) (Nat.le_refl _) dX1_pinOf_43
set_option maxRecDepth 100000 in
set_option maxHeartbeats 4000000 in
theorem t_X1_pinOf_0 {T : Nat → Mem} {σ : Mem} {χ : Mem} (C : Cx p s m args meth c cX1_pinOf 5 RX1 (some .int) COM g) {rr : Int32} (a1 : Int32) (a2 : Int32) (h : f_X1_pinOf_0 χ a1 a2 = some rr) : JJ p l e rm_X1_pinOf s m args below meth c 5 g ad (MQ below (PoI g ad χ T σ rr) args s 0 0 (geB g)) χ T σ 0 0 [(0, .ref (ad 4 0)), (1, .int a1), (2, .int a2)] 0 [] := by
  rw [f_X1_pinOf_0] at h
  refine j_iload_n C 2 rfl rfl dX1_pinOf_0 ?_
  refine j_istore_n (L' := [(3, .int a2), (0, .ref (ad 4 0)), (1, .int a1), (2, .int a2)]) C rfl (by decide) rfl dX1_pinOf_1 ?_
  refine j_iconst (v := 0) C (by decide) dX1_pinOf_2 ?_
  refine j_istore (L' := [(4, .int (0 : Int32)), (3, .int a2), (0, .ref (ad 4 0)), (1, .int a1), (2, .int a2)]) C (by decide) rfl dX1_pinOf_3 ?_
  exact j_sub [2, 3, 1, 0] rfl (t_X1_pinOf_5 C FU a1 a2 (0 : Int32) h)
set_option maxRecDepth 100000 in
set_option maxHeartbeats 4000000 in
theorem c_X1_pinOf {l : Launch} {g : Gc} {ad : Nat → Nat → Nat} {χ : Mem} {T : Nat → Mem} {σ : Mem} {a1 : Int32} {a2 : Int32} {rr : Int32} (h : f_X1_pinOf χ a1 a2 = some rr) : Met l yX1_pinOf (WS yX1_pinOf cX1_pinOf 5 (some .int)) rm_X1_pinOf (PreW g ad χ T σ [.ref (ad 4 0), .int a1, .int a2]) (PoI g ad χ T σ rr) 0 0 (geB g) := by
  refine j_metW (by decide) (Nat.le_of_ble_eq_true rfl) fun p e s m below meth c C hname => ?_
  rw [f_X1_pinOf] at h
  exact j_sub [0, 1, 2] rfl (t_X1_pinOf_0 C a1 a2 h)
end
