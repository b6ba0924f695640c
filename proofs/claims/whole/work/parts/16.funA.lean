abbrev rm_J6_bitCount_0f7a4 : Room := { frames := 0, cells := 0, slots := 0, locals := 0 }
def f_J6_bitCount_0f7a4_0 (a1 : Int32) : Option (Int32) :=
  some ((((((((a1 - (((a1.toUInt32 >>> ((1 : Int32).toUInt32 &&& Int32.toUInt32 31)).toInt32) &&& (1431655765 : Int32))) &&& (858993459 : Int32)) + ((((a1 - (((a1.toUInt32 >>> ((1 : Int32).toUInt32 &&& Int32.toUInt32 31)).toInt32) &&& (1431655765 : Int32))).toUInt32 >>> ((2 : Int32).toUInt32 &&& Int32.toUInt32 31)).toInt32) &&& (858993459 : Int32))) + (((((a1 - (((a1.toUInt32 >>> ((1 : Int32).toUInt32 &&& Int32.toUInt32 31)).toInt32) &&& (1431655765 : Int32))) &&& (858993459 : Int32)) + ((((a1 - (((a1.toUInt32 >>> ((1 : Int32).toUInt32 &&& Int32.toUInt32 31)).toInt32) &&& (1431655765 : Int32))).toUInt32 >>> ((2 : Int32).toUInt32 &&& Int32.toUInt32 31)).toInt32) &&& (858993459 : Int32))).toUInt32 >>> ((4 : Int32).toUInt32 &&& Int32.toUInt32 31)).toInt32)) &&& (252645135 : Int32)) + (((((((a1 - (((a1.toUInt32 >>> ((1 : Int32).toUInt32 &&& Int32.toUInt32 31)).toInt32) &&& (1431655765 : Int32))) &&& (858993459 : Int32)) + ((((a1 - (((a1.toUInt32 >>> ((1 : Int32).toUInt32 &&& Int32.toUInt32 31)).toInt32) &&& (1431655765 : Int32))).toUInt32 >>> ((2 : Int32).toUInt32 &&& Int32.toUInt32 31)).toInt32) &&& (858993459 : Int32))) + (((((a1 - (((a1.toUInt32 >>> ((1 : Int32).toUInt32 &&& Int32.toUInt32 31)).toInt32) &&& (1431655765 : Int32))) &&& (858993459 : Int32)) + ((((a1 - (((a1.toUInt32 >>> ((1 : Int32).toUInt32 &&& Int32.toUInt32 31)).toInt32) &&& (1431655765 : Int32))).toUInt32 >>> ((2 : Int32).toUInt32 &&& Int32.toUInt32 31)).toInt32) &&& (858993459 : Int32))).toUInt32 >>> ((4 : Int32).toUInt32 &&& Int32.toUInt32 31)).toInt32)) &&& (252645135 : Int32)).toUInt32 >>> ((8 : Int32).toUInt32 &&& Int32.toUInt32 31)).toInt32)) + ((((((((a1 - (((a1.toUInt32 >>> ((1 : Int32).toUInt32 &&& Int32.toUInt32 31)).toInt32) &&& (1431655765 : Int32))) &&& (858993459 : Int32)) + ((((a1 - (((a1.toUInt32 >>> ((1 : Int32).toUInt32 &&& Int32.toUInt32 31)).toInt32) &&& (1431655765 : Int32))).toUInt32 >>> ((2 : Int32).toUInt32 &&& Int32.toUInt32 31)).toInt32) &&& (858993459 : Int32))) + (((((a1 - (((a1.toUInt32 >>> ((1 : Int32).toUInt32 &&& Int32.toUInt32 31)).toInt32) &&& (1431655765 : Int32))) &&& (858993459 : Int32)) + ((((a1 - (((a1.toUInt32 >>> ((1 : Int32).toUInt32 &&& Int32.toUInt32 31)).toInt32) &&& (1431655765 : Int32))).toUInt32 >>> ((2 : Int32).toUInt32 &&& Int32.toUInt32 31)).toInt32) &&& (858993459 : Int32))).toUInt32 >>> ((4 : Int32).toUInt32 &&& Int32.toUInt32 31)).toInt32)) &&& (252645135 : Int32)) + (((((((a1 - (((a1.toUInt32 >>> ((1 : Int32).toUInt32 &&& Int32.toUInt32 31)).toInt32) &&& (1431655765 : Int32))) &&& (858993459 : Int32)) + ((((a1 - (((a1.toUInt32 >>> ((1 : Int32).toUInt32 &&& Int32.toUInt32 31)).toInt32) &&& (1431655765 : Int32))).toUInt32 >>> ((2 : Int32).toUInt32 &&& Int32.toUInt32 31)).toInt32) &&& (858993459 : Int32))) + (((((a1 - (((a1.toUInt32 >>> ((1 : Int32).toUInt32 &&& Int32.toUInt32 31)).toInt32) &&& (1431655765 : Int32))) &&& (858993459 : Int32)) + ((((a1 - (((a1.toUInt32 >>> ((1 : Int32).toUInt32 &&& Int32.toUInt32 31)).toInt32) &&& (1431655765 : Int32))).toUInt32 >>> ((2 : Int32).toUInt32 &&& Int32.toUInt32 31)).toInt32) &&& (858993459 : Int32))).toUInt32 >>> ((4 : Int32).toUInt32 &&& Int32.toUInt32 31)).toInt32)) &&& (252645135 : Int32)).toUInt32 >>> ((8 : Int32).toUInt32 &&& Int32.toUInt32 31)).toInt32)).toUInt32 >>> ((16 : Int32).toUInt32 &&& Int32.toUInt32 31)).toInt32)) &&& (63 : Int32))
def f_J6_bitCount_0f7a4 (a1 : Int32) : Option (Int32) :=
  f_J6_bitCount_0f7a4_0 a1
abbrev rm_J9_floorMod_7cf53 : Room := { frames := 0, cells := 0, slots := 0, locals := 0 }
def f_J9_floorMod_7cf53_0 (a1 : Int32) (a2 : Int32) : Option (Int32) :=
  (if a2 = 0 then none else (if 0 ≤ (a1 ^^^ a2) then some (a1 - a1 / a2 * a2) else (if (a1 - a1 / a2 * a2) = 0 then some (a1 - a1 / a2 * a2) else some ((a1 - a1 / a2 * a2) + a2))))
def f_J9_floorMod_7cf53 (a1 : Int32) (a2 : Int32) : Option (Int32) :=
  f_J9_floorMod_7cf53_0 a1 a2
abbrev rm_X5_endsAt : Room := { frames := 0, cells := 0, slots := 0, locals := 0 }
def f_X5_endsAt_0 (χ : Mem) (i0 : Nat) (a1 : Nat) : Option (Int32) :=
  (if (gN χ 6 i0) = a1 then some (1 : Int32) else (if (gN χ 7 i0) = a1 then some (1 : Int32) else some (0 : Int32)))
def f_X5_endsAt (χ : Mem) (i0 : Nat) (a1 : Nat) : Option (Int32) :=
  f_X5_endsAt_0 χ i0 a1
abbrev rm_X5_isOf : Room := { frames := 0, cells := 0, slots := 0, locals := 0 }
def f_X5_isOf_0 (χ : Mem) (i0 : Nat) (a1 : Int32) : Option (Int32) :=
  (if a1 = 0 then some (1 : Int32) else (if (gI χ 7 i0) = a1 then some (1 : Int32) else (if (gI χ 7 i0) = (4 : Int32) then (if a1 = (3 : Int32) then some (1 : Int32) else some (0 : Int32)) else some (0 : Int32))))
def f_X5_isOf (χ : Mem) (i0 : Nat) (a1 : Int32) : Option (Int32) :=
  f_X5_isOf_0 χ i0 a1
abbrev rm_X5_joins : Room := { frames := 0, cells := 0, slots := 0, locals := 0 }
def f_X5_joins_16 (χ : Mem) (i0 : Nat) (v1 : Nat) (v2 : Nat) : Option (Int32) :=
  (if (gN χ 6 i0) = v2 then (if (gN χ 7 i0) = v1 then some (1 : Int32) else some (0 : Int32)) else some (0 : Int32))
def f_X5_joins_0 (χ : Mem) (i0 : Nat) (a1 : Nat) (a2 : Nat) : Option (Int32) :=
  (if (gN χ 6 i0) = a1 then (if (gN χ 7 i0) = a2 then some (1 : Int32) else f_X5_joins_16 χ i0 a1 a2) else f_X5_joins_16 χ i0 a1 a2)
def f_X5_joins (χ : Mem) (i0 : Nat) (a1 : Nat) (a2 : Nat) : Option (Int32) :=
  f_X5_joins_0 χ i0 a1 a2
abbrev rm_X5_reach : Room := { frames := 1, cells := 0, slots := 0, locals := 21 }
def f_X5_reach_29 (χ : Mem) (i0 : Nat) (v1 : Nat) (v2 : Int32) (s0 : Nat) : Option (Int32) :=
  (if v2 = 0 then some ((gI χ 1 v1) - (gI χ 1 s0)) else some ((gI χ 2 v1) - (gI χ 2 s0)))
def f_X5_reach_0 (χ : Mem) (i0 : Nat) (a1 : Nat) (a2 : Int32) : Option (Int32) :=
  ((f_X5_endsAt χ i0 a1).bind fun q1 => (if q1 = 0 then some (0 : Int32) else (if a1 = (gN χ 6 i0) then f_X5_reach_29 χ i0 a1 a2 (gN χ 7 i0) else f_X5_reach_29 χ i0 a1 a2 (gN χ 6 i0))))
def f_X5_reach (χ : Mem) (i0 : Nat) (a1 : Nat) (a2 : Int32) : Option (Int32) :=
  f_X5_reach_0 χ i0 a1 a2
abbrev rm_X2_areJoined : Room := { frames := 3, cells := 0, slots := 0, locals := 65 }
def f_X2_areJoined_2 (χ : Mem) : Nat → Nat → Nat → Int32 → Option (Int32)
  | 0, _, _, _ => none
  | n + 1, v1, v2, v3 => (if (gI χ 14 1) ≤ v3 then some (0 : Int32) else (if inB v3 (lsz χ 1) = true then ((f_X5_joins χ (gN χ 1 v3.toNatClampNeg) v1 v2).bind fun q4 => (if q4 = 0 then f_X2_areJoined_2 χ n v1 v2 (v3 + (1 : Int32)) else some (1 : Int32))) else none))
def f_X2_areJoined_0 (χ : Mem) (a1 : Nat) (a2 : Nat) : Option (Int32) :=
  f_X2_areJoined_2 χ FU a1 a2 (0 : Int32)
def f_X2_areJoined (χ : Mem) (a1 : Nat) (a2 : Nat) : Option (Int32) :=
  f_X2_areJoined_0 χ a1 a2
abbrev rm_X2_isPin : Room := { frames := 1, cells := 0, slots := 0, locals := 20 }
def f_X2_isPin_0 (χ : Mem) (a1 : Int32) : Option (Int32) :=
  (if a1 < 0 then some (0 : Int32) else (if (gI χ 14 0) ≤ a1 then some (0 : Int32) else some (1 : Int32)))
def f_X2_isPin (χ : Mem) (a1 : Int32) : Option (Int32) :=
  f_X2_isPin_0 χ a1
abbrev rm_X2_isRod : Room := { frames := 1, cells := 0, slots := 0, locals := 20 }
def f_X2_isRod_0 (χ : Mem) (a1 : Int32) : Option (Int32) :=
  (if a1 < 0 then some (0 : Int32) else (if (gI χ 14 1) ≤ a1 then some (0 : Int32) else some (1 : Int32)))
def f_X2_isRod (χ : Mem) (a1 : Int32) : Option (Int32) :=
  f_X2_isRod_0 χ a1
abbrev rm_X2_pinAt : Room := { frames := 3, cells := 0, slots := 0, locals := 65 }
def f_X2_pinAt_2 (χ : Mem) : Nat → Int32 → Int32 → Int32 → Option (Option Nat)
  | 0, _, _, _ => none
  | n + 1, v1, v2, v3 => (if (gI χ 14 0) ≤ v3 then some none else (if inB v3 (lsz χ 0) = true then (if (gI χ 1 (gN χ 0 v3.toNatClampNeg)) = v1 then (if (gI χ 2 (gN χ 0 v3.toNatClampNeg)) = v2 then some (some (gN χ 0 v3.toNatClampNeg)) else f_X2_pinAt_2 χ n v1 v2 (v3 + (1 : Int32))) else f_X2_pinAt_2 χ n v1 v2 (v3 + (1 : Int32))) else none))
def f_X2_pinAt_0 (χ : Mem) (a1 : Int32) (a2 : Int32) : Option (Option Nat) :=
  f_X2_pinAt_2 χ FU a1 a2 (0 : Int32)
def f_X2_pinAt (χ : Mem) (a1 : Int32) (a2 : Int32) : Option (Option Nat) :=
  f_X2_pinAt_0 χ a1 a2
abbrev rm_X2_planeMotions : Room := { frames := 1, cells := 0, slots := 0, locals := 20 }
def f_X2_planeMotions_0 (χ : Mem) : Option (Int32) :=
  (if (gI χ 14 2) = 0 then some (0 : Int32) else (if ((gI χ 14 0) - (gI χ 14 2)) ≤ (1 : Int32) then (if ((gI χ 14 0) - (gI χ 14 2)) = (1 : Int32) then some (1 : Int32) else (if (gI χ 14 2) = (1 : Int32) then some (2 : Int32) else some (3 : Int32))) else some (0 : Int32)))
def f_X2_planeMotions (χ : Mem) : Option (Int32) :=
  f_X2_planeMotions_0 χ
abbrev rm_X2_rodsInAt : Room := { frames := 3, cells := 0, slots := 0, locals := 65 }
def f_X2_rodsInAt_4 (χ : Mem) : Nat → Nat → Int32 → Int32 → Option (Int32)
  | 0, _, _, _ => none
  | n + 1, v1, v2, v3 => (if (gI χ 14 3) ≤ v3 then some v2 else (if inB v3 (lsz χ 3) = true then ((f_X5_endsAt χ (gN χ 3 v3.toNatClampNeg) v1).bind fun q4 => (if q4 = 0 then f_X2_rodsInAt_4 χ n v1 v2 (v3 + (1 : Int32)) else f_X2_rodsInAt_4 χ n v1 (v2 + (1 : Int32)) (v3 + (1 : Int32)))) else none))
def f_X2_rodsInAt_0 (χ : Mem) (a1 : Nat) : Option (Int32) :=
  f_X2_rodsInAt_4 χ FU a1 (0 : Int32) (0 : Int32)
def f_X2_rodsInAt (χ : Mem) (a1 : Nat) : Option (Int32) :=
  f_X2_rodsInAt_0 χ a1
abbrev rm_X7_layRodsAsColumns : Room := { frames := 3, cells := 0, slots := 0, locals := 65 }
def f_X7_layRodsAsColumns_45 (χ : Mem) (k20 : Mem → Nat → Nat → Int32 → Option (Mem)) : Nat → Mem → Nat → Nat → Int32 → Nat → Int32 → Option (Mem)
  | 0, _, _, _, _, _, _ => none
  | n + 1, τ, v1, v2, v3, v4, v5 => (if (gI τ 4 0) ≤ v5 then (if inB v3 15 = true then (if (v3 - v3 / (2 : Int32) * (2 : Int32)) = 0 then (if inB (gI τ 4 0) 16 = true then k20 (wL τ v3.toNatClampNeg ((gI τ 4 0).toNatClampNeg) ((gI χ 4 v4).toInt64)) v1 v2 (v3 + (1 : Int32)) else none) else (if inB (gI τ 4 0) 16 = true then k20 (wL τ v3.toNatClampNeg ((gI τ 4 0).toNatClampNeg) ((gI χ 5 v4).toInt64)) v1 v2 (v3 + (1 : Int32)) else none)) else none) else (if inB v3 15 = true then (if inB v5 (lsz χ v1) = true then ((f_X5_reach χ (gN χ v1 v5.toNatClampNeg) v4 (v3 - v3 / (2 : Int32) * (2 : Int32))).bind fun q9 => (if inB v5 16 = true then f_X7_layRodsAsColumns_45 χ k20 n (wL τ v3.toNatClampNeg v5.toNatClampNeg q9.toInt64) v1 v2 v3 v4 (v5 + (1 : Int32)) else none)) else none) else none))
def f_X7_layRodsAsColumns_20 (χ : Mem) : Nat → Mem → Nat → Nat → Int32 → Option (Mem)
  | 0, _, _, _, _ => none
  | n + 1, τ, v1, v2, v3 => (if (gI τ 3 0) ≤ v3 then some τ else (if inB (v3 / (2 : Int32)) (lsz χ v2) = true then f_X7_layRodsAsColumns_45 χ (f_X7_layRodsAsColumns_20 χ n) FU τ v1 v2 v3 (gN χ v2 (v3 / (2 : Int32)).toNatClampNeg) (0 : Int32) else none))
def f_X7_layRodsAsColumns_0 (χ : Mem) (τ : Mem) (a1 : Nat) (a2 : Nat) : Option (Mem) :=
  ((f_X7_start τ ((2 : Int32) * (gI χ 14 a2)) (gI χ 14 a1)).bind fun q1 => f_X7_layRodsAsColumns_20 χ FU q1 a1 a2 (0 : Int32))
def f_X7_layRodsAsColumns (χ : Mem) (τ : Mem) (a1 : Nat) (a2 : Nat) : Option (Mem) :=
  f_X7_layRodsAsColumns_0 χ τ a1 a2
abbrev rm_X7_layRodsAsRows : Room := { frames := 3, cells := 0, slots := 0, locals := 65 }
def f_X7_layRodsAsRows_31 (χ : Mem) (k20 : Mem → Nat → Nat → Int32 → Option (Mem)) : Nat → Mem → Nat → Nat → Int32 → Int32 → Option (Mem)
  | 0, _, _, _, _, _ => none
  | n + 1, τ, v1, v2, v3, v4 => (if (gI τ 4 0) ≤ v4 then (if inB v3 15 = true then (if inB (gI τ 4 0) 16 = true then k20 (wL τ v3.toNatClampNeg ((gI τ 4 0).toNatClampNeg) (0 : Int64)) v1 v2 (v3 + (1 : Int32)) else none) else none) else (if inB v3 15 = true then (if inB v3 (lsz χ v1) = true then (if inB (v4 / (2 : Int32)) (lsz χ v2) = true then ((f_X5_reach χ (gN χ v1 v3.toNatClampNeg) (gN χ v2 (v4 / (2 : Int32)).toNatClampNeg) (v4 - v4 / (2 : Int32) * (2 : Int32))).bind fun q9 => (if inB v4 16 = true then f_X7_layRodsAsRows_31 χ k20 n (wL τ v3.toNatClampNeg v4.toNatClampNeg q9.toInt64) v1 v2 v3 (v4 + (1 : Int32)) else none)) else none) else none) else none))
def f_X7_layRodsAsRows_20 (χ : Mem) : Nat → Mem → Nat → Nat → Int32 → Option (Mem)
  | 0, _, _, _, _ => none
  | n + 1, τ, v1, v2, v3 => (if (gI τ 3 0) ≤ v3 then some τ else f_X7_layRodsAsRows_31 χ (f_X7_layRodsAsRows_20 χ n) FU τ v1 v2 v3 (0 : Int32))
def f_X7_layRodsAsRows_0 (χ : Mem) (τ : Mem) (a1 : Nat) (a2 : Nat) : Option (Mem) :=
  ((f_X7_start τ (gI χ 14 a1) ((2 : Int32) * (gI χ 14 a2))).bind fun q1 => f_X7_layRodsAsRows_20 χ FU q1 a1 a2 (0 : Int32))
def f_X7_layRodsAsRows (χ : Mem) (τ : Mem) (a1 : Nat) (a2 : Nat) : Option (Mem) :=
  f_X7_layRodsAsRows_0 χ τ a1 a2
abbrev rm_X0_isCarried : Room := { frames := 1, cells := 0, slots := 0, locals := 21 }
def f_X0_isCarried_0 (χ : Mem) (T : Nat → Mem) : Option (Int32) :=
  ((f_X7_hasSolution (T 1)).bind fun q1 => (if q1 = 0 ∨ q1 = 1 then some q1 else none))
def f_X0_isCarried (χ : Mem) (T : Nat → Mem) : Option (Int32) :=
  f_X0_isCarried_0 χ T
abbrev rm_X0_columnOf : Room := { frames := 3, cells := 0, slots := 0, locals := 65 }
def f_X0_columnOf_2 (χ : Mem) (T : Nat → Mem) : Nat → Nat → Int32 → Option (Int32)
  | 0, _, _ => none
  | n + 1, v1, v2 => (if (gI χ 14 3) ≤ v2 then some (-1 : Int32) else (if inB v2 (lsz χ 3) = true then (if (gN χ 3 v2.toNatClampNeg) = v1 then some v2 else f_X0_columnOf_2 χ T n v1 (v2 + (1 : Int32))) else none))
def f_X0_columnOf_0 (χ : Mem) (T : Nat → Mem) (a1 : Nat) : Option (Int32) :=
  f_X0_columnOf_2 χ T FU a1 (0 : Int32)
def f_X0_columnOf (χ : Mem) (T : Nat → Mem) (a1 : Nat) : Option (Int32) :=
  f_X0_columnOf_0 χ T a1
abbrev rm_X0_forceAbove : Room := { frames := 4, cells := 0, slots := 0, locals := 87 }
def f_X0_forceAbove_0 (χ : Mem) (T : Nat → Mem) (a1 : Nat) : Option (Int64) :=
  (if (gI χ 9 a1) = 0 then some (0 : Int64) else ((f_X0_columnOf χ T a1).bind fun q2 => ((f_X7_solutionAbove (T 1) q2).bind fun q3 => some q3)))
def f_X0_forceAbove (χ : Mem) (T : Nat → Mem) (a1 : Nat) : Option (Int64) :=
  f_X0_forceAbove_0 χ T a1
abbrev rm_X0_forceBelow : Room := { frames := 4, cells := 0, slots := 0, locals := 98 }
def f_X0_forceBelow_0 (χ : Mem) (T : Nat → Mem) (a1 : Nat) : Option (Int64) :=
  (if (gI χ 9 a1) = 0 then some (1 : Int64) else ((f_X0_columnOf χ T a1).bind fun q2 => ((f_X7_solutionBelow (T 1) q2).bind fun q3 => some q3)))
def f_X0_forceBelow (χ : Mem) (T : Nat → Mem) (a1 : Nat) : Option (Int64) :=
  f_X0_forceBelow_0 χ T a1
abbrev rm_X0_motionCount : Room := { frames := 1, cells := 0, slots := 0, locals := 20 }
def f_X0_motionCount_0 (χ : Mem) (T : Nat → Mem) : Option (Int32) :=
  ((f_X7_looseColumns (T 0)).bind fun q1 => some q1)
def f_X0_motionCount (χ : Mem) (T : Nat → Mem) : Option (Int32) :=
  f_X0_motionCount_0 χ T
abbrev rm_X0_motionNumber : Room := { frames := 3, cells := 0, slots := 0, locals := 65 }
def f_X0_motionNumber_3 (χ : Mem) (T : Nat → Mem) : Nat → Int32 → Nat → Int32 → Int32 → Option (Int64)
  | 0, _, _, _, _ => none
  | n + 1, v1, v2, v3, v4 => (if (gI χ 14 2) ≤ v4 then some (0 : Int64) else (if inB v4 (lsz χ 2) = true then (if (gN χ 2 v4.toNatClampNeg) = v2 then ((f_X7_answer (T 0) v1 (((2 : Int32) * v4) + v3)).bind fun q5 => some q5) else f_X0_motionNumber_3 χ T n v1 v2 v3 (v4 + (1 : Int32))) else none))
def f_X0_motionNumber_0 (χ : Mem) (T : Nat → Mem) (a1 : Int32) (a2 : Nat) (a3 : Int32) : Option (Int64) :=
  f_X0_motionNumber_3 χ T FU a1 a2 a3 (0 : Int32)
def f_X0_motionNumber (χ : Mem) (T : Nat → Mem) (a1 : Int32) (a2 : Nat) (a3 : Int32) : Option (Int64) :=
  f_X0_motionNumber_0 χ T a1 a2 a3
abbrev rm_X0_stressCount : Room := { frames := 1, cells := 0, slots := 0, locals := 20 }
def f_X0_stressCount_0 (χ : Mem) (T : Nat → Mem) : Option (Int32) :=
  ((f_X7_looseColumns (T 1)).bind fun q1 => some q1)
def f_X0_stressCount (χ : Mem) (T : Nat → Mem) : Option (Int32) :=
  f_X0_stressCount_0 χ T
abbrev rm_X0_stressNumber : Room := { frames := 4, cells := 0, slots := 0, locals := 87 }
def f_X0_stressNumber_0 (χ : Mem) (T : Nat → Mem) (a1 : Int32) (a2 : Nat) : Option (Int64) :=
  (if (gI χ 9 a2) = 0 then some (0 : Int64) else ((f_X0_columnOf χ T a2).bind fun q2 => ((f_X7_answer (T 1) a1 q2).bind fun q3 => some q3)))
def f_X0_stressNumber (χ : Mem) (T : Nat → Mem) (a1 : Int32) (a2 : Nat) : Option (Int64) :=
  f_X0_stressNumber_0 χ T a1 a2
abbrev rm_X0_workOf : Room := { frames := 3, cells := 0, slots := 0, locals := 65 }
def f_X0_workOf_5 (χ : Mem) (T : Nat → Mem) : Nat → Int32 → Int64 → Int32 → Option (Int64)
  | 0, _, _, _ => none
  | n + 1, v1, v2, v4 => (if (gI χ 14 2) ≤ v4 then some v2 else (if inB v4 (lsz χ 2) = true then ((f_X7_answer (T 0) v1 ((2 : Int32) * v4)).bind fun q4 => ((f_X7_answer (T 0) v1 (((2 : Int32) * v4) + (1 : Int32))).bind fun q5 => f_X0_workOf_5 χ T n v1 ((v2 + (q4 * ((gI χ 4 (gN χ 2 v4.toNatClampNeg)).toInt64))) + (q5 * ((gI χ 5 (gN χ 2 v4.toNatClampNeg)).toInt64))) (v4 + (1 : Int32)))) else none))
def f_X0_workOf_0 (χ : Mem) (T : Nat → Mem) (a1 : Int32) : Option (Int64) :=
  f_X0_workOf_5 χ T FU a1 (0 : Int64) (0 : Int32)
def f_X0_workOf (χ : Mem) (T : Nat → Mem) (a1 : Int32) : Option (Int64) :=
  f_X0_workOf_0 χ T a1
abbrev rm_X0_renew : Room := { frames := 5, cells := 0, slots := 0, locals := 126 }
def f_X0_renew_0 (χ : Mem) (T : Nat → Mem) : Option ((Mem × (Nat → Mem))) :=
  ((f_X7_layRodsAsRows χ (T 0) 3 2).bind fun q1 => ((f_X7_reduce ((stT T 0 q1) 0)).bind fun q2 => ((f_X7_layRodsAsColumns χ ((stT (stT T 0 q1) 0 q2) 1) 3 2).bind fun q3 => ((f_X7_reduce ((stT (stT (stT T 0 q1) 0 q2) 1 q3) 1)).bind fun q4 => some (χ, (stT (stT (stT (stT T 0 q1) 0 q2) 1 q3) 1 q4))))))
def f_X0_renew (χ : Mem) (T : Nat → Mem) : Option ((Mem × (Nat → Mem))) :=
  f_X0_renew_0 χ T
abbrev rm_X1_bitOf : Room := { frames := 0, cells := 0, slots := 0, locals := 0 }
def f_X1_bitOf_0 (a1 : Int32) : Option (Int32) :=
  some ((64 : Int32) >>> ((a1 + (1 : Int32)) &&& 31))
def f_X1_bitOf (a1 : Int32) : Option (Int32) :=
  f_X1_bitOf_0 a1
abbrev rm_X1_holds : Room := { frames := 0, cells := 0, slots := 0, locals := 0 }
def f_X1_holds_0 (a1 : Int32) (a2 : Int32) : Option (Int32) :=
  (if (a1 &&& a2) = a2 then some (1 : Int32) else some (0 : Int32))
def f_X1_holds (a1 : Int32) (a2 : Int32) : Option (Int32) :=
  f_X1_holds_0 a1 a2
abbrev rm_X1_isInBody : Room := { frames := 1, cells := 0, slots := 0, locals := 21 }
def f_X1_isInBody_2 (χ : Mem) : Nat → Int32 → Int32 → Option (Int32)
  | 0, _, _ => none
  | n + 1, v1, v2 => (if (gI χ 10 0) ≤ v2 then some (0 : Int32) else (if inB v2 64 = true then ((f_X1_holds (gI χ 13 v2.toNatClampNeg) v1).bind fun q3 => (if q3 = 0 then f_X1_isInBody_2 χ n v1 (v2 + (1 : Int32)) else some (1 : Int32))) else none))
def f_X1_isInBody_0 (χ : Mem) (a1 : Int32) : Option (Int32) :=
  f_X1_isInBody_2 χ FU a1 (0 : Int32)
def f_X1_isInBody (χ : Mem) (a1 : Int32) : Option (Int32) :=
  f_X1_isInBody_0 χ a1
abbrev rm_X1_surplus : Room := { frames := 1, cells := 0, slots := 0, locals := 20 }
def f_X1_surplus_0 (χ : Mem) : Option (Int32) :=
  some ((gI χ 14 3) - (gI χ 11 0))
def f_X1_surplus (χ : Mem) : Option (Int32) :=
  f_X1_surplus_0 χ
abbrev rm_X1_endsOf : Room := { frames := 1, cells := 0, slots := 0, locals := 20 }
def f_X1_endsOf_0 (χ : Mem) (a1 : Nat) : Option (Int32) :=
  ((f_X1_bitOf (gI χ 0 (gN χ 6 a1))).bind fun q2 => ((f_X1_bitOf (gI χ 0 (gN χ 7 a1))).bind fun q4 => some (q2 ||| q4)))
def f_X1_endsOf (χ : Mem) (a1 : Nat) : Option (Int32) :=
  f_X1_endsOf_0 χ a1
abbrev rm_X1_mostRods : Room := { frames := 0, cells := 0, slots := 0, locals := 0 }
def f_X1_mostRods_0 (a1 : Int32) : Option (Int32) :=
  some (((2 : Int32) * a1) - (3 : Int32))
def f_X1_mostRods (a1 : Int32) : Option (Int32) :=
  f_X1_mostRods_0 a1
abbrev rm_X1_isFilled : Room := { frames := 1, cells := 0, slots := 0, locals := 20 }
def f_X1_isFilled_0 (χ : Mem) (a1 : Int32) : Option (Int32) :=
  (if inB a1 64 = true then ((f_J6_bitCount_0f7a4 a1).bind fun q2 => ((f_X1_mostRods q2).bind fun q3 => (if (gI χ 12 a1.toNatClampNeg) < q3 then some (0 : Int32) else some (1 : Int32)))) else none)
def f_X1_isFilled (χ : Mem) (a1 : Int32) : Option (Int32) :=
  f_X1_isFilled_0 χ a1
abbrev rm_X1_hasRoom : Room := { frames := 2, cells := 0, slots := 0, locals := 41 }
def f_X1_hasRoom_2 (χ : Mem) : Nat → Int32 → Int32 → Option (Int32)
  | 0, _, _ => none
  | n + 1, v1, v2 => (if (64 : Int32) ≤ v2 then some (1 : Int32) else ((f_X1_holds v2 v1).bind fun q2 => (if q2 = 0 then f_X1_hasRoom_2 χ n v1 (v2 + (1 : Int32)) else ((f_X1_isFilled χ v2).bind fun q4 => (if q4 = 0 then f_X1_hasRoom_2 χ n v1 (v2 + (1 : Int32)) else some (0 : Int32))))))
def f_X1_hasRoom_0 (χ : Mem) (a1 : Int32) : Option (Int32) :=
  f_X1_hasRoom_2 χ FU a1 a1
def f_X1_hasRoom (χ : Mem) (a1 : Int32) : Option (Int32) :=
  f_X1_hasRoom_0 χ a1
abbrev rm_X1_choose : Room := { frames := 1, cells := 0, slots := 0, locals := 21 }
def f_X1_choose_2 : Nat → Mem → Int32 → Int32 → Option (Mem)
  | 0, _, _, _ => none
  | n + 1, χ, v1, v2 => (if (64 : Int32) ≤ v2 then some χ else ((f_X1_holds v2 v1).bind fun q2 => (if q2 = 0 then f_X1_choose_2 n χ v1 (v2 + (1 : Int32)) else (if inB v2 64 = true then f_X1_choose_2 n (wI χ 12 v2.toNatClampNeg ((gI χ 12 v2.toNatClampNeg) + (1 : Int32))) v1 (v2 + (1 : Int32)) else none))))
def f_X1_choose_0 (χ : Mem) (a1 : Int32) : Option (Mem) :=
  f_X1_choose_2 FU χ a1 a1
def f_X1_choose (χ : Mem) (a1 : Int32) : Option (Mem) :=
  f_X1_choose_0 χ a1
abbrev rm_X1_chooseRods : Room := { frames := 3, cells := 0, slots := 0, locals := 65 }
def f_X1_chooseRods_28 : Nat → Mem → Int32 → Option (Mem)
  | 0, _, _ => none
  | n + 1, χ, v1 => (if (gI χ 14 3) ≤ v1 then some χ else (if inB v1 (lsz χ 3) = true then ((f_X1_endsOf χ (gN χ 3 v1.toNatClampNeg)).bind fun q4 => ((f_X1_hasRoom χ q4).bind fun q5 => (if q5 = 0 then f_X1_chooseRods_28 n χ (v1 + (1 : Int32)) else ((f_X1_choose χ q4).bind fun q7 => f_X1_chooseRods_28 n (wI q7 11 0 ((gI q7 11 0) + (1 : Int32))) (v1 + (1 : Int32)))))) else none))
def f_X1_chooseRods_2 : Nat → Mem → Int32 → Option (Mem)
  | 0, _, _ => none
  | n + 1, χ, v1 => (if (64 : Int32) ≤ v1 then f_X1_chooseRods_28 FU (wI χ 11 0 (0 : Int32)) (0 : Int32) else (if inB v1 64 = true then f_X1_chooseRods_2 n (wI χ 12 v1.toNatClampNeg (0 : Int32)) (v1 + (1 : Int32)) else none))
def f_X1_chooseRods_0 (χ : Mem) : Option (Mem) :=
  f_X1_chooseRods_2 FU χ (0 : Int32)
def f_X1_chooseRods (χ : Mem) : Option (Mem) :=
  f_X1_chooseRods_0 χ
abbrev rm_X1_leastBodyOf : Room := { frames := 2, cells := 0, slots := 0, locals := 40 }
def f_X1_leastBodyOf_7 (χ : Mem) : Nat → Int32 → Int32 → Option (Int32)
  | 0, _, _ => none
  | n + 1, v2, v3 => (if (gI χ 10 0) ≤ v3 then some (-1 : Int32) else (if inB v3 64 = true then ((f_X1_holds (gI χ 13 v3.toNatClampNeg) v2).bind fun q3 => (if q3 = 0 then f_X1_leastBodyOf_7 χ n v2 (v3 + (1 : Int32)) else some v3)) else none))
def f_X1_leastBodyOf_0 (χ : Mem) (a1 : Nat) : Option (Int32) :=
  ((f_X1_endsOf χ a1).bind fun q1 => f_X1_leastBodyOf_7 χ FU q1 (0 : Int32))
def f_X1_leastBodyOf (χ : Mem) (a1 : Nat) : Option (Int32) :=
  f_X1_leastBodyOf_0 χ a1
abbrev rm_X1_bodyCount : Room := { frames := 0, cells := 0, slots := 0, locals := 0 }
def f_X1_bodyCount_0 (χ : Mem) : Option (Int32) :=
  some (gI χ 10 0)
def f_X1_bodyCount (χ : Mem) : Option (Int32) :=
  f_X1_bodyCount_0 χ
abbrev rm_X1_renew : Room := { frames := 4, cells := 0, slots := 0, locals := 87 }
def f_X1_renew_12 : Nat → Mem → Int32 → Option (Mem)
  | 0, _, _ => none
  | n + 1, χ, v1 => (if v1 ≤ 0 then some χ else ((f_J6_bitCount_0f7a4 v1).bind fun q2 => (if q2 < (2 : Int32) then f_X1_renew_12 n χ (v1 + (-1 : Int32)) else ((f_X1_isFilled χ v1).bind fun q4 => (if q4 = 0 then f_X1_renew_12 n χ (v1 + (-1 : Int32)) else ((f_X1_isInBody χ v1).bind fun q6 => (if q6 = 0 then (if inB (gI χ 10 0) 64 = true then f_X1_renew_12 n (wI (wI χ 13 ((gI χ 10 0).toNatClampNeg) v1) 10 0 ((gI (wI χ 13 ((gI χ 10 0).toNatClampNeg) v1) 10 0) + (1 : Int32))) (v1 + (-1 : Int32)) else none) else f_X1_renew_12 n χ (v1 + (-1 : Int32)))))))))
def f_X1_renew_0 (χ : Mem) : Option (Mem) :=
  ((f_X1_chooseRods χ).bind fun q1 => f_X1_renew_12 FU (wI q1 10 0 (0 : Int32)) (63 : Int32))
def f_X1_renew (χ : Mem) : Option (Mem) :=
  f_X1_renew_0 χ
abbrev rm_X3_holds : Room := { frames := 2, cells := 0, slots := 0, locals := 42 }
def f_X3_holds_0 (χ : Mem) (T : Nat → Mem) : Option (Int32) :=
  ((f_X7_rank (T 2)).bind fun q1 => ((f_X2_planeMotions χ).bind fun q2 => (if (((2 : Int32) * (gI χ 14 2)) - q1) = q2 then some (1 : Int32) else some (0 : Int32))))
def f_X3_holds (χ : Mem) (T : Nat → Mem) : Option (Int32) :=
  f_X3_holds_0 χ T
abbrev rm_X3_priceOfAll : Room := { frames := 3, cells := 0, slots := 0, locals := 65 }
def f_X3_priceOfAll_4 (χ : Mem) (T : Nat → Mem) : Nat → Int32 → Int32 → Option (Int32)
  | 0, _, _ => none
  | n + 1, v1, v2 => (if (gI χ 14 5) ≤ v2 then some v1 else (if inB v2 (lsz χ 5) = true then f_X3_priceOfAll_4 χ T n (v1 + (gI χ 8 (gN χ 5 v2.toNatClampNeg))) (v2 + (1 : Int32)) else none))
def f_X3_priceOfAll_0 (χ : Mem) (T : Nat → Mem) : Option (Int32) :=
  f_X3_priceOfAll_4 χ T FU (0 : Int32) (0 : Int32)
def f_X3_priceOfAll (χ : Mem) (T : Nat → Mem) : Option (Int32) :=
  f_X3_priceOfAll_0 χ T
abbrev rm_X3_takenRod : Room := { frames := 3, cells := 0, slots := 0, locals := 65 }
def f_X3_takenRod_0 (χ : Mem) (T : Nat → Mem) (a1 : Int32) : Option (Int32) :=
  (if a1 < 0 then some (-1 : Int32) else (if (gI χ 14 5) ≤ a1 then some (-1 : Int32) else (if inB a1 (lsz χ 5) = true then some (gI χ 6 (gN χ 5 a1.toNatClampNeg)) else none)))
def f_X3_takenRod (χ : Mem) (T : Nat → Mem) (a1 : Int32) : Option (Int32) :=
  f_X3_takenRod_0 χ T a1
abbrev rm_X10_isForce : Room := { frames := 0, cells := 0, slots := 0, locals := 0 }
def f_X10_isForce_0 (a1 : Int32) : Option (Int32) :=
  (if a1 < (-20 : Int32) then some (0 : Int32) else (if (20 : Int32) < a1 then some (0 : Int32) else some (1 : Int32)))
def f_X10_isForce (a1 : Int32) : Option (Int32) :=
  f_X10_isForce_0 a1
abbrev rm_X10_isPlace : Room := { frames := 0, cells := 0, slots := 0, locals := 0 }
def f_X10_isPlace_0 (a1 : Int32) (a2 : Int32) : Option (Int32) :=
  (if a1 < 0 then some (0 : Int32) else (if (5 : Int32) < a1 then some (0 : Int32) else (if a2 < 0 then some (0 : Int32) else (if (5 : Int32) < a2 then some (0 : Int32) else some (1 : Int32)))))
def f_X10_isPlace (a1 : Int32) (a2 : Int32) : Option (Int32) :=
  f_X10_isPlace_0 a1 a2
abbrev rm_X10_isPriceOf : Room := { frames := 0, cells := 0, slots := 0, locals := 0 }
def f_X10_isPriceOf_0 (a1 : Int32) (a2 : Int32) : Option (Int32) :=
  (if a1 = (3 : Int32) then (if a2 < (1 : Int32) then some (0 : Int32) else (if (1000 : Int32) < a2 then some (0 : Int32) else some (1 : Int32))) else (if a2 = 0 then some (1 : Int32) else some (0 : Int32)))
def f_X10_isPriceOf (a1 : Int32) (a2 : Int32) : Option (Int32) :=
  f_X10_isPriceOf_0 a1 a2
abbrev rm_X10_isTightAs : Room := { frames := 5, cells := 0, slots := 0, locals := 109 }
def f_X10_isTightAs_64 (χ : Mem) (T : Nat → Mem) (k2 : Int32 → Int32 → Option (Int32)) (v1 : Int32) (v2 : Int32) (v3 : Nat) (v4 : Int64) : Option (Int32) :=
  (if (gI χ 7 v3) = (2 : Int32) then (if v4 < (0 : Int64) then k2 v1 (v2 + (1 : Int32)) else some (0 : Int32)) else k2 v1 (v2 + (1 : Int32)))
def f_X10_isTightAs_2 (χ : Mem) (T : Nat → Mem) : Nat → Int32 → Int32 → Option (Int32)
  | 0, _, _ => none
  | n + 1, v1, v2 => (if (gI χ 14 3) ≤ v2 then some (1 : Int32) else (if inB v2 (lsz χ 3) = true then ((f_X0_stressNumber χ T (0 : Int32) (gN χ 3 v2.toNatClampNeg)).bind fun q4 => (if (gI χ 7 (gN χ 3 v2.toNatClampNeg)) = (1 : Int32) then (if (v1.toInt64 * q4) ≤ (0 : Int64) then some (0 : Int32) else f_X10_isTightAs_64 χ T (f_X10_isTightAs_2 χ T n) v1 v2 (gN χ 3 v2.toNatClampNeg) (v1.toInt64 * q4)) else f_X10_isTightAs_64 χ T (f_X10_isTightAs_2 χ T n) v1 v2 (gN χ 3 v2.toNatClampNeg) (v1.toInt64 * q4))) else none))
def f_X10_isTightAs_0 (χ : Mem) (T : Nat → Mem) (a1 : Int32) : Option (Int32) :=
  f_X10_isTightAs_2 χ T FU a1 (0 : Int32)
def f_X10_isTightAs (χ : Mem) (T : Nat → Mem) (a1 : Int32) : Option (Int32) :=
  f_X10_isTightAs_0 χ T a1
abbrev rm_X10_carry : Room := { frames := 2, cells := 0, slots := 0, locals := 41 }
def f_X10_carry_0 (χ : Mem) (T : Nat → Mem) : Option (Int32) :=
  ((f_X0_isCarried χ T).bind fun q1 => (if q1 = 0 then some (0 : Int32) else some (1 : Int32)))
def f_X10_carry (χ : Mem) (T : Nat → Mem) : Option (Int32) :=
  f_X10_carry_0 χ T
abbrev rm_X10_cheapest : Room := { frames := 4, cells := 0, slots := 0, locals := 87 }
def f_X10_cheapest_0 (χ : Mem) (T : Nat → Mem) : Option (Int32) :=
  ((f_X3_holds χ T).bind fun q1 => (if q1 = 0 then some (-1 : Int32) else ((f_X3_priceOfAll χ T).bind fun q3 => some q3)))
def f_X10_cheapest (χ : Mem) (T : Nat → Mem) : Option (Int32) :=
  f_X10_cheapest_0 χ T
abbrev rm_X10_force : Room := { frames := 5, cells := 0, slots := 0, locals := 119 }
def f_X10_force_0 (χ : Mem) (T : Nat → Mem) (a1 : Int32) (a2 : Int32) : Option (Int64) :=
  ((f_X2_isRod χ a1).bind fun q1 => (if q1 = 0 then some (-4611686018427387904 : Int64) else (if a2 < 0 then some (-4611686018427387904 : Int64) else (if (1 : Int32) < a2 then some (-4611686018427387904 : Int64) else ((f_X0_isCarried χ T).bind fun q5 => (if q5 = 0 then some (-4611686018427387904 : Int64) else (if inB a1 (lsz χ 1) = true then (if a2 = 0 then ((f_X0_forceAbove χ T (gN χ 1 a1.toNatClampNeg)).bind fun q11 => some q11) else ((f_X0_forceBelow χ T (gN χ 1 a1.toNatClampNeg)).bind fun q10 => some q10)) else none)))))))
def f_X10_force (χ : Mem) (T : Nat → Mem) (a1 : Int32) (a2 : Int32) : Option (Int64) :=
  f_X10_force_0 χ T a1 a2
abbrev rm_X10_gives : Room := { frames := 4, cells := 0, slots := 0, locals := 90 }
def f_X10_gives_2 (χ : Mem) (T : Nat → Mem) : Nat → Int32 → Option (Int32)
  | 0, _ => none
  | n + 1, v1 => ((f_X0_motionCount χ T).bind fun q1 => (if q1 ≤ v1 then some (-1 : Int32) else ((f_X0_workOf χ T v1).bind fun q3 => (if q3 = (0 : Int64) then f_X10_gives_2 χ T n (v1 + (1 : Int32)) else some v1))))
def f_X10_gives_0 (χ : Mem) (T : Nat → Mem) : Option (Int32) :=
  f_X10_gives_2 χ T FU (0 : Int32)
def f_X10_gives (χ : Mem) (T : Nat → Mem) : Option (Int32) :=
  f_X10_gives_0 χ T
abbrev rm_X10_pinTold : Room := { frames := 4, cells := 0, slots := 0, locals := 88 }
def f_X10_pinTold_0 (χ : Mem) (T : Nat → Mem) (a1 : Int32) (a2 : Int32) : Option (Int32) :=
  ((f_X2_isPin χ a1).bind fun q1 => (if q1 = 0 then some (-2 : Int32) else (if inB a1 (lsz χ 0) = true then (if a2.toInt < 0 ∨ 5 < a2.toInt then some (-2 : Int32) else (if a2 = (0 : Int32) then some (gI χ 1 (gN χ 0 a1.toNatClampNeg)) else (if a2 = (1 : Int32) then some (gI χ 2 (gN χ 0 a1.toNatClampNeg)) else (if a2 = (2 : Int32) then (if (gI χ 3 (gN χ 0 a1.toNatClampNeg)) = 0 then some (0 : Int32) else some (1 : Int32)) else (if a2 = (3 : Int32) then ((f_X2_rodsInAt χ (gN χ 0 a1.toNatClampNeg)).bind fun q11 => some q11) else (if a2 = (4 : Int32) then some (gI χ 4 (gN χ 0 a1.toNatClampNeg)) else (if a2 = (5 : Int32) then some (gI χ 5 (gN χ 0 a1.toNatClampNeg)) else none))))))) else none)))
def f_X10_pinTold (χ : Mem) (T : Nat → Mem) (a1 : Int32) (a2 : Int32) : Option (Int32) :=
  f_X10_pinTold_0 χ T a1 a2
abbrev rm_X10_plan : Room := { frames := 4, cells := 0, slots := 0, locals := 86 }
def f_X10_plan_0 (χ : Mem) (T : Nat → Mem) (a1 : Int32) : Option (Int32) :=
  ((f_X3_takenRod χ T a1).bind fun q1 => some q1)
def f_X10_plan (χ : Mem) (T : Nat → Mem) (a1 : Int32) : Option (Int32) :=
  f_X10_plan_0 χ T a1
abbrev rm_X10_stiff : Room := { frames := 2, cells := 0, slots := 0, locals := 42 }
def f_X10_stiff_0 (χ : Mem) (T : Nat → Mem) : Option (Int32) :=
  ((f_X0_motionCount χ T).bind fun q1 => ((f_X2_planeMotions χ).bind fun q2 => (if q1 = q2 then some (1 : Int32) else some (0 : Int32))))
def f_X10_stiff (χ : Mem) (T : Nat → Mem) : Option (Int32) :=
  f_X10_stiff_0 χ T
abbrev rm_X10_tight : Room := { frames := 6, cells := 0, slots := 0, locals := 134 }
def f_X10_tight_0 (χ : Mem) (T : Nat → Mem) : Option (Int32) :=
  ((f_X0_stressCount χ T).bind fun q1 => (if q1 = (1 : Int32) then ((f_X10_isTightAs χ T (1 : Int32)).bind fun q3 => (if q3 = 0 then ((f_X10_isTightAs χ T (-1 : Int32)).bind fun q5 => (if q5 = 0 then some (0 : Int32) else some (1 : Int32))) else some (1 : Int32))) else some (-1 : Int32)))
def f_X10_tight (χ : Mem) (T : Nat → Mem) : Option (Int32) :=
  f_X10_tight_0 χ T
abbrev rm_X9_done : Room := { frames := 0, cells := 0, slots := 0, locals := 0 }
def f_X9_done_0 (χ : Mem) (T : Nat → Mem) (a1 : Int32) : Option ((Mem × (Nat → Mem)) × Int32) :=
  some ((wI χ 15 0 (0 : Int32), T), a1)
def f_X9_done (χ : Mem) (T : Nat → Mem) (a1 : Int32) : Option ((Mem × (Nat → Mem)) × Int32) :=
  f_X9_done_0 χ T a1
abbrev rm_X9_isTray : Room := { frames := 0, cells := 0, slots := 0, locals := 0 }
def f_X9_isTray_0 (a1 : Int32) : Option (Int32) :=
  (if a1 < 0 then some (0 : Int32) else (if (6 : Int32) ≤ a1 then some (0 : Int32) else some (1 : Int32)))
def f_X9_isTray (a1 : Int32) : Option (Int32) :=
  f_X9_isTray_0 a1
abbrev rm_X9_latestStatus : Room := { frames := 0, cells := 0, slots := 0, locals := 0 }
def f_X9_latestStatus_0 (χ : Mem) (T : Nat → Mem) : Option (Int32) :=
  some (gI χ 15 0)
def f_X9_latestStatus (χ : Mem) (T : Nat → Mem) : Option (Int32) :=
  f_X9_latestStatus_0 χ T
abbrev rm_X9_refuse : Room := { frames := 0, cells := 0, slots := 0, locals := 0 }
def f_X9_refuse_0 (χ : Mem) (T : Nat → Mem) (a1 : Int32) : Option ((Mem × (Nat → Mem)) × Int32) :=
  some ((wI χ 15 0 a1, T), (-1 : Int32))
def f_X9_refuse (χ : Mem) (T : Nat → Mem) (a1 : Int32) : Option ((Mem × (Nat → Mem)) × Int32) :=
  f_X9_refuse_0 χ T a1
abbrev rm_X0_isMotion : Room := { frames := 2, cells := 0, slots := 0, locals := 40 }
def f_X0_isMotion_0 (χ : Mem) (T : Nat → Mem) (a1 : Int32) : Option (Int32) :=
  (if a1 < 0 then some (0 : Int32) else ((f_X0_motionCount χ T).bind fun q2 => (if q2 ≤ a1 then some (0 : Int32) else some (1 : Int32))))
def f_X0_isMotion (χ : Mem) (T : Nat → Mem) (a1 : Int32) : Option (Int32) :=
  f_X0_isMotion_0 χ T a1
abbrev rm_X0_isStress : Room := { frames := 2, cells := 0, slots := 0, locals := 40 }
def f_X0_isStress_0 (χ : Mem) (T : Nat → Mem) (a1 : Int32) : Option (Int32) :=
  (if a1 < 0 then some (0 : Int32) else ((f_X0_stressCount χ T).bind fun q2 => (if q2 ≤ a1 then some (0 : Int32) else some (1 : Int32))))
def f_X0_isStress (χ : Mem) (T : Nat → Mem) (a1 : Int32) : Option (Int32) :=
  f_X0_isStress_0 χ T a1
abbrev rm_X0_isNeeded : Room := { frames := 5, cells := 0, slots := 0, locals := 109 }
def f_X0_isNeeded_2 (χ : Mem) (T : Nat → Mem) : Nat → Nat → Int32 → Option (Int32)
  | 0, _, _ => none
  | n + 1, v1, v2 => ((f_X0_stressCount χ T).bind fun q1 => (if q1 ≤ v2 then (if (gI χ 9 v1) = 0 ∨ (gI χ 9 v1) = 1 then some (gI χ 9 v1) else none) else ((f_X0_stressNumber χ T v2 v1).bind fun q4 => (if q4 = (0 : Int64) then f_X0_isNeeded_2 χ T n v1 (v2 + (1 : Int32)) else some (0 : Int32)))))
def f_X0_isNeeded_0 (χ : Mem) (T : Nat → Mem) (a1 : Nat) : Option (Int32) :=
  f_X0_isNeeded_2 χ T FU a1 (0 : Int32)
def f_X0_isNeeded (χ : Mem) (T : Nat → Mem) (a1 : Nat) : Option (Int32) :=
  f_X0_isNeeded_0 χ T a1
abbrev rm_X1_isBody : Room := { frames := 1, cells := 0, slots := 0, locals := 20 }
def f_X1_isBody_0 (χ : Mem) (a1 : Int32) : Option (Int32) :=
  (if a1 < 0 then some (0 : Int32) else ((f_X1_bodyCount χ).bind fun q2 => (if q2 ≤ a1 then some (0 : Int32) else some (1 : Int32))))
def f_X1_isBody (χ : Mem) (a1 : Int32) : Option (Int32) :=
  f_X1_isBody_0 χ a1
abbrev rm_X1_areAllOne : Room := { frames := 1, cells := 0, slots := 0, locals := 20 }
def f_X1_areAllOne_0 (χ : Mem) : Option (Int32) :=
  (if (gI χ 14 0) < (2 : Int32) then some (0 : Int32) else ((f_X1_mostRods (gI χ 14 0)).bind fun q2 => (if (gI χ 11 0) = q2 then some (1 : Int32) else some (0 : Int32))))
def f_X1_areAllOne (χ : Mem) : Option (Int32) :=
  f_X1_areAllOne_0 χ
abbrev rm_X10_could : Room := { frames := 2, cells := 0, slots := 0, locals := 41 }
def f_X10_could_0 (χ : Mem) (T : Nat → Mem) : Option (Int32) :=
  ((f_X1_areAllOne χ).bind fun q1 => (if q1 = 0 then some (0 : Int32) else some (1 : Int32)))
def f_X10_could (χ : Mem) (T : Nat → Mem) : Option (Int32) :=
  f_X10_could_0 χ T
abbrev rm_X10_motion : Room := { frames := 4, cells := 0, slots := 0, locals := 89 }
def f_X10_motion_0 (χ : Mem) (T : Nat → Mem) (a1 : Int32) (a2 : Int32) (a3 : Int32) : Option (Int64) :=
  ((f_X2_isPin χ a2).bind fun q1 => (if q1 = 0 then some (-4611686018427387904 : Int64) else (if a3 < 0 then some (-4611686018427387904 : Int64) else (if (1 : Int32) < a3 then some (-4611686018427387904 : Int64) else ((f_X0_isMotion χ T a1).bind fun q5 => (if q5 = 0 then some (-4611686018427387904 : Int64) else (if inB a2 (lsz χ 0) = true then ((f_X0_motionNumber χ T a1 (gN χ 0 a2.toNatClampNeg) a3).bind fun q9 => some q9) else none)))))))
def f_X10_motion (χ : Mem) (T : Nat → Mem) (a1 : Int32) (a2 : Int32) (a3 : Int32) : Option (Int64) :=
  f_X10_motion_0 χ T a1 a2 a3
abbrev rm_X10_neededCount : Room := { frames := 6, cells := 0, slots := 0, locals := 131 }
def f_X10_neededCount_4 (χ : Mem) (T : Nat → Mem) : Nat → Int32 → Int32 → Option (Int32)
  | 0, _, _ => none
  | n + 1, v1, v2 => (if (gI χ 14 3) ≤ v2 then some v1 else (if inB v2 (lsz χ 3) = true then ((f_X0_isNeeded χ T (gN χ 3 v2.toNatClampNeg)).bind fun q4 => (if q4 = 0 then f_X10_neededCount_4 χ T n v1 (v2 + (1 : Int32)) else f_X10_neededCount_4 χ T n (v1 + (1 : Int32)) (v2 + (1 : Int32)))) else none))
def f_X10_neededCount_0 (χ : Mem) (T : Nat → Mem) : Option (Int32) :=
  f_X10_neededCount_4 χ T FU (0 : Int32) (0 : Int32)
def f_X10_neededCount (χ : Mem) (T : Nat → Mem) : Option (Int32) :=
  f_X10_neededCount_0 χ T
abbrev rm_X10_rodTold : Room := { frames := 6, cells := 0, slots := 0, locals := 131 }
def f_X10_rodTold_0 (χ : Mem) (T : Nat → Mem) (a1 : Int32) (a2 : Int32) : Option (Int32) :=
  ((f_X2_isRod χ a1).bind fun q1 => (if q1 = 0 then some (-2 : Int32) else (if inB a1 (lsz χ 1) = true then (if a2.toInt < 0 ∨ 6 < a2.toInt then some (-2 : Int32) else (if a2 = (0 : Int32) then some (gI χ 7 (gN χ 1 a1.toNatClampNeg)) else (if a2 = (1 : Int32) then some (gI χ 0 (gN χ 6 (gN χ 1 a1.toNatClampNeg))) else (if a2 = (2 : Int32) then some (gI χ 0 (gN χ 7 (gN χ 1 a1.toNatClampNeg))) else (if a2 = (3 : Int32) then some (gI χ 8 (gN χ 1 a1.toNatClampNeg)) else (if a2 = (4 : Int32) then (if (gI χ 9 (gN χ 1 a1.toNatClampNeg)) = 0 then some (0 : Int32) else some (1 : Int32)) else (if a2 = (5 : Int32) then ((f_X0_isNeeded χ T (gN χ 1 a1.toNatClampNeg)).bind fun q15 => (if q15 = 0 then some (0 : Int32) else some (1 : Int32))) else (if a2 = (6 : Int32) then ((f_X1_leastBodyOf χ (gN χ 1 a1.toNatClampNeg)).bind fun q18 => some q18) else none)))))))) else none)))
def f_X10_rodTold (χ : Mem) (T : Nat → Mem) (a1 : Int32) (a2 : Int32) : Option (Int32) :=
  f_X10_rodTold_0 χ T a1 a2
abbrev rm_X10_status : Room := { frames := 1, cells := 0, slots := 0, locals := 20 }
def f_X10_status_0 (χ : Mem) (T : Nat → Mem) : Option (Int32) :=
  ((f_X9_latestStatus χ T).bind fun q1 => some q1)
def f_X10_status (χ : Mem) (T : Nat → Mem) : Option (Int32) :=
  f_X10_status_0 χ T
abbrev rm_X10_stress : Room := { frames := 5, cells := 0, slots := 0, locals := 109 }
def f_X10_stress_0 (χ : Mem) (T : Nat → Mem) (a1 : Int32) (a2 : Int32) : Option (Int64) :=
  ((f_X2_isRod χ a2).bind fun q1 => (if q1 = 0 then some (-4611686018427387904 : Int64) else ((f_X0_isStress χ T a1).bind fun q3 => (if q3 = 0 then some (-4611686018427387904 : Int64) else (if inB a2 (lsz χ 1) = true then ((f_X0_stressNumber χ T a1 (gN χ 1 a2.toNatClampNeg)).bind fun q7 => some q7) else none)))))
def f_X10_stress (χ : Mem) (T : Nat → Mem) (a1 : Int32) (a2 : Int32) : Option (Int64) :=
  f_X10_stress_0 χ T a1 a2
abbrev rm_X1_pinOf : Room := { frames := 2, cells := 0, slots := 0, locals := 41 }
def f_X1_pinOf_5 (χ : Mem) : Nat → Int32 → Int32 → Int32 → Option (Int32)
  | 0, _, _, _ => none
  | n + 1, v1, v3, v4 => (if (6 : Int32) ≤ v4 then some (-1 : Int32) else ((f_X1_isBody χ v1).bind fun q2 => (if q2 = 0 then some (-1 : Int32) else (if inB v1 64 = true then ((f_X1_bitOf v4).bind fun q5 => ((f_X1_holds (gI χ 13 v1.toNatClampNeg) q5).bind fun q6 => (if q6 = 0 then f_X1_pinOf_5 χ n v1 v3 (v4 + (1 : Int32)) else (if v3 = 0 then some v4 else f_X1_pinOf_5 χ n v1 (v3 + (-1 : Int32)) (v4 + (1 : Int32)))))) else none))))
def f_X1_pinOf_0 (χ : Mem) (a1 : Int32) (a2 : Int32) : Option (Int32) :=
  f_X1_pinOf_5 χ FU a1 a2 (0 : Int32)
def f_X1_pinOf (χ : Mem) (a1 : Int32) (a2 : Int32) : Option (Int32) :=
  f_X1_pinOf_0 χ a1 a2
abbrev rm_X10_count : Room := { frames := 7, cells := 0, slots := 0, locals := 153 }
def f_X10_count_0 (χ : Mem) (T : Nat → Mem) (a1 : Int32) : Option (Int32) :=
  (if a1.toInt < 0 ∨ 9 < a1.toInt then some (-2 : Int32) else (if a1 = (0 : Int32) then some (gI χ 14 0) else (if a1 = (1 : Int32) then some (gI χ 14 2) else (if a1 = (2 : Int32) then some (gI χ 14 1) else (if a1 = (3 : Int32) then some (gI χ 14 3) else (if a1 = (4 : Int32) then ((f_X0_motionCount χ T).bind fun q7 => some q7) else (if a1 = (5 : Int32) then ((f_X0_stressCount χ T).bind fun q9 => some q9) else (if a1 = (6 : Int32) then ((f_X0_motionCount χ T).bind fun q11 => some (((2 : Int32) * (gI χ 14 2)) - q11)) else (if a1 = (7 : Int32) then ((f_X1_bodyCount χ).bind fun q13 => some q13) else (if a1 = (8 : Int32) then ((f_X1_surplus χ).bind fun q15 => some q15) else (if a1 = (9 : Int32) then ((f_X10_neededCount χ T).bind fun q17 => some q17) else none)))))))))))
def f_X10_count (χ : Mem) (T : Nat → Mem) (a1 : Int32) : Option (Int32) :=
  f_X10_count_0 χ T a1
abbrev rm_X10_body : Room := { frames := 3, cells := 0, slots := 0, locals := 65 }
def f_X10_body_0 (χ : Mem) (T : Nat → Mem) (a1 : Int32) (a2 : Int32) : Option (Int32) :=
  ((f_X1_isBody χ a1).bind fun q1 => (if q1 = 0 then some (-2 : Int32) else ((f_X1_pinOf χ a1 a2).bind fun q3 => some q3)))
def f_X10_body (χ : Mem) (T : Nat → Mem) (a1 : Int32) (a2 : Int32) : Option (Int32) :=
  f_X10_body_0 χ T a1 a2
section
variable {p : Program} {l : Launch} {e : Env} {s : State} {m : MethodId} {args : Array Value} {below : List Frame} {meth : Method} {c : Code} {g : Gc} {ad : Nat → Nat → Nat}
set_option maxRecDepth 100000 in
set_option maxHeartbeats 4000000 in
theorem t_J6_bitCount_0f7a4_0 {χ : Mem} {T : Nat → Mem} {σ : Mem} (C : Cx p s m args meth c cJ6_bitCount_0f7a4 1 RJ6 (some .int) COM g) {rr : Int32} (a1 : Int32) (h : f_J6_bitCount_0f7a4_0 a1 = some rr) : JJ p l e rm_J6_bitCount_0f7a4 s m args below meth c 1 g ad (MQ below (PoI g ad χ T σ rr) args s 0 0 (geB g)) χ T σ 0 0 [(0, .int a1)] 0 [] := by
  rw [f_J6_bitCount_0f7a4_0] at h
  refine j_iload_n C 0 rfl rfl dJ6_bitCount_0f7a4_0 ?_
  refine j_iload_n C 0 rfl rfl dJ6_bitCount_0f7a4_1 ?_
  refine j_iconst (v := 1) C (by decide) dJ6_bitCount_0f7a4_2 ?_
  refine j_iushr C dJ6_bitCount_0f7a4_3 ?_
  refine j_ldcwI (v := 1431655765) C mw_597 dJ6_bitCount_0f7a4_4 ?_
  refine j_iand C dJ6_bitCount_0f7a4_7 ?_
  refine j_isub C dJ6_bitCount_0f7a4_8 ?_
  refine j_istore_n (L' := [(0, .int (a1 - (((a1.toUInt32 >>> ((1 : Int32).toUInt32 &&& Int32.toUInt32 31)).toInt32) &&& (1431655765 : Int32))))]) C rfl (by decide) rfl dJ6_bitCount_0f7a4_9 ?_
  refine j_iload_n C 0 rfl rfl dJ6_bitCount_0f7a4_10 ?_
  refine j_ldcwI (v := 858993459) C mw_598 dJ6_bitCount_0f7a4_11 ?_
  refine j_iand C dJ6_bitCount_0f7a4_14 ?_
  refine j_iload_n C 0 rfl rfl dJ6_bitCount_0f7a4_15 ?_
  refine j_iconst (v := 2) C (by decide) dJ6_bitCount_0f7a4_16 ?_
  refine j_iushr C dJ6_bitCount_0f7a4_17 ?_
  refine j_ldcwI (v := 858993459) C mw_598 dJ6_bitCount_0f7a4_18 ?_
  refine j_iand C dJ6_bitCount_0f7a4_21 ?_
  refine j_iadd C dJ6_bitCount_0f7a4_22 ?_
  refine j_istore_n (L' := [(0, .int (((a1 - (((a1.toUInt32 >>> ((1 : Int32).toUInt32 &&& Int32.toUInt32 31)).toInt32) &&& (1431655765 : Int32))) &&& (858993459 : Int32)) + ((((a1 - (((a1.toUInt32 >>> ((1 : Int32).toUInt32 &&& Int32.toUInt32 31)).toInt32) &&& (1431655765 : Int32))).toUInt32 >>> ((2 : Int32).toUInt32 &&& Int32.toUInt32 31)).toInt32) &&& (858993459 : Int32))))]) C rfl (by decide) rfl dJ6_bitCount_0f7a4_23 ?_
  refine j_iload_n C 0 rfl rfl dJ6_bitCount_0f7a4_24 ?_
  refine j_iload_n C 0 rfl rfl dJ6_bitCount_0f7a4_25 ?_
  refine j_iconst (v := 4) C (by decide) dJ6_bitCount_0f7a4_26 ?_
  refine j_iushr C dJ6_bitCount_0f7a4_27 ?_
  refine j_iadd C dJ6_bitCount_0f7a4_28 ?_
  refine j_ldcwI (v := 252645135) C mw_599 dJ6_bitCount_0f7a4_29 ?_
  refine j_iand C dJ6_bitCount_0f7a4_32 ?_
  refine j_istore_n (L' := [(0, .int (((((a1 - (((a1.toUInt32 >>> ((1 : Int32).toUInt32 &&& Int32.toUInt32 31)).toInt32) &&& (1431655765 : Int32))) &&& (858993459 : Int32)) + ((((a1 - (((a1.toUInt32 >>> ((1 : Int32).toUInt32 &&& Int32.toUInt32 31)).toInt32) &&& (1431655765 : Int32))).toUInt32 >>> ((2 : Int32).toUInt32 &&& Int32.toUInt32 31)).toInt32) &&& (858993459 : Int32))) + (((((a1 - (((a1.toUInt32 >>> ((1 : Int32).toUInt32 &&& Int32.toUInt32 31)).toInt32) &&& (1431655765 : Int32))) &&& (858993459 : Int32)) + ((((a1 - (((a1.toUInt32 >>> ((1 : Int32).toUInt32 &&& Int32.toUInt32 31)).toInt32) &&& (1431655765 : Int32))).toUInt32 >>> ((2 : Int32).toUInt32 &&& Int32.toUInt32 31)).toInt32) &&& (858993459 : Int32))).toUInt32 >>> ((4 : Int32).toUInt32 &&& Int32.toUInt32 31)).toInt32)) &&& (252645135 : Int32)))]) C rfl (by decide) rfl dJ6_bitCount_0f7a4_33 ?_
  refine j_iload_n C 0 rfl rfl dJ6_bitCount_0f7a4_34 ?_
  refine j_iload_n C 0 rfl rfl dJ6_bitCount_0f7a4_35 ?_
  refine j_bipush (v := 8) C (by decide) dJ6_bitCount_0f7a4_36 ?_
  refine j_iushr C dJ6_bitCount_0f7a4_38 ?_
  refine j_iadd C dJ6_bitCount_0f7a4_39 ?_
  refine j_istore_n (L' := [(0, .int ((((((a1 - (((a1.toUInt32 >>> ((1 : Int32).toUInt32 &&& Int32.toUInt32 31)).toInt32) &&& (1431655765 : Int32))) &&& (858993459 : Int32)) + ((((a1 - (((a1.toUInt32 >>> ((1 : Int32).toUInt32 &&& Int32.toUInt32 31)).toInt32) &&& (1431655765 : Int32))).toUInt32 >>> ((2 : Int32).toUInt32 &&& Int32.toUInt32 31)).toInt32) &&& (858993459 : Int32))) + (((((a1 - (((a1.toUInt32 >>> ((1 : Int32).toUInt32 &&& Int32.toUInt32 31)).toInt32) &&& (1431655765 : Int32))) &&& (858993459 : Int32)) + ((((a1 - (((a1.toUInt32 >>> ((1 : Int32).toUInt32 &&& Int32.toUInt32 31)).toInt32) &&& (1431655765 : Int32))).toUInt32 >>> ((2 : Int32).toUInt32 &&& Int32.toUInt32 31)).toInt32) &&& (858993459 : Int32))).toUInt32 >>> ((4 : Int32).toUInt32 &&& Int32.toUInt32 31)).toInt32)) &&& (252645135 : Int32)) + (((((((a1 - (((a1.toUInt32 >>> ((1 : Int32).toUInt32 &&& Int32.toUInt32 31)).toInt32) &&& (1431655765 : Int32))) &&& (858993459 : Int32)) + ((((a1 - (((a1.toUInt32 >>> ((1 : Int32).toUInt32 &&& Int32.toUInt32 31)).toInt32) &&& (1431655765 : Int32))).toUInt32 >>> ((2 : Int32).toUInt32 &&& Int32.toUInt32 31)).toInt32) &&& (858993459 : Int32))) + (((((a1 - (((a1.toUInt32 >>> ((1 : Int32).toUInt32 &&& Int32.toUInt32 31)).toInt32) &&& (1431655765 : Int32))) &&& (858993459 : Int32)) + ((((a1 - (((a1.toUInt32 >>> ((1 : Int32).toUInt32 &&& Int32.toUInt32 31)).toInt32) &&& (1431655765 : Int32))).toUInt32 >>> ((2 : Int32).toUInt32 &&& Int32.toUInt32 31)).toInt32) &&& (858993459 : Int32))).toUInt32 >>> ((4 : Int32).toUInt32 &&& Int32.toUInt32 31)).toInt32)) &&& (252645135 : Int32)).toUInt32 >>> ((8 : Int32).toUInt32 &&& Int32.toUInt32 31)).toInt32)))]) C rfl (by decide) rfl dJ6_bitCount_0f7a4_40 ?_
  refine j_iload_n C 0 rfl rfl dJ6_bitCount_0f7a4_41 ?_
  refine j_iload_n C 0 rfl rfl dJ6_bitCount_0f7a4_42 ?_
  refine j_bipush (v := 16) C (by decide) dJ6_bitCount_0f7a4_43 ?_
  refine j_iushr C dJ6_bitCount_0f7a4_45 ?_
  refine j_iadd C dJ6_bitCount_0f7a4_46 ?_
  refine j_istore_n (L' := [(0, .int (((((((a1 - (((a1.toUInt32 >>> ((1 : Int32).toUInt32 &&& Int32.toUInt32 31)).toInt32) &&& (1431655765 : Int32))) &&& (858993459 : Int32)) + ((((a1 - (((a1.toUInt32 >>> ((1 : Int32).toUInt32 &&& Int32.toUInt32 31)).toInt32) &&& (1431655765 : Int32))).toUInt32 >>> ((2 : Int32).toUInt32 &&& Int32.toUInt32 31)).toInt32) &&& (858993459 : Int32))) + (((((a1 - (((a1.toUInt32 >>> ((1 : Int32).toUInt32 &&& Int32.toUInt32 31)).toInt32) &&& (1431655765 : Int32))) &&& (858993459 : Int32)) + ((((a1 - (((a1.toUInt32 >>> ((1 : Int32).toUInt32 &&& Int32.toUInt32 31)).toInt32) &&& (1431655765 : Int32))).toUInt32 >>> ((2 : Int32).toUInt32 &&& Int32.toUInt32 31)).toInt32) &&& (858993459 : Int32))).toUInt32 >>> ((4 : Int32).toUInt32 &&& Int32.toUInt32 31)).toInt32)) &&& (252645135 : Int32)) + (((((((a1 - (((a1.toUInt32 >>> ((1 : Int32).toUInt32 &&& Int32.toUInt32 31)).toInt32) &&& (1431655765 : Int32))) &&& (858993459 : Int32)) + ((((a1 - (((a1.toUInt32 >>> ((1 : Int32).toUInt32 &&& Int32.toUInt32 31)).toInt32) &&& (1431655765 : Int32))).toUInt32 >>> ((2 : Int32).toUInt32 &&& Int32.toUInt32 31)).toInt32) &&& (858993459 : Int32))) + (((((a1 - (((a1.toUInt32 >>> ((1 : Int32).toUInt32 &&& Int32.toUInt32 31)).toInt32) &&& (1431655765 : Int32))) &&& (858993459 : Int32)) + ((((a1 - (((a1.toUInt32 >>> ((1 : Int32).toUInt32 &&& Int32.toUInt32 31)).toInt32) &&& (1431655765 : Int32))).toUInt32 >>> ((2 : Int32).toUInt32 &&& Int32.toUInt32 31)).toInt32) &&& (858993459 : Int32))).toUInt32 >>> ((4 : Int32).toUInt32 &&& Int32.toUInt32 31)).toInt32)) &&& (252645135 : Int32)).toUInt32 >>> ((8 : Int32).toUInt32 &&& Int32.toUInt32 31)).toInt32)) + ((((((((a1 - (((a1.toUInt32 >>> ((1 : Int32).toUInt32 &&& Int32.toUInt32 31)).toInt32) &&& (1431655765 : Int32))) &&& (858993459 : Int32)) + ((((a1 - (((a1.toUInt32 >>> ((1 : Int32).toUInt32 &&& Int32.toUInt32 31)).toInt32) &&& (1431655765 : Int32))).toUInt32 >>> ((2 : Int32).toUInt32 &&& Int32.toUInt32 31)).toInt32) &&& (858993459 : Int32))) + (((((a1 - (((a1.toUInt32 >>> ((1 : Int32).toUInt32 &&& Int32.toUInt32 31)).toInt32) &&& (1431655765 : Int32))) &&& (858993459 : Int32)) + ((((a1 - (((a1.toUInt32 >>> ((1 : Int32).toUInt32 &&& Int32.toUInt32 31)).toInt32) &&& (1431655765 : Int32))).toUInt32 >>> ((2 : Int32).toUInt32 &&& Int32.toUInt32 31)).toInt32) &&& (858993459 : Int32))).toUInt32 >>> ((4 : Int32).toUInt32 &&& Int32.toUInt32 31)).toInt32)) &&& (252645135 : Int32)) + (((((((a1 - (((a1.toUInt32 >>> ((1 : Int32).toUInt32 &&& Int32.toUInt32 31)).toInt32) &&& (1431655765 : Int32))) &&& (858993459 : Int32)) + ((((a1 - (((a1.toUInt32 >>> ((1 : Int32).toUInt32 &&& Int32.toUInt32 31)).toInt32) &&& (1431655765 : Int32))).toUInt32 >>> ((2 : Int32).toUInt32 &&& Int32.toUInt32 31)).toInt32) &&& (858993459 : Int32))) + (((((a1 - (((a1.toUInt32 >>> ((1 : Int32).toUInt32 &&& Int32.toUInt32 31)).toInt32) &&& (1431655765 : Int32))) &&& (858993459 : Int32)) + ((((a1 - (((a1.toUInt32 >>> ((1 : Int32).toUInt32 &&& Int32.toUInt32 31)).toInt32) &&& (1431655765 : Int32))).toUInt32 >>> ((2 : Int32).toUInt32 &&& Int32.toUInt32 31)).toInt32) &&& (858993459 : Int32))).toUInt32 >>> ((4 : Int32).toUInt32 &&& Int32.toUInt32 31)).toInt32)) &&& (252645135 : Int32)).toUInt32 >>> ((8 : Int32).toUInt32 &&& Int32.toUInt32 31)).toInt32)).toUInt32 >>> ((16 : Int32).toUInt32 &&& Int32.toUInt32 31)).toInt32)))]) C rfl (by decide) rfl dJ6_bitCount_0f7a4_47 ?_
  refine j_iload_n C 0 rfl rfl dJ6_bitCount_0f7a4_48 ?_
  refine j_bipush (v := 63) C (by decide) dJ6_bitCount_0f7a4_49 ?_
  refine j_iand C dJ6_bitCount_0f7a4_51 ?_
  obtain rfl := Option.some.inj h
  exact j_iret C rfl rfl (Nat.le_refl _) (Nat.le_refl _) dJ6_bitCount_0f7a4_52
set_option maxRecDepth 100000 in
set_option maxHeartbeats 4000000 in
theorem c_J6_bitCount_0f7a4 {l : Launch} {g : Gc} {ad : Nat → Nat → Nat} {χ : Mem} {T : Nat → Mem} {σ : Mem} {a1 : Int32} {rr : Int32} (h : f_J6_bitCount_0f7a4 a1 = some rr) : Met l yJ6_bitCount_0f7a4 (WS yJ6_bitCount_0f7a4 cJ6_bitCount_0f7a4 1 (some .int)) rm_J6_bitCount_0f7a4 (PreW g ad χ T σ [.int a1]) (PoI g ad χ T σ rr) 0 0 (geB g) := by
  refine j_metW (by decide) (Nat.le_of_ble_eq_true rfl) fun p e s m below meth c C hname => ?_
  rw [f_J6_bitCount_0f7a4] at h
  exact j_sub [0] rfl (t_J6_bitCount_0f7a4_0 C a1 h)
set_option maxRecDepth 100000 in
set_option maxHeartbeats 4000000 in
theorem t_J9_floorMod_7cf53_0 {χ : Mem} {T : Nat → Mem} {σ : Mem} (C : Cx p s m args meth c cJ9_floorMod_7cf53 3 RJ9 (some .int) COM g) {rr : Int32} (a1 : Int32) (a2 : Int32) (h : f_J9_floorMod_7cf53_0 a1 a2 = some rr) : JJ p l e rm_J9_floorMod_7cf53 s m args below meth c 3 g ad (MQ below (PoI g ad χ T σ rr) args s 0 0 (geB g)) χ T σ 0 0 [(0, .int a1), (1, .int a2)] 0 [] := by
  rw [f_J9_floorMod_7cf53_0] at h
  refine j_iload_n C 0 rfl rfl dJ9_floorMod_7cf53_0 ?_
  refine j_iload_n C 1 rfl rfl dJ9_floorMod_7cf53_1 ?_
  obtain ⟨hg1, h⟩ := gz_some h
  refine j_irem C hg1 dJ9_floorMod_7cf53_2 ?_
  refine j_istore_n (L' := [(2, .int (a1 - a1 / a2 * a2)), (0, .int a1), (1, .int a2)]) C rfl (by decide) rfl dJ9_floorMod_7cf53_3 ?_
  refine j_iload_n C 1 rfl rfl dJ9_floorMod_7cf53_4 ?_
  refine j_iload_n C 2 rfl rfl dJ9_floorMod_7cf53_5 ?_
  refine j_ixor C dJ9_floorMod_7cf53_6 ?_
  refine j_if_ge (tgt := 18) C (by decide) dJ9_floorMod_7cf53_7 (fun hc2 => ?_) (fun hc2 => ?_)
  · replace h := (if_pos hc2).symm.trans h
    refine j_iload_n C 0 rfl rfl dJ9_floorMod_7cf53_18 ?_
    obtain rfl := Option.some.inj h
    exact j_iret C rfl rfl (Nat.le_refl _) (Nat.le_refl _) dJ9_floorMod_7cf53_19
  · replace h := (if_neg hc2).symm.trans h
    refine j_iload_n C 0 rfl rfl dJ9_floorMod_7cf53_10 ?_
    refine j_if_eq (tgt := 18) C (by decide) dJ9_floorMod_7cf53_11 (fun hc3 => ?_) (fun hc3 => ?_)
    · replace h := (if_pos hc3).symm.trans h
      refine j_iload_n C 0 rfl rfl dJ9_floorMod_7cf53_18 ?_
      obtain rfl := Option.some.inj h
      exact j_iret C rfl rfl (Nat.le_refl _) (Nat.le_refl _) dJ9_floorMod_7cf53_19
    · replace h := (if_neg hc3).symm.trans h
      refine j_iload_n C 0 rfl rfl dJ9_floorMod_7cf53_14 ?_
      refine j_iload_n C 2 rfl rfl dJ9_floorMod_7cf53_15 ?_
      refine j_iadd C dJ9_floorMod_7cf53_16 ?_
      obtain rfl := Option.some.inj h
      exact j_iret C rfl rfl (Nat.le_refl _) (Nat.le_refl _) dJ9_floorMod_7cf53_17
set_option maxRecDepth 100000 in
set_option maxHeartbeats 4000000 in
theorem c_J9_floorMod_7cf53 {l : Launch} {g : Gc} {ad : Nat → Nat → Nat} {χ : Mem} {T : Nat → Mem} {σ : Mem} {a1 : Int32} {a2 : Int32} {rr : Int32} (h : f_J9_floorMod_7cf53 a1 a2 = some rr) : Met l yJ9_floorMod_7cf53 (WS yJ9_floorMod_7cf53 cJ9_floorMod_7cf53 3 (some .int)) rm_J9_floorMod_7cf53 (PreW g ad χ T σ [.int a1, .int a2]) (PoI g ad χ T σ rr) 0 0 (geB g) := by
  refine j_metWF (by decide +kernel) (Nat.le_of_ble_eq_true rfl) fun p e s m below meth c C hname => ?_
  rw [f_J9_floorMod_7cf53] at h
  exact j_sub [0, 1] rfl (t_J9_floorMod_7cf53_0 C a1 a2 h)
set_option maxRecDepth 100000 in
set_option maxHeartbeats 4000000 in
theorem t_X5_endsAt_0 {T : Nat → Mem} {σ : Mem} {χ : Mem} {i0 : Nat} (C : Cx p s m args meth c cX5_endsAt 2 RX5 (some .boolean) COM g) (hi0 : i0 < gN χ 8 1) {rr : Int32} (a1 : Nat) (ha1 : a1 < gN χ 8 0) (h : f_X5_endsAt_0 χ i0 a1 = some rr) : JJ p l e rm_X5_endsAt s m args below meth c 2 g ad (MQ below (PoI g ad χ T σ rr) args s 0 0 (geB g)) χ T σ 0 0 [(0, .ref (ad 19 i0)), (1, .ref (ad 18 a1))] 0 [] := by
  rw [f_X5_endsAt_0] at h
  refine j_aload_n C 0 rfl rfl dX5_endsAt_0 ?_
  refine j_getG C in_X5 (by decide) (cw_19 (χ := χ) hi0) rfl 2 (by decide) mw_650 (fun _ h => h) rfl dX5_endsAt_1 ?_
  refine j_wt (fun wt1 => ?_)
  refine j_aload_n C 1 rfl rfl dX5_endsAt_4 ?_
  refine j_acmp_eq (tgt := 16) C (by decide) (cw_18 (χ := χ) (wt1.2.1 _ hi0).1) (cw_18 (χ := χ) ha1) (by decide) dX5_endsAt_5 (fun hc2 => ?_) (fun hc2 => ?_)
  · replace h := (if_pos hc2).symm.trans h
    refine j_iconst (v := 1) C (by decide) dX5_endsAt_16 ?_
    refine j_goto (tgt := 21) C (by decide) dX5_endsAt_17 ?_
    obtain rfl := Option.some.inj h
    exact j_iret C rfl (bo_nar (Or.inr rfl)) (Nat.le_refl _) (Nat.le_refl _) dX5_endsAt_21
  · replace h := (if_neg hc2).symm.trans h
    refine j_aload_n C 0 rfl rfl dX5_endsAt_8 ?_
    refine j_getG C in_X5 (by decide) (cw_19 (χ := χ) hi0) rfl 3 (by decide) mw_654 (fun _ h => h) rfl dX5_endsAt_9 ?_
    refine j_wt (fun wt3 => ?_)
    refine j_aload_n C 1 rfl rfl dX5_endsAt_12 ?_
    refine j_acmp_ne (tgt := 20) C (by decide) (cw_18 (χ := χ) (wt3.2.1 _ hi0).2) (cw_18 (χ := χ) ha1) (by decide) dX5_endsAt_13 (fun hc4 => ?_) (fun hc4 => ?_)
    · replace h := (if_neg hc4).symm.trans h
      refine j_iconst (v := 0) C (by decide) dX5_endsAt_20 ?_
      obtain rfl := Option.some.inj h
      exact j_iret C rfl (bo_nar (Or.inl rfl)) (Nat.le_refl _) (Nat.le_refl _) dX5_endsAt_21
    · replace h := (if_pos hc4).symm.trans h
      refine j_iconst (v := 1) C (by decide) dX5_endsAt_16 ?_
      refine j_goto (tgt := 21) C (by decide) dX5_endsAt_17 ?_
      obtain rfl := Option.some.inj h
      exact j_iret C rfl (bo_nar (Or.inr rfl)) (Nat.le_refl _) (Nat.le_refl _) dX5_endsAt_21
set_option maxRecDepth 100000 in
set_option maxHeartbeats 4000000 in
theorem c_X5_endsAt {l : Launch} {g : Gc} {ad : Nat → Nat → Nat} {χ : Mem} {T : Nat → Mem} {σ : Mem} {i0 : Nat} {a1 : Nat} (hi0 : i0 < gN χ 8 1) (ha1 : a1 < gN χ 8 0) {rr : Int32} (h : f_X5_endsAt χ i0 a1 = some rr) : Met l yX5_endsAt (WS yX5_endsAt cX5_endsAt 2 (some .boolean)) rm_X5_endsAt (PreW g ad χ T σ [.ref (ad 19 i0), .ref (ad 18 a1)]) (PoI g ad χ T σ rr) 0 0 (geB g) := by
  refine j_metW (by decide) (Nat.le_of_ble_eq_true rfl) fun p e s m below meth c C hname => ?_
  rw [f_X5_endsAt] at h
  exact j_sub [0, 1] rfl (t_X5_endsAt_0 C hi0 a1 ha1 h)
set_option maxRecDepth 100000 in
set_option maxHeartbeats 4000000 in
theorem t_X5_isOf_0 {T : Nat → Mem} {σ : Mem} {χ : Mem} {i0 : Nat} (C : Cx p s m args meth c cX5_isOf 2 RX5 (some .boolean) COM g) (hi0 : i0 < gN χ 8 1) {rr : Int32} (a1 : Int32) (h : f_X5_isOf_0 χ i0 a1 = some rr) : JJ p l e rm_X5_isOf s m args below meth c 2 g ad (MQ below (PoI g ad χ T σ rr) args s 0 0 (geB g)) χ T σ 0 0 [(0, .ref (ad 19 i0)), (1, .int a1)] 0 [] := by
  rw [f_X5_isOf_0] at h
  refine j_iload_n C 1 rfl rfl dX5_isOf_0 ?_
  refine j_if_eq (tgt := 25) C (by decide) dX5_isOf_1 (fun hc1 => ?_) (fun hc1 => ?_)
  · replace h := (if_pos hc1).symm.trans h
    refine j_iconst (v := 1) C (by decide) dX5_isOf_25 ?_
    refine j_goto (tgt := 30) C (by decide) dX5_isOf_26 ?_
    obtain rfl := Option.some.inj h
    exact j_iret C rfl (bo_nar (Or.inr rfl)) (Nat.le_refl _) (Nat.le_refl _) dX5_isOf_30
  · replace h := (if_neg hc1).symm.trans h
    refine j_aload_n C 0 rfl rfl dX5_isOf_4 ?_
    refine j_getG C in_X5 (by decide) (cw_19 (χ := χ) hi0) rfl 1 (by decide) mw_648 (fun _ h => h) rfl dX5_isOf_5 ?_
    refine j_iload_n C 1 rfl rfl dX5_isOf_8 ?_
    refine j_icmp_eq (tgt := 25) C (by decide) dX5_isOf_9 (fun hc2 => ?_) (fun hc2 => ?_)
    · replace h := (if_pos hc2).symm.trans h
      refine j_iconst (v := 1) C (by decide) dX5_isOf_25 ?_
      refine j_goto (tgt := 30) C (by decide) dX5_isOf_26 ?_
      obtain rfl := Option.some.inj h
      exact j_iret C rfl (bo_nar (Or.inr rfl)) (Nat.le_refl _) (Nat.le_refl _) dX5_isOf_30
    · replace h := (if_neg hc2).symm.trans h
      refine j_aload_n C 0 rfl rfl dX5_isOf_12 ?_
      refine j_getG C in_X5 (by decide) (cw_19 (χ := χ) hi0) rfl 1 (by decide) mw_648 (fun _ h => h) rfl dX5_isOf_13 ?_
      refine j_iconst (v := 4) C (by decide) dX5_isOf_16 ?_
      refine j_icmp_ne (tgt := 29) C (by decide) dX5_isOf_17 (fun hc3 => ?_) (fun hc3 => ?_)
      · replace h := (if_neg hc3).symm.trans h
        refine j_iconst (v := 0) C (by decide) dX5_isOf_29 ?_
        obtain rfl := Option.some.inj h
        exact j_iret C rfl (bo_nar (Or.inl rfl)) (Nat.le_refl _) (Nat.le_refl _) dX5_isOf_30
      · replace h := (if_pos hc3).symm.trans h
        refine j_iload_n C 1 rfl rfl dX5_isOf_20 ?_
        refine j_iconst (v := 3) C (by decide) dX5_isOf_21 ?_
        refine j_icmp_ne (tgt := 29) C (by decide) dX5_isOf_22 (fun hc4 => ?_) (fun hc4 => ?_)
        · replace h := (if_neg hc4).symm.trans h
          refine j_iconst (v := 0) C (by decide) dX5_isOf_29 ?_
          obtain rfl := Option.some.inj h
          exact j_iret C rfl (bo_nar (Or.inl rfl)) (Nat.le_refl _) (Nat.le_refl _) dX5_isOf_30
        · replace h := (if_pos hc4).symm.trans h
          refine j_iconst (v := 1) C (by decide) dX5_isOf_25 ?_
          refine j_goto (tgt := 30) C (by decide) dX5_isOf_26 ?_
          obtain rfl := Option.some.inj h
          exact j_iret C rfl (bo_nar (Or.inr rfl)) (Nat.le_refl _) (Nat.le_refl _) dX5_isOf_30
set_option maxRecDepth 100000 in
set_option maxHeartbeats 4000000 in
theorem c_X5_isOf {l : Launch} {g : Gc} {ad : Nat → Nat → Nat} {χ : Mem} {T : Nat → Mem} {σ : Mem} {i0 : Nat} {a1 : Int32} (hi0 : i0 < gN χ 8 1) {rr : Int32} (h : f_X5_isOf χ i0 a1 = some rr) : Met l yX5_isOf (WS yX5_isOf cX5_isOf 2 (some .boolean)) rm_X5_isOf (PreW g ad χ T σ [.ref (ad 19 i0), .int a1]) (PoI g ad χ T σ rr) 0 0 (geB g) := by
  refine j_metW (by decide) (Nat.le_of_ble_eq_true rfl) fun p e s m below meth c C hname => ?_
  rw [f_X5_isOf] at h
  exact j_sub [0, 1] rfl (t_X5_isOf_0 C hi0 a1 h)
set_option maxRecDepth 100000 in
set_option maxHeartbeats 4000000 in
theorem t_X5_joins_16 {T : Nat → Mem} {σ : Mem} {χ : Mem} {i0 : Nat} (C : Cx p s m args meth c cX5_joins 3 RX5 (some .boolean) COM g) (hi0 : i0 < gN χ 8 1) {rr : Int32} (v1 : Nat) (v2 : Nat) (hv1 : v1 < gN χ 8 0) (hv2 : v2 < gN χ 8 0) (h : f_X5_joins_16 χ i0 v1 v2 = some rr) : JJ p l e rm_X5_joins s m args below meth c 3 g ad (MQ below (PoI g ad χ T σ rr) args s 0 0 (geB g)) χ T σ 0 0 [(0, .ref (ad 19 i0)), (1, .ref (ad 18 v1)), (2, .ref (ad 18 v2))] 16 [] := by
  rw [f_X5_joins_16] at h
  refine j_aload_n C 0 rfl rfl dX5_joins_16 ?_
  refine j_getG C in_X5 (by decide) (cw_19 (χ := χ) hi0) rfl 2 (by decide) mw_650 (fun _ h => h) rfl dX5_joins_17 ?_
  refine j_wt (fun wt1 => ?_)
  refine j_aload_n C 2 rfl rfl dX5_joins_20 ?_
  refine j_acmp_ne (tgt := 36) C (by decide) (cw_18 (χ := χ) (wt1.2.1 _ hi0).1) (cw_18 (χ := χ) hv2) (by decide) dX5_joins_21 (fun hc2 => ?_) (fun hc2 => ?_)
  · replace h := (if_neg hc2).symm.trans h
    refine j_iconst (v := 0) C (by decide) dX5_joins_36 ?_
    obtain rfl := Option.some.inj h
    exact j_iret C rfl (bo_nar (Or.inl rfl)) (Nat.le_refl _) (Nat.le_refl _) dX5_joins_37
  · replace h := (if_pos hc2).symm.trans h
    refine j_aload_n C 0 rfl rfl dX5_joins_24 ?_
    refine j_getG C in_X5 (by decide) (cw_19 (χ := χ) hi0) rfl 3 (by decide) mw_654 (fun _ h => h) rfl dX5_joins_25 ?_
    refine j_wt (fun wt3 => ?_)
    refine j_aload_n C 1 rfl rfl dX5_joins_28 ?_
    refine j_acmp_ne (tgt := 36) C (by decide) (cw_18 (χ := χ) (wt3.2.1 _ hi0).2) (cw_18 (χ := χ) hv1) (by decide) dX5_joins_29 (fun hc4 => ?_) (fun hc4 => ?_)
    · replace h := (if_neg hc4).symm.trans h
      refine j_iconst (v := 0) C (by decide) dX5_joins_36 ?_
      obtain rfl := Option.some.inj h
      exact j_iret C rfl (bo_nar (Or.inl rfl)) (Nat.le_refl _) (Nat.le_refl _) dX5_joins_37
    · replace h := (if_pos hc4).symm.trans h
      refine j_iconst (v := 1) C (by decide) dX5_joins_32 ?_
      refine j_goto (tgt := 37) C (by decide) dX5_joins_33 ?_
      obtain rfl := Option.some.inj h
      exact j_iret C rfl (bo_nar (Or.inr rfl)) (Nat.le_refl _) (Nat.le_refl _) dX5_joins_37
set_option maxRecDepth 100000 in
set_option maxHeartbeats 4000000 in
theorem t_X5_joins_0 {T : Nat → Mem} {σ : Mem} {χ : Mem} {i0 : Nat} (C : Cx p s m args meth c cX5_joins 3 RX5 (some .boolean) COM g) (hi0 : i0 < gN χ 8 1) {rr : Int32} (a1 : Nat) (a2 : Nat) (ha1 : a1 < gN χ 8 0) (ha2 : a2 < gN χ 8 0) (h : f_X5_joins_0 χ i0 a1 a2 = some rr) : JJ p l e rm_X5_joins s m args below meth c 3 g ad (MQ below (PoI g ad χ T σ rr) args s 0 0 (geB g)) χ T σ 0 0 [(0, .ref (ad 19 i0)), (1, .ref (ad 18 a1)), (2, .ref (ad 18 a2))] 0 [] := by
  rw [f_X5_joins_0] at h
  refine j_aload_n C 0 rfl rfl dX5_joins_0 ?_
  refine j_getG C in_X5 (by decide) (cw_19 (χ := χ) hi0) rfl 2 (by decide) mw_650 (fun _ h => h) rfl dX5_joins_1 ?_
  refine j_wt (fun wt1 => ?_)
  refine j_aload_n C 1 rfl rfl dX5_joins_4 ?_
  refine j_acmp_ne (tgt := 16) C (by decide) (cw_18 (χ := χ) (wt1.2.1 _ hi0).1) (cw_18 (χ := χ) ha1) (by decide) dX5_joins_5 (fun hc2 => ?_) (fun hc2 => ?_)
  · replace h := (if_neg hc2).symm.trans h
    exact j_sub [0, 1, 2] rfl (t_X5_joins_16 C hi0 a1 a2 ha1 ha2 h)
  · replace h := (if_pos hc2).symm.trans h
    refine j_aload_n C 0 rfl rfl dX5_joins_8 ?_
    refine j_getG C in_X5 (by decide) (cw_19 (χ := χ) hi0) rfl 3 (by decide) mw_654 (fun _ h => h) rfl dX5_joins_9 ?_
    refine j_wt (fun wt3 => ?_)
    refine j_aload_n C 2 rfl rfl dX5_joins_12 ?_
    refine j_acmp_eq (tgt := 32) C (by decide) (cw_18 (χ := χ) (wt3.2.1 _ hi0).2) (cw_18 (χ := χ) ha2) (by decide) dX5_joins_13 (fun hc4 => ?_) (fun hc4 => ?_)
    · replace h := (if_pos hc4).symm.trans h
      refine j_iconst (v := 1) C (by decide) dX5_joins_32 ?_
      refine j_goto (tgt := 37) C (by decide) dX5_joins_33 ?_
      obtain rfl := Option.some.inj h
      exact j_iret C rfl (bo_nar (Or.inr rfl)) (Nat.le_refl _) (Nat.le_refl _) dX5_joins_37
    · replace h := (if_neg hc4).symm.trans h
      exact j_sub [0, 1, 2] rfl (t_X5_joins_16 C hi0 a1 a2 ha1 ha2 h)
set_option maxRecDepth 100000 in
set_option maxHeartbeats 4000000 in
theorem c_X5_joins {l : Launch} {g : Gc} {ad : Nat → Nat → Nat} {χ : Mem} {T : Nat → Mem} {σ : Mem} {i0 : Nat} {a1 : Nat} {a2 : Nat} (hi0 : i0 < gN χ 8 1) (ha1 : a1 < gN χ 8 0) (ha2 : a2 < gN χ 8 0) {rr : Int32} (h : f_X5_joins χ i0 a1 a2 = some rr) : Met l yX5_joins (WS yX5_joins cX5_joins 3 (some .boolean)) rm_X5_joins (PreW g ad χ T σ [.ref (ad 19 i0), .ref (ad 18 a1), .ref (ad 18 a2)]) (PoI g ad χ T σ rr) 0 0 (geB g) := by
  refine j_metW (by decide) (Nat.le_of_ble_eq_true rfl) fun p e s m below meth c C hname => ?_
  rw [f_X5_joins] at h
  exact j_sub [0, 1, 2] rfl (t_X5_joins_0 C hi0 a1 a2 ha1 ha2 h)
set_option maxRecDepth 100000 in
set_option maxHeartbeats 4000000 in
theorem t_X5_reach_29 {T : Nat → Mem} {σ : Mem} {χ : Mem} {i0 : Nat} (C : Cx p s m args meth c cX5_reach 4 RX5 (some .int) COM g) (hi0 : i0 < gN χ 8 1) {rr : Int32} (v1 : Nat) (v2 : Int32) (s0 : Nat) (hv1 : v1 < gN χ 8 0) (hs0 : s0 < gN χ 8 0) (h : f_X5_reach_29 χ i0 v1 v2 s0 = some rr) : JJ p l e rm_X5_reach s m args below meth c 4 g ad (MQ below (PoI g ad χ T σ rr) args s 0 0 (geB g)) χ T σ 0 0 [(1, .ref (ad 18 v1)), (2, .int v2)] 29 [.ref (ad 18 s0)] := by
  rw [f_X5_reach_29] at h
  refine j_astore_n (L' := [(3, .ref (ad 18 s0)), (1, .ref (ad 18 v1)), (2, .int v2)]) C rfl (by decide) rfl dX5_reach_29 ?_
  refine j_iload_n C 2 rfl rfl dX5_reach_30 ?_
  refine j_if_ne (tgt := 46) C (by decide) dX5_reach_31 (fun hc1 => ?_) (fun hc1 => ?_)
  · replace h := (if_neg hc1).symm.trans h
    refine j_aload_n C 1 rfl rfl dX5_reach_46 ?_
    refine j_getG C in_X4 (by decide) (cw_18 (χ := χ) hv1) rfl 2 (by decide) mw_344 (fun _ h => h) rfl dX5_reach_47 ?_
    refine j_aload_n C 0 rfl rfl dX5_reach_50 ?_
    refine j_getG C in_X4 (by decide) (cw_18 (χ := χ) hs0) rfl 2 (by decide) mw_344 (fun _ h => h) rfl dX5_reach_51 ?_
    refine j_isub C dX5_reach_54 ?_
    obtain rfl := Option.some.inj h
    exact j_iret C rfl rfl (Nat.le_refl _) (Nat.le_refl _) dX5_reach_55
  · replace h := (if_pos hc1).symm.trans h
    refine j_aload_n C 1 rfl rfl dX5_reach_34 ?_
    refine j_getG C in_X4 (by decide) (cw_18 (χ := χ) hv1) rfl 1 (by decide) mw_340 (fun _ h => h) rfl dX5_reach_35 ?_
    refine j_aload_n C 0 rfl rfl dX5_reach_38 ?_
    refine j_getG C in_X4 (by decide) (cw_18 (χ := χ) hs0) rfl 1 (by decide) mw_340 (fun _ h => h) rfl dX5_reach_39 ?_
    refine j_isub C dX5_reach_42 ?_
    refine j_goto (tgt := 55) C (by decide) dX5_reach_43 ?_
    obtain rfl := Option.some.inj h
    exact j_iret C rfl rfl (Nat.le_refl _) (Nat.le_refl _) dX5_reach_55
set_option maxRecDepth 100000 in
set_option maxHeartbeats 4000000 in
theorem t_X5_reach_0 {T : Nat → Mem} {σ : Mem} {χ : Mem} {i0 : Nat} (C : Cx p s m args meth c cX5_reach 4 RX5 (some .int) COM g) (hi0 : i0 < gN χ 8 1) {rr : Int32} (a1 : Nat) (a2 : Int32) (ha1 : a1 < gN χ 8 0) (h : f_X5_reach_0 χ i0 a1 a2 = some rr) : JJ p l e rm_X5_reach s m args below meth c 4 g ad (MQ below (PoI g ad χ T σ rr) args s 0 0 (geB g)) χ T σ 0 0 [(0, .ref (ad 19 i0)), (1, .ref (ad 18 a1)), (2, .int a2)] 0 [] := by
  rw [f_X5_reach_0] at h
  refine j_aload_n C 0 rfl rfl dX5_reach_0 ?_
  refine j_aload_n C 1 rfl rfl dX5_reach_1 ?_
  obtain ⟨q1, hq1, h⟩ := bi_some h
  refine j_callVi (As := [.ref (ad 18 a1)]) (rest := []) C (c_X5_endsAt hi0 ha1 hq1) (cwV 1 C.ts (good_V mw_473 mw_474 mw_475 mw_82 mw_476) rfl rfl rfl (by decide +kernel) ⟨Nat.le_of_ble_eq_true rfl, Nat.le_of_ble_eq_true rfl⟩) (fun H hW => CW.rv C.k hW (by decide) (cw_19 (χ := χ) hi0) rfl) rfl rfl (Nat.le_of_ble_eq_true rfl) dX5_reach_2 ⟨Nat.zero_le _, Nat.zero_le _⟩ ?_
  refine j_if_ne (tgt := 10) C (by decide) dX5_reach_5 (fun hc2 => ?_) (fun hc2 => ?_)
  · replace h := (if_neg hc2).symm.trans h
    refine j_aload_n C 1 rfl rfl dX5_reach_10 ?_
    refine j_aload_n C 0 rfl rfl dX5_reach_11 ?_
    refine j_getG C in_X5 (by decide) (cw_19 (χ := χ) hi0) rfl 2 (by decide) mw_650 (fun _ h => h) rfl dX5_reach_12 ?_
    refine j_wt (fun wt3 => ?_)
    refine j_acmp_ne (tgt := 25) C (by decide) (cw_18 (χ := χ) ha1) (cw_18 (χ := χ) (wt3.2.1 _ hi0).1) (by decide) dX5_reach_15 (fun hc4 => ?_) (fun hc4 => ?_)
    · replace h := (if_neg hc4).symm.trans h
      refine j_aload_n C 0 rfl rfl dX5_reach_25 ?_
      refine j_getG C in_X5 (by decide) (cw_19 (χ := χ) hi0) rfl 2 (by decide) mw_650 (fun _ h => h) rfl dX5_reach_26 ?_
      refine j_wt (fun wt5 => ?_)
      exact j_sub [1, 2] rfl (t_X5_reach_29 C hi0 a1 a2 (gN χ 6 i0) ha1 (wt5.2.1 _ hi0).1 h)
    · replace h := (if_pos hc4).symm.trans h
      refine j_aload_n C 0 rfl rfl dX5_reach_18 ?_
      refine j_getG C in_X5 (by decide) (cw_19 (χ := χ) hi0) rfl 3 (by decide) mw_654 (fun _ h => h) rfl dX5_reach_19 ?_
      refine j_wt (fun wt6 => ?_)
      refine j_goto (tgt := 29) C (by decide) dX5_reach_22 ?_
      exact j_sub [1, 2] rfl (t_X5_reach_29 C hi0 a1 a2 (gN χ 7 i0) ha1 (wt6.2.1 _ hi0).2 h)
  · replace h := (if_pos hc2).symm.trans h
    refine j_iconst (v := 0) C (by decide) dX5_reach_8 ?_
    obtain rfl := Option.some.inj h
    exact j_iret C rfl rfl (Nat.le_refl _) (Nat.le_refl _) dX5_reach_9
set_option maxRecDepth 100000 in
set_option maxHeartbeats 4000000 in
theorem c_X5_reach {l : Launch} {g : Gc} {ad : Nat → Nat → Nat} {χ : Mem} {T : Nat → Mem} {σ : Mem} {i0 : Nat} {a1 : Nat} {a2 : Int32} (hi0 : i0 < gN χ 8 1) (ha1 : a1 < gN χ 8 0) {rr : Int32} (h : f_X5_reach χ i0 a1 a2 = some rr) : Met l yX5_reach (WS yX5_reach cX5_reach 4 (some .int)) rm_X5_reach (PreW g ad χ T σ [.ref (ad 19 i0), .ref (ad 18 a1), .int a2]) (PoI g ad χ T σ rr) 0 0 (geB g) := by
  refine j_metW (by decide) (Nat.le_of_ble_eq_true rfl) fun p e s m below meth c C hname => ?_
  rw [f_X5_reach] at h
  exact j_sub [0, 1, 2] rfl (t_X5_reach_0 C hi0 a1 a2 ha1 h)
set_option maxRecDepth 100000 in
set_option maxHeartbeats 4000000 in
theorem t_X2_areJoined_2 {T : Nat → Mem} {σ : Mem} {χ : Mem} (C : Cx p s m args meth c cX2_areJoined 4 RX2 (some .boolean) COM g) {rr : Int32} : ∀ (n : Nat) (v1 : Nat) (v2 : Nat) (v3 : Int32) (hv1 : v1 < gN χ 8 0) (hv2 : v2 < gN χ 8 0) (h : f_X2_areJoined_2 χ n v1 v2 v3 = some rr), JJ p l e rm_X2_areJoined s m args below meth c 4 g ad (MQ below (PoI g ad χ T σ rr) args s 0 0 (geB g)) χ T σ 0 0 [(0, .ref (ad 1 0)), (1, .ref (ad 18 v1)), (2, .ref (ad 18 v2)), (3, .int v3)] 2 [] := by
  intro n
  induction n with
  | zero => intro  v1 v2 v3 hv1 hv2 h; cases h
  | succ n ih =>
  intro  v1 v2 v3 hv1 hv2 h
  rw [f_X2_areJoined_2] at h
  refine j_iload_n C 3 rfl rfl dX2_areJoined_2 ?_
  refine j_aload_n C 0 rfl rfl dX2_areJoined_3 ?_
  refine j_getG C in_X2 (by decide) cw_1 rfl 1 (by decide) mw_128 (fun _ h => h) rfl dX2_areJoined_4 ?_
  refine j_lsize C (by decide) mw_296 ⟨Nat.le_of_ble_eq_true rfl, Nat.le_of_ble_eq_true rfl⟩ (Nat.le_of_ble_eq_true rfl) dX2_areJoined_7 ⟨Nat.zero_le _, Nat.zero_le _⟩ ?_
  refine j_icmp_ge (tgt := 44) C (by decide) dX2_areJoined_12 (fun hc1 => ?_) (fun hc1 => ?_)
  · replace h := (if_pos hc1).symm.trans h
    refine j_iconst (v := 0) C (by decide) dX2_areJoined_44 ?_
    obtain rfl := Option.some.inj h
    exact j_iret C rfl (bo_nar (Or.inl rfl)) (Nat.le_refl _) (Nat.le_refl _) dX2_areJoined_45
  · replace h := (if_neg hc1).symm.trans h
    refine j_aload_n C 0 rfl rfl dX2_areJoined_15 ?_
    refine j_getG C in_X2 (by decide) cw_1 rfl 1 (by decide) mw_128 (fun _ h => h) rfl dX2_areJoined_16 ?_
    refine j_iload_n C 3 rfl rfl dX2_areJoined_19 ?_
    obtain ⟨hg2, h⟩ := gd_some h
    refine j_wt (fun wt3 => ?_)
    refine j_lgetK (ek := 19) C (by decide) (by decide) hg2 mw_306 ⟨Nat.le_of_ble_eq_true rfl, Nat.le_of_ble_eq_true rfl⟩ (Nat.le_of_ble_eq_true rfl) dX2_areJoined_20 ⟨Nat.zero_le _, Nat.zero_le _⟩ ?_
    refine j_castS (q := (RX5, TX5, 6)) C mw_449 (by decide) (cw_19 (χ := χ) (wt_19 wt3 (by decide) (by decide) hg2)) rfl dX2_areJoined_25 ?_
    refine j_aload_n C 1 rfl rfl dX2_areJoined_28 ?_
    refine j_aload_n C 2 rfl rfl dX2_areJoined_29 ?_
    obtain ⟨q4, hq4, h⟩ := bi_some h
    refine j_callVi (As := [.ref (ad 18 v1), .ref (ad 18 v2)]) (rest := []) C (c_X5_joins (wt_19 wt3 (by decide) (by decide) hg2) hv1 hv2 hq4) (cwV 2 C.ts (good_V mw_636 mw_637 mw_638 mw_82 mw_639) rfl rfl rfl (by decide +kernel) ⟨Nat.le_of_ble_eq_true rfl, Nat.le_of_ble_eq_true rfl⟩) (fun H hW => CW.rv C.k hW (by decide) (cw_19 (χ := χ) (wt_19 wt3 (by decide) (by decide) hg2)) rfl) rfl rfl (Nat.le_of_ble_eq_true rfl) dX2_areJoined_30 ⟨Nat.zero_le _, Nat.zero_le _⟩ ?_
    refine j_if_eq (tgt := 38) C (by decide) dX2_areJoined_33 (fun hc5 => ?_) (fun hc5 => ?_)
    · replace h := (if_pos hc5).symm.trans h
      refine j_iinc (v := v3 + (1 : Int32)) (L' := [(3, .int (v3 + (1 : Int32))), (0, .ref (ad 1 0)), (1, .ref (ad 18 v1)), (2, .ref (ad 18 v2))]) C 3 rfl rfl (by decide) rfl dX2_areJoined_38 ?_
      refine j_goto (tgt := 2) C (by decide) dX2_areJoined_41 ?_
      exact j_sub [1, 2, 3, 0] rfl (ih v1 v2 (v3 + (1 : Int32)) hv1 hv2 h)
    · replace h := (if_neg hc5).symm.trans h
      refine j_iconst (v := 1) C (by decide) dX2_areJoined_36 ?_
      obtain rfl := Option.some.inj h
      exact j_iret C rfl (bo_nar (Or.inr rfl)) (Nat.le_refl _) (Nat.le_refl _) dX2_areJoined_37
set_option maxRecDepth 100000 in
set_option maxHeartbeats 4000000 in
theorem t_X2_areJoined_0 {T : Nat → Mem} {σ : Mem} {χ : Mem} (C : Cx p s m args meth c cX2_areJoined 4 RX2 (some .boolean) COM g) {rr : Int32} (a1 : Nat) (a2 : Nat) (ha1 : a1 < gN χ 8 0) (ha2 : a2 < gN χ 8 0) (h : f_X2_areJoined_0 χ a1 a2 = some rr) : JJ p l e rm_X2_areJoined s m args below meth c 4 g ad (MQ below (PoI g ad χ T σ rr) args s 0 0 (geB g)) χ T σ 0 0 [(0, .ref (ad 1 0)), (1, .ref (ad 18 a1)), (2, .ref (ad 18 a2))] 0 [] := by
  rw [f_X2_areJoined_0] at h
  refine j_iconst (v := 0) C (by decide) dX2_areJoined_0 ?_
  refine j_istore_n (L' := [(3, .int (0 : Int32)), (0, .ref (ad 1 0)), (1, .ref (ad 18 a1)), (2, .ref (ad 18 a2))]) C rfl (by decide) rfl dX2_areJoined_1 ?_
  exact j_sub [1, 2, 3, 0] rfl (t_X2_areJoined_2 C FU a1 a2 (0 : Int32) ha1 ha2 h)
set_option maxRecDepth 100000 in
set_option maxHeartbeats 4000000 in
theorem c_X2_areJoined {l : Launch} {g : Gc} {ad : Nat → Nat → Nat} {χ : Mem} {T : Nat → Mem} {σ : Mem} {a1 : Nat} {a2 : Nat} (ha1 : a1 < gN χ 8 0) (ha2 : a2 < gN χ 8 0) {rr : Int32} (h : f_X2_areJoined χ a1 a2 = some rr) : Met l yX2_areJoined (WS yX2_areJoined cX2_areJoined 4 (some .boolean)) rm_X2_areJoined (PreW g ad χ T σ [.ref (ad 1 0), .ref (ad 18 a1), .ref (ad 18 a2)]) (PoI g ad χ T σ rr) 0 0 (geB g) := by
  refine j_metW (by decide) (Nat.le_of_ble_eq_true rfl) fun p e s m below meth c C hname => ?_
  rw [f_X2_areJoined] at h
  exact j_sub [0, 1, 2] rfl (t_X2_areJoined_0 C a1 a2 ha1 ha2 h)
set_option maxRecDepth 100000 in
set_option maxHeartbeats 4000000 in
theorem t_X2_isPin_0 {T : Nat → Mem} {σ : Mem} {χ : Mem} (C : Cx p s m args meth c cX2_isPin 2 RX2 (some .boolean) COM g) {rr : Int32} (a1 : Int32) (h : f_X2_isPin_0 χ a1 = some rr) : JJ p l e rm_X2_isPin s m args below meth c 2 g ad (MQ below (PoI g ad χ T σ rr) args s 0 0 (geB g)) χ T σ 0 0 [(0, .ref (ad 1 0)), (1, .int a1)] 0 [] := by
  rw [f_X2_isPin_0] at h
  refine j_iload_n C 1 rfl rfl dX2_isPin_0 ?_
  refine j_if_lt (tgt := 21) C (by decide) dX2_isPin_1 (fun hc1 => ?_) (fun hc1 => ?_)
  · replace h := (if_pos hc1).symm.trans h
    refine j_iconst (v := 0) C (by decide) dX2_isPin_21 ?_
    obtain rfl := Option.some.inj h
    exact j_iret C rfl (bo_nar (Or.inl rfl)) (Nat.le_refl _) (Nat.le_refl _) dX2_isPin_22
  · replace h := (if_neg hc1).symm.trans h
    refine j_iload_n C 1 rfl rfl dX2_isPin_4 ?_
    refine j_aload_n C 0 rfl rfl dX2_isPin_5 ?_
    refine j_getG C in_X2 (by decide) cw_1 rfl 0 (by decide) mw_124 (fun _ h => h) rfl dX2_isPin_6 ?_
    refine j_lsize C (by decide) mw_296 ⟨Nat.le_of_ble_eq_true rfl, Nat.le_of_ble_eq_true rfl⟩ (Nat.le_of_ble_eq_true rfl) dX2_isPin_9 ⟨Nat.zero_le _, Nat.zero_le _⟩ ?_
    refine j_icmp_ge (tgt := 21) C (by decide) dX2_isPin_14 (fun hc2 => ?_) (fun hc2 => ?_)
    · replace h := (if_pos hc2).symm.trans h
      refine j_iconst (v := 0) C (by decide) dX2_isPin_21 ?_
      obtain rfl := Option.some.inj h
      exact j_iret C rfl (bo_nar (Or.inl rfl)) (Nat.le_refl _) (Nat.le_refl _) dX2_isPin_22
    · replace h := (if_neg hc2).symm.trans h
      refine j_iconst (v := 1) C (by decide) dX2_isPin_17 ?_
      refine j_goto (tgt := 22) C (by decide) dX2_isPin_18 ?_
      obtain rfl := Option.some.inj h
      exact j_iret C rfl (bo_nar (Or.inr rfl)) (Nat.le_refl _) (Nat.le_refl _) dX2_isPin_22
set_option maxRecDepth 100000 in
set_option maxHeartbeats 4000000 in
theorem c_X2_isPin {l : Launch} {g : Gc} {ad : Nat → Nat → Nat} {χ : Mem} {T : Nat → Mem} {σ : Mem} {a1 : Int32} {rr : Int32} (h : f_X2_isPin χ a1 = some rr) : Met l yX2_isPin (WS yX2_isPin cX2_isPin 2 (some .boolean)) rm_X2_isPin (PreW g ad χ T σ [.ref (ad 1 0), .int a1]) (PoI g ad χ T σ rr) 0 0 (geB g) := by
  refine j_metW (by decide) (Nat.le_of_ble_eq_true rfl) fun p e s m below meth c C hname => ?_
  rw [f_X2_isPin] at h
  exact j_sub [0, 1] rfl (t_X2_isPin_0 C a1 h)
set_option maxRecDepth 100000 in
set_option maxHeartbeats 4000000 in
theorem t_X2_isRod_0 {T : Nat → Mem} {σ : Mem} {χ : Mem} (C : Cx p s m args meth c cX2_isRod 2 RX2 (some .boolean) COM g) {rr : Int32} (a1 : Int32) (h : f_X2_isRod_0 χ a1 = some rr) : JJ p l e rm_X2_isRod s m args below meth c 2 g ad (MQ below (PoI g ad χ T σ rr) args s 0 0 (geB g)) χ T σ 0 0 [(0, .ref (ad 1 0)), (1, .int a1)] 0 [] := by
  rw [f_X2_isRod_0] at h
  refine j_iload_n C 1 rfl rfl dX2_isRod_0 ?_
  refine j_if_lt (tgt := 21) C (by decide) dX2_isRod_1 (fun hc1 => ?_) (fun hc1 => ?_)
  · replace h := (if_pos hc1).symm.trans h
    refine j_iconst (v := 0) C (by decide) dX2_isRod_21 ?_
    obtain rfl := Option.some.inj h
    exact j_iret C rfl (bo_nar (Or.inl rfl)) (Nat.le_refl _) (Nat.le_refl _) dX2_isRod_22
  · replace h := (if_neg hc1).symm.trans h
    refine j_iload_n C 1 rfl rfl dX2_isRod_4 ?_
    refine j_aload_n C 0 rfl rfl dX2_isRod_5 ?_
    refine j_getG C in_X2 (by decide) cw_1 rfl 1 (by decide) mw_128 (fun _ h => h) rfl dX2_isRod_6 ?_
    refine j_lsize C (by decide) mw_296 ⟨Nat.le_of_ble_eq_true rfl, Nat.le_of_ble_eq_true rfl⟩ (Nat.le_of_ble_eq_true rfl) dX2_isRod_9 ⟨Nat.zero_le _, Nat.zero_le _⟩ ?_
    refine j_icmp_ge (tgt := 21) C (by decide) dX2_isRod_14 (fun hc2 => ?_) (fun hc2 => ?_)
    · replace h := (if_pos hc2).symm.trans h
      refine j_iconst (v := 0) C (by decide) dX2_isRod_21 ?_
      obtain rfl := Option.some.inj h
      exact j_iret C rfl (bo_nar (Or.inl rfl)) (Nat.le_refl _) (Nat.le_refl _) dX2_isRod_22
    · replace h := (if_neg hc2).symm.trans h
      refine j_iconst (v := 1) C (by decide) dX2_isRod_17 ?_
      refine j_goto (tgt := 22) C (by decide) dX2_isRod_18 ?_
      obtain rfl := Option.some.inj h
      exact j_iret C rfl (bo_nar (Or.inr rfl)) (Nat.le_refl _) (Nat.le_refl _) dX2_isRod_22
set_option maxRecDepth 100000 in
set_option maxHeartbeats 4000000 in
theorem c_X2_isRod {l : Launch} {g : Gc} {ad : Nat → Nat → Nat} {χ : Mem} {T : Nat → Mem} {σ : Mem} {a1 : Int32} {rr : Int32} (h : f_X2_isRod χ a1 = some rr) : Met l yX2_isRod (WS yX2_isRod cX2_isRod 2 (some .boolean)) rm_X2_isRod (PreW g ad χ T σ [.ref (ad 1 0), .int a1]) (PoI g ad χ T σ rr) 0 0 (geB g) := by
  refine j_metW (by decide) (Nat.le_of_ble_eq_true rfl) fun p e s m below meth c C hname => ?_
  rw [f_X2_isRod] at h
  exact j_sub [0, 1] rfl (t_X2_isRod_0 C a1 h)
set_option maxRecDepth 100000 in
set_option maxHeartbeats 4000000 in
theorem t_X2_pinAt_2 {T : Nat → Mem} {σ : Mem} {χ : Mem} (C : Cx p s m args meth c cX2_pinAt 5 RX2 (some (.object "RodBench$Pin")) COM g) {rr : Option Nat} : ∀ (n : Nat) (v1 : Int32) (v2 : Int32) (v3 : Int32) (h : f_X2_pinAt_2 χ n v1 v2 v3 = some rr), JJ p l e rm_X2_pinAt s m args below meth c 5 g ad (MQ below (PoR g ad χ T σ ((rr).map (ad 18))) args s 0 0 (geB g)) χ T σ 0 0 [(0, .ref (ad 1 0)), (1, .int v1), (2, .int v2), (3, .int v3)] 2 [] := by
  intro n
  induction n with
  | zero => intro  v1 v2 v3  h; cases h
  | succ n ih =>
  intro  v1 v2 v3  h
  rw [f_X2_pinAt_2] at h
  refine j_iload_n C 3 rfl rfl dX2_pinAt_2 ?_
  refine j_aload_n C 0 rfl rfl dX2_pinAt_3 ?_
  refine j_getG C in_X2 (by decide) cw_1 rfl 0 (by decide) mw_124 (fun _ h => h) rfl dX2_pinAt_4 ?_
  refine j_lsize C (by decide) mw_296 ⟨Nat.le_of_ble_eq_true rfl, Nat.le_of_ble_eq_true rfl⟩ (Nat.le_of_ble_eq_true rfl) dX2_pinAt_7 ⟨Nat.zero_le _, Nat.zero_le _⟩ ?_
  refine j_icmp_ge (tgt := 57) C (by decide) dX2_pinAt_12 (fun hc1 => ?_) (fun hc1 => ?_)
  · replace h := (if_pos hc1).symm.trans h
    refine j_null C dX2_pinAt_57 ?_
    obtain rfl := Option.some.inj h
    exact j_aret (v := ((none : Option Nat).map (ad 18))) C rfl (Or.inl ⟨_, rfl⟩) (Nat.le_refl _) (Nat.le_refl _) dX2_pinAt_58
  · replace h := (if_neg hc1).symm.trans h
    refine j_aload_n C 0 rfl rfl dX2_pinAt_15 ?_
    refine j_getG C in_X2 (by decide) cw_1 rfl 0 (by decide) mw_124 (fun _ h => h) rfl dX2_pinAt_16 ?_
    refine j_iload_n C 3 rfl rfl dX2_pinAt_19 ?_
    obtain ⟨hg2, h⟩ := gd_some h
    refine j_wt (fun wt3 => ?_)
    refine j_lgetK (ek := 18) C (by decide) (by decide) hg2 mw_306 ⟨Nat.le_of_ble_eq_true rfl, Nat.le_of_ble_eq_true rfl⟩ (Nat.le_of_ble_eq_true rfl) dX2_pinAt_20 ⟨Nat.zero_le _, Nat.zero_le _⟩ ?_
    refine j_castS (q := (RX4, TX4, 6)) C mw_324 (by decide) (cw_18 (χ := χ) (wt_18 wt3 (by decide) (by decide) hg2)) rfl dX2_pinAt_25 ?_
    refine j_astore (L' := [(4, .ref (ad 18 (gN χ 0 v3.toNatClampNeg))), (0, .ref (ad 1 0)), (1, .int v1), (2, .int v2), (3, .int v3)]) C (by decide) rfl dX2_pinAt_28 ?_
    refine j_aload C 0 rfl dX2_pinAt_30 ?_
    refine j_getG C in_X4 (by decide) (cw_18 (χ := χ) (wt_18 wt3 (by decide) (by decide) hg2)) rfl 1 (by decide) mw_339 (fun _ h => h) rfl dX2_pinAt_32 ?_
    refine j_iload_n C 2 rfl rfl dX2_pinAt_35 ?_
    refine j_icmp_ne (tgt := 51) C (by decide) dX2_pinAt_36 (fun hc4 => ?_) (fun hc4 => ?_)
    · replace h := (if_neg hc4).symm.trans h
      refine j_iinc (v := v3 + (1 : Int32)) (L' := [(3, .int (v3 + (1 : Int32))), (4, .ref (ad 18 (gN χ 0 v3.toNatClampNeg))), (0, .ref (ad 1 0)), (1, .int v1), (2, .int v2)]) C 4 rfl rfl (by decide) rfl dX2_pinAt_51 ?_
      refine j_goto (tgt := 2) C (by decide) dX2_pinAt_54 ?_
      exact j_sub [2, 3, 4, 0] rfl (ih v1 v2 (v3 + (1 : Int32)) h)
    · replace h := (if_pos hc4).symm.trans h
      refine j_aload C 0 rfl dX2_pinAt_39 ?_
      refine j_getG C in_X4 (by decide) (cw_18 (χ := χ) (wt_18 wt3 (by decide) (by decide) hg2)) rfl 2 (by decide) mw_343 (fun _ h => h) rfl dX2_pinAt_41 ?_
      refine j_iload_n C 3 rfl rfl dX2_pinAt_44 ?_
      refine j_icmp_ne (tgt := 51) C (by decide) dX2_pinAt_45 (fun hc5 => ?_) (fun hc5 => ?_)
      · replace h := (if_neg hc5).symm.trans h
        refine j_iinc (v := v3 + (1 : Int32)) (L' := [(3, .int (v3 + (1 : Int32))), (4, .ref (ad 18 (gN χ 0 v3.toNatClampNeg))), (0, .ref (ad 1 0)), (1, .int v1), (2, .int v2)]) C 4 rfl rfl (by decide) rfl dX2_pinAt_51 ?_
        refine j_goto (tgt := 2) C (by decide) dX2_pinAt_54 ?_
        exact j_sub [2, 3, 4, 0] rfl (ih v1 v2 (v3 + (1 : Int32)) h)
      · replace h := (if_pos hc5).symm.trans h
        refine j_aload C 0 rfl dX2_pinAt_48 ?_
        obtain rfl := Option.some.inj h
        exact j_aret (v := ((some (gN χ 0 v3.toNatClampNeg)).map (ad 18))) C rfl (Or.inl ⟨_, rfl⟩) (Nat.le_refl _) (Nat.le_refl _) dX2_pinAt_50
set_option maxRecDepth 100000 in
set_option maxHeartbeats 4000000 in
theorem t_X2_pinAt_0 {T : Nat → Mem} {σ : Mem} {χ : Mem} (C : Cx p s m args meth c cX2_pinAt 5 RX2 (some (.object "RodBench$Pin")) COM g) {rr : Option Nat} (a1 : Int32) (a2 : Int32) (h : f_X2_pinAt_0 χ a1 a2 = some rr) : JJ p l e rm_X2_pinAt s m args below meth c 5 g ad (MQ below (PoR g ad χ T σ ((rr).map (ad 18))) args s 0 0 (geB g)) χ T σ 0 0 [(0, .ref (ad 1 0)), (1, .int a1), (2, .int a2)] 0 [] := by
  rw [f_X2_pinAt_0] at h
  refine j_iconst (v := 0) C (by decide) dX2_pinAt_0 ?_
  refine j_istore_n (L' := [(3, .int (0 : Int32)), (0, .ref (ad 1 0)), (1, .int a1), (2, .int a2)]) C rfl (by decide) rfl dX2_pinAt_1 ?_
  exact j_sub [1, 2, 3, 0] rfl (t_X2_pinAt_2 C FU a1 a2 (0 : Int32) h)
set_option maxRecDepth 100000 in
set_option maxHeartbeats 4000000 in
theorem c_X2_pinAt {l : Launch} {g : Gc} {ad : Nat → Nat → Nat} {χ : Mem} {T : Nat → Mem} {σ : Mem} {a1 : Int32} {a2 : Int32} {rr : Option Nat} (h : f_X2_pinAt χ a1 a2 = some rr) : Met l yX2_pinAt (WS yX2_pinAt cX2_pinAt 5 (some (.object "RodBench$Pin"))) rm_X2_pinAt (PreW g ad χ T σ [.ref (ad 1 0), .int a1, .int a2]) (PoR g ad χ T σ ((rr).map (ad 18))) 0 0 (geB g) := by
  refine j_metW (by decide) (Nat.le_of_ble_eq_true rfl) fun p e s m below meth c C hname => ?_
  rw [f_X2_pinAt] at h
  exact j_sub [0, 1, 2] rfl (t_X2_pinAt_0 C a1 a2 h)
set_option maxRecDepth 100000 in
set_option maxHeartbeats 4000000 in
theorem t_X2_planeMotions_0 {T : Nat → Mem} {σ : Mem} {χ : Mem} (C : Cx p s m args meth c cX2_planeMotions 3 RX2 (some .int) COM g) {rr : Int32} (h : f_X2_planeMotions_0 χ = some rr) : JJ p l e rm_X2_planeMotions s m args below meth c 3 g ad (MQ below (PoI g ad χ T σ rr) args s 0 0 (geB g)) χ T σ 0 0 [(0, .ref (ad 1 0))] 0 [] := by
  rw [f_X2_planeMotions_0] at h
  refine j_aload_n C 0 rfl rfl dX2_planeMotions_0 ?_
  refine j_getG C in_X2 (by decide) cw_1 rfl 2 (by decide) mw_132 (fun _ h => h) rfl dX2_planeMotions_1 ?_
  refine j_lsize C (by decide) mw_296 ⟨Nat.le_of_ble_eq_true rfl, Nat.le_of_ble_eq_true rfl⟩ (Nat.le_of_ble_eq_true rfl) dX2_planeMotions_4 ⟨Nat.zero_le _, Nat.zero_le _⟩ ?_
  refine j_istore_n (L' := [(1, .int (gI χ 14 2)), (0, .ref (ad 1 0))]) C rfl (by decide) rfl dX2_planeMotions_9 ?_
  refine j_aload_n C 1 rfl rfl dX2_planeMotions_10 ?_
  refine j_getG C in_X2 (by decide) cw_1 rfl 0 (by decide) mw_124 (fun _ h => h) rfl dX2_planeMotions_11 ?_
  refine j_lsize C (by decide) mw_296 ⟨Nat.le_of_ble_eq_true rfl, Nat.le_of_ble_eq_true rfl⟩ (Nat.le_of_ble_eq_true rfl) dX2_planeMotions_14 ⟨Nat.zero_le _, Nat.zero_le _⟩ ?_
  refine j_iload_n C 0 rfl rfl dX2_planeMotions_19 ?_
  refine j_isub C dX2_planeMotions_20 ?_
  refine j_istore_n (L' := [(2, .int ((gI χ 14 0) - (gI χ 14 2))), (1, .int (gI χ 14 2)), (0, .ref (ad 1 0))]) C rfl (by decide) rfl dX2_planeMotions_21 ?_
  refine j_iload_n C 1 rfl rfl dX2_planeMotions_22 ?_
  refine j_if_eq (tgt := 31) C (by decide) dX2_planeMotions_23 (fun hc1 => ?_) (fun hc1 => ?_)
  · replace h := (if_pos hc1).symm.trans h
    refine j_iconst (v := 0) C (by decide) dX2_planeMotions_31 ?_
    obtain rfl := Option.some.inj h
    exact j_iret C rfl rfl (Nat.le_refl _) (Nat.le_refl _) dX2_planeMotions_32
  · replace h := (if_neg hc1).symm.trans h
    refine j_iload_n C 0 rfl rfl dX2_planeMotions_26 ?_
    refine j_iconst (v := 1) C (by decide) dX2_planeMotions_27 ?_
    refine j_icmp_le (tgt := 33) C (by decide) dX2_planeMotions_28 (fun hc2 => ?_) (fun hc2 => ?_)
    · replace h := (if_pos hc2).symm.trans h
      refine j_iload_n C 0 rfl rfl dX2_planeMotions_33 ?_
      refine j_iconst (v := 1) C (by decide) dX2_planeMotions_34 ?_
      refine j_icmp_ne (tgt := 40) C (by decide) dX2_planeMotions_35 (fun hc3 => ?_) (fun hc3 => ?_)
      · replace h := (if_neg hc3).symm.trans h
        refine j_iload_n C 1 rfl rfl dX2_planeMotions_40 ?_
        refine j_iconst (v := 1) C (by decide) dX2_planeMotions_41 ?_
        refine j_icmp_ne (tgt := 49) C (by decide) dX2_planeMotions_42 (fun hc4 => ?_) (fun hc4 => ?_)
        · replace h := (if_neg hc4).symm.trans h
          refine j_iconst (v := 3) C (by decide) dX2_planeMotions_49 ?_
          obtain rfl := Option.some.inj h
          exact j_iret C rfl rfl (Nat.le_refl _) (Nat.le_refl _) dX2_planeMotions_50
        · replace h := (if_pos hc4).symm.trans h
          refine j_iconst (v := 2) C (by decide) dX2_planeMotions_45 ?_
          refine j_goto (tgt := 50) C (by decide) dX2_planeMotions_46 ?_
          obtain rfl := Option.some.inj h
          exact j_iret C rfl rfl (Nat.le_refl _) (Nat.le_refl _) dX2_planeMotions_50
      · replace h := (if_pos hc3).symm.trans h
        refine j_iconst (v := 1) C (by decide) dX2_planeMotions_38 ?_
        obtain rfl := Option.some.inj h
        exact j_iret C rfl rfl (Nat.le_refl _) (Nat.le_refl _) dX2_planeMotions_39
    · replace h := (if_neg hc2).symm.trans h
      refine j_iconst (v := 0) C (by decide) dX2_planeMotions_31 ?_
      obtain rfl := Option.some.inj h
      exact j_iret C rfl rfl (Nat.le_refl _) (Nat.le_refl _) dX2_planeMotions_32
set_option maxRecDepth 100000 in
set_option maxHeartbeats 4000000 in
theorem c_X2_planeMotions {l : Launch} {g : Gc} {ad : Nat → Nat → Nat} {χ : Mem} {T : Nat → Mem} {σ : Mem} {rr : Int32} (h : f_X2_planeMotions χ = some rr) : Met l yX2_planeMotions (WS yX2_planeMotions cX2_planeMotions 3 (some .int)) rm_X2_planeMotions (PreW g ad χ T σ [.ref (ad 1 0)]) (PoI g ad χ T σ rr) 0 0 (geB g) := by
  refine j_metW (by decide) (Nat.le_of_ble_eq_true rfl) fun p e s m below meth c C hname => ?_
  rw [f_X2_planeMotions] at h
  exact j_sub [0] rfl (t_X2_planeMotions_0 C h)
set_option maxRecDepth 100000 in
set_option maxHeartbeats 4000000 in
theorem t_X2_rodsInAt_4 {T : Nat → Mem} {σ : Mem} {χ : Mem} (C : Cx p s m args meth c cX2_rodsInAt 4 RX2 (some .int) COM g) {rr : Int32} : ∀ (n : Nat) (v1 : Nat) (v2 : Int32) (v3 : Int32) (hv1 : v1 < gN χ 8 0) (h : f_X2_rodsInAt_4 χ n v1 v2 v3 = some rr), JJ p l e rm_X2_rodsInAt s m args below meth c 4 g ad (MQ below (PoI g ad χ T σ rr) args s 0 0 (geB g)) χ T σ 0 0 [(0, .ref (ad 1 0)), (1, .ref (ad 18 v1)), (2, .int v2), (3, .int v3)] 4 [] := by
  intro n
  induction n with
  | zero => intro  v1 v2 v3 hv1 h; cases h
  | succ n ih =>
  intro  v1 v2 v3 hv1 h
  rw [f_X2_rodsInAt_4] at h
  refine j_iload_n C 3 rfl rfl dX2_rodsInAt_4 ?_
  refine j_aload_n C 0 rfl rfl dX2_rodsInAt_5 ?_
  refine j_getG C in_X2 (by decide) cw_1 rfl 3 (by decide) mw_136 (fun _ h => h) rfl dX2_rodsInAt_6 ?_
  refine j_lsize C (by decide) mw_296 ⟨Nat.le_of_ble_eq_true rfl, Nat.le_of_ble_eq_true rfl⟩ (Nat.le_of_ble_eq_true rfl) dX2_rodsInAt_9 ⟨Nat.zero_le _, Nat.zero_le _⟩ ?_
  refine j_icmp_ge (tgt := 46) C (by decide) dX2_rodsInAt_14 (fun hc1 => ?_) (fun hc1 => ?_)
  · replace h := (if_pos hc1).symm.trans h
    refine j_iload_n C 2 rfl rfl dX2_rodsInAt_46 ?_
    obtain rfl := Option.some.inj h
    exact j_iret C rfl rfl (Nat.le_refl _) (Nat.le_refl _) dX2_rodsInAt_47
  · replace h := (if_neg hc1).symm.trans h
    refine j_aload_n C 0 rfl rfl dX2_rodsInAt_17 ?_
    refine j_getG C in_X2 (by decide) cw_1 rfl 3 (by decide) mw_136 (fun _ h => h) rfl dX2_rodsInAt_18 ?_
    refine j_iload_n C 3 rfl rfl dX2_rodsInAt_21 ?_
    obtain ⟨hg2, h⟩ := gd_some h
    refine j_wt (fun wt3 => ?_)
    refine j_lgetK (ek := 19) C (by decide) (by decide) hg2 mw_306 ⟨Nat.le_of_ble_eq_true rfl, Nat.le_of_ble_eq_true rfl⟩ (Nat.le_of_ble_eq_true rfl) dX2_rodsInAt_22 ⟨Nat.zero_le _, Nat.zero_le _⟩ ?_
    refine j_castS (q := (RX5, TX5, 6)) C mw_449 (by decide) (cw_19 (χ := χ) (wt_19 wt3 (by decide) (by decide) hg2)) rfl dX2_rodsInAt_27 ?_
    refine j_aload_n C 1 rfl rfl dX2_rodsInAt_30 ?_
    obtain ⟨q4, hq4, h⟩ := bi_some h
    refine j_callVi (As := [.ref (ad 18 v1)]) (rest := []) C (c_X5_endsAt (wt_19 wt3 (by decide) (by decide) hg2) hv1 hq4) (cwV 1 C.ts (good_V mw_749 mw_474 mw_475 mw_82 mw_476) rfl rfl rfl (by decide +kernel) ⟨Nat.le_of_ble_eq_true rfl, Nat.le_of_ble_eq_true rfl⟩) (fun H hW => CW.rv C.k hW (by decide) (cw_19 (χ := χ) (wt_19 wt3 (by decide) (by decide) hg2)) rfl) rfl rfl (Nat.le_of_ble_eq_true rfl) dX2_rodsInAt_31 ⟨Nat.zero_le _, Nat.zero_le _⟩ ?_
    refine j_if_eq (tgt := 40) C (by decide) dX2_rodsInAt_34 (fun hc5 => ?_) (fun hc5 => ?_)
    · replace h := (if_pos hc5).symm.trans h
      refine j_iinc (v := v3 + (1 : Int32)) (L' := [(3, .int (v3 + (1 : Int32))), (0, .ref (ad 1 0)), (1, .ref (ad 18 v1)), (2, .int v2)]) C 3 rfl rfl (by decide) rfl dX2_rodsInAt_40 ?_
      refine j_goto (tgt := 4) C (by decide) dX2_rodsInAt_43 ?_
      exact j_sub [1, 2, 3, 0] rfl (ih v1 v2 (v3 + (1 : Int32)) hv1 h)
    · replace h := (if_neg hc5).symm.trans h
      refine j_iinc (v := v2 + (1 : Int32)) (L' := [(2, .int (v2 + (1 : Int32))), (0, .ref (ad 1 0)), (1, .ref (ad 18 v1)), (3, .int v3)]) C 2 rfl rfl (by decide) rfl dX2_rodsInAt_37 ?_
      refine j_iinc (v := v3 + (1 : Int32)) (L' := [(3, .int (v3 + (1 : Int32))), (2, .int (v2 + (1 : Int32))), (0, .ref (ad 1 0)), (1, .ref (ad 18 v1))]) C 3 rfl rfl (by decide) rfl dX2_rodsInAt_40 ?_
      refine j_goto (tgt := 4) C (by decide) dX2_rodsInAt_43 ?_
      exact j_sub [2, 3, 1, 0] rfl (ih v1 (v2 + (1 : Int32)) (v3 + (1 : Int32)) hv1 h)
set_option maxRecDepth 100000 in
set_option maxHeartbeats 4000000 in
theorem t_X2_rodsInAt_0 {T : Nat → Mem} {σ : Mem} {χ : Mem} (C : Cx p s m args meth c cX2_rodsInAt 4 RX2 (some .int) COM g) {rr : Int32} (a1 : Nat) (ha1 : a1 < gN χ 8 0) (h : f_X2_rodsInAt_0 χ a1 = some rr) : JJ p l e rm_X2_rodsInAt s m args below meth c 4 g ad (MQ below (PoI g ad χ T σ rr) args s 0 0 (geB g)) χ T σ 0 0 [(0, .ref (ad 1 0)), (1, .ref (ad 18 a1))] 0 [] := by
  rw [f_X2_rodsInAt_0] at h
  refine j_iconst (v := 0) C (by decide) dX2_rodsInAt_0 ?_
  refine j_istore_n (L' := [(2, .int (0 : Int32)), (0, .ref (ad 1 0)), (1, .ref (ad 18 a1))]) C rfl (by decide) rfl dX2_rodsInAt_1 ?_
  refine j_iconst (v := 0) C (by decide) dX2_rodsInAt_2 ?_
  refine j_istore_n (L' := [(3, .int (0 : Int32)), (2, .int (0 : Int32)), (0, .ref (ad 1 0)), (1, .ref (ad 18 a1))]) C rfl (by decide) rfl dX2_rodsInAt_3 ?_
  exact j_sub [2, 3, 1, 0] rfl (t_X2_rodsInAt_4 C FU a1 (0 : Int32) (0 : Int32) ha1 h)
set_option maxRecDepth 100000 in
set_option maxHeartbeats 4000000 in
theorem c_X2_rodsInAt {l : Launch} {g : Gc} {ad : Nat → Nat → Nat} {χ : Mem} {T : Nat → Mem} {σ : Mem} {a1 : Nat} (ha1 : a1 < gN χ 8 0) {rr : Int32} (h : f_X2_rodsInAt χ a1 = some rr) : Met l yX2_rodsInAt (WS yX2_rodsInAt cX2_rodsInAt 4 (some .int)) rm_X2_rodsInAt (PreW g ad χ T σ [.ref (ad 1 0), .ref (ad 18 a1)]) (PoI g ad χ T σ rr) 0 0 (geB g) := by
  refine j_metW (by decide) (Nat.le_of_ble_eq_true rfl) fun p e s m below meth c C hname => ?_
  rw [f_X2_rodsInAt] at h
  exact j_sub [0, 1] rfl (t_X2_rodsInAt_0 C a1 ha1 h)
set_option maxRecDepth 100000 in
set_option maxHeartbeats 4000000 in
theorem t_X7_layRodsAsColumns_45 {T : Nat → Mem} {σ : Mem} {t : Nat} {χ : Mem} (C : Cx p s m args meth c cX7_layRodsAsColumns 6 RX7 none COM g) (ht : t < 3) {rr : Mem} {k20 : Mem → Nat → Nat → Int32 → Option (Mem)} (hk20 : ∀ (τ : Mem) (v1 : Nat) (v2 : Nat) (v3 : Int32) (hv1 : v1 < 6 ∧ elK v1 = 19) (hv2 : v2 < 6 ∧ elK v2 = 18), k20 τ v1 v2 v3 = some rr → JJ p l e rm_X7_layRodsAsColumns s m args below meth c 6 g ad (MQ below (PoV g ad χ (stT T t (rr)) σ) args s 0 0 (geB g)) χ (stT T t τ) σ 0 0 [(0, .ref (ad 9 t)), (1, .ref (ad 16 v1)), (2, .ref (ad 16 v2)), (3, .int v3)] 20 []) : ∀ (n : Nat) (τ : Mem) (v1 : Nat) (v2 : Nat) (v3 : Int32) (v4 : Nat) (v5 : Int32) (hv1 : v1 < 6 ∧ elK v1 = 19) (hv2 : v2 < 6 ∧ elK v2 = 18) (hv4 : v4 < gN χ 8 0) (h : f_X7_layRodsAsColumns_45 χ k20 n τ v1 v2 v3 v4 v5 = some rr), JJ p l e rm_X7_layRodsAsColumns s m args below meth c 6 g ad (MQ below (PoV g ad χ (stT T t (rr)) σ) args s 0 0 (geB g)) χ (stT T t τ) σ 0 0 [(0, .ref (ad 9 t)), (1, .ref (ad 16 v1)), (2, .ref (ad 16 v2)), (3, .int v3), (4, .ref (ad 18 v4)), (5, .int v5)] 45 [] := by
  intro n
  induction n with
  | zero => intro  τ v1 v2 v3 v4 v5 hv1 hv2 hv4 h; cases h
  | succ n ih =>
  intro  τ v1 v2 v3 v4 v5 hv1 hv2 hv4 h
  rw [f_X7_layRodsAsColumns_45] at h
  refine j_iload C 5 rfl dX7_layRodsAsColumns_45 ?_
  refine j_aload_n C 0 rfl rfl dX7_layRodsAsColumns_47 ?_
  refine j_getG C in_X7 (by decide) (cwT_9 ht) rfl 6 (by decide) mw_170 (fun _ h => h) rfl dX7_layRodsAsColumns_48 ?_
  refine j_icmp_ge (tgt := 89) C (by decide) dX7_layRodsAsColumns_51 (fun hc1 => ?_) (fun hc1 => ?_)
  · replace h := (if_pos hc1).symm.trans h
    refine j_aload_n C 0 rfl rfl dX7_layRodsAsColumns_89 ?_
    refine j_getG C in_X7 (by decide) (cwT_9 ht) rfl 0 (by decide) mw_164 (fun _ h => h) rfl dX7_layRodsAsColumns_90 ?_
    refine j_iload_n C 3 rfl rfl dX7_layRodsAsColumns_93 ?_
    obtain ⟨hg2, h⟩ := gd_some h
    refine j_tabrow C ht hg2 dX7_layRodsAsColumns_94 ?_
    refine j_aload_n C 0 rfl rfl dX7_layRodsAsColumns_95 ?_
    refine j_getG C in_X7 (by decide) (cwT_9 ht) rfl 6 (by decide) mw_170 (fun _ h => h) rfl dX7_layRodsAsColumns_96 ?_
    refine j_iload_n C 3 rfl rfl dX7_layRodsAsColumns_99 ?_
    refine j_iconst (v := 2) C (by decide) dX7_layRodsAsColumns_100 ?_
    refine j_irem C (by decide) dX7_layRodsAsColumns_101 ?_
    refine j_if_ne (tgt := 114) C (by decide) dX7_layRodsAsColumns_102 (fun hc3 => ?_) (fun hc3 => ?_)
    · replace h := (if_neg hc3).symm.trans h
      refine j_aload C 4 rfl dX7_layRodsAsColumns_114 ?_
      refine j_getG C in_X4 (by decide) (cw_18 (χ := χ) hv4) rfl 5 (by decide) mw_350 (fun _ h => h) rfl dX7_layRodsAsColumns_116 ?_
      refine j_i2l C dX7_layRodsAsColumns_119 ?_
      obtain ⟨hg4, h⟩ := gd_some h
      refine j_lastP C (by decide) (po_row ht (inB_lt hg2) ((gI τ 4 0).toNatClampNeg) ((gI χ 5 v4).toInt64)) hg4 dX7_layRodsAsColumns_120 ?_
      refine j_iinc (v := v3 + (1 : Int32)) (L' := [(3, .int (v3 + (1 : Int32))), (0, .ref (ad 9 t)), (1, .ref (ad 16 v1)), (2, .ref (ad 16 v2)), (4, .ref (ad 18 v4)), (5, .int v5)]) C 3 rfl rfl (by decide) rfl dX7_layRodsAsColumns_121 ?_
      refine j_goto (tgt := 20) C (by decide) dX7_layRodsAsColumns_124 ?_
      exact j_sub [1, 2, 3, 0] rfl (hk20 (wL τ v3.toNatClampNeg ((gI τ 4 0).toNatClampNeg) ((gI χ 5 v4).toInt64)) v1 v2 (v3 + (1 : Int32)) hv1 hv2 h)
    · replace h := (if_pos hc3).symm.trans h
      refine j_aload C 4 rfl dX7_layRodsAsColumns_105 ?_
      refine j_getG C in_X4 (by decide) (cw_18 (χ := χ) hv4) rfl 4 (by decide) mw_347 (fun _ h => h) rfl dX7_layRodsAsColumns_107 ?_
      refine j_i2l C dX7_layRodsAsColumns_110 ?_
      refine j_goto (tgt := 120) C (by decide) dX7_layRodsAsColumns_111 ?_
      obtain ⟨hg5, h⟩ := gd_some h
      refine j_lastP C (by decide) (po_row ht (inB_lt hg2) ((gI τ 4 0).toNatClampNeg) ((gI χ 4 v4).toInt64)) hg5 dX7_layRodsAsColumns_120 ?_
      refine j_iinc (v := v3 + (1 : Int32)) (L' := [(3, .int (v3 + (1 : Int32))), (0, .ref (ad 9 t)), (1, .ref (ad 16 v1)), (2, .ref (ad 16 v2)), (4, .ref (ad 18 v4)), (5, .int v5)]) C 3 rfl rfl (by decide) rfl dX7_layRodsAsColumns_121 ?_
      refine j_goto (tgt := 20) C (by decide) dX7_layRodsAsColumns_124 ?_
      exact j_sub [1, 2, 3, 0] rfl (hk20 (wL τ v3.toNatClampNeg ((gI τ 4 0).toNatClampNeg) ((gI χ 4 v4).toInt64)) v1 v2 (v3 + (1 : Int32)) hv1 hv2 h)
  · replace h := (if_neg hc1).symm.trans h
    refine j_aload_n C 0 rfl rfl dX7_layRodsAsColumns_54 ?_
    refine j_getG C in_X7 (by decide) (cwT_9 ht) rfl 0 (by decide) mw_164 (fun _ h => h) rfl dX7_layRodsAsColumns_55 ?_
    refine j_iload_n C 3 rfl rfl dX7_layRodsAsColumns_58 ?_
    obtain ⟨hg6, h⟩ := gd_some h
    refine j_tabrow C ht hg6 dX7_layRodsAsColumns_59 ?_
    refine j_iload C 5 rfl dX7_layRodsAsColumns_60 ?_
    refine j_aload_n C 1 rfl rfl dX7_layRodsAsColumns_62 ?_
    refine j_iload C 5 rfl dX7_layRodsAsColumns_63 ?_
    obtain ⟨hg7, h⟩ := gd_some h
    refine j_wt (fun wt8 => ?_)
    refine j_lgetK (ek := 19) C hv1.1 hv1.2 hg7 mw_466 ⟨Nat.le_of_ble_eq_true rfl, Nat.le_of_ble_eq_true rfl⟩ (Nat.le_of_ble_eq_true rfl) dX7_layRodsAsColumns_65 ⟨Nat.zero_le _, Nat.zero_le _⟩ ?_
    refine j_castS (q := (RX5, TX5, 6)) C mw_467 (by decide) (cw_19 (χ := χ) (wt_19 wt8 hv1.1 hv1.2 hg7)) rfl dX7_layRodsAsColumns_70 ?_
    refine j_aload C 4 rfl dX7_layRodsAsColumns_73 ?_
    refine j_iload_n C 3 rfl rfl dX7_layRodsAsColumns_75 ?_
    refine j_iconst (v := 2) C (by decide) dX7_layRodsAsColumns_76 ?_
    refine j_irem C (by decide) dX7_layRodsAsColumns_77 ?_
    obtain ⟨q9, hq9, h⟩ := bi_some h
    refine j_callVi (As := [.ref (ad 18 v4), .int (v3 - v3 / (2 : Int32) * (2 : Int32))]) (rest := [.int v5, .ref (ad 11 (15 * t + v3.toNatClampNeg))]) C (c_X5_reach (wt_19 wt8 hv1.1 hv1.2 hg7) hv4 hq9) (cwV 2 C.ts (good_V mw_469 mw_470 mw_471 mw_82 mw_472) rfl rfl rfl (by decide +kernel) ⟨Nat.le_of_ble_eq_true rfl, Nat.le_of_ble_eq_true rfl⟩) (fun H hW => CW.rv C.k hW (by decide) (cw_19 (χ := χ) (wt_19 wt8 hv1.1 hv1.2 hg7)) rfl) rfl rfl (Nat.le_of_ble_eq_true rfl) dX7_layRodsAsColumns_78 ⟨Nat.zero_le _, Nat.zero_le _⟩ ?_
    refine j_i2l C dX7_layRodsAsColumns_81 ?_
    obtain ⟨hg10, h⟩ := gd_some h
    refine j_lastP C (by decide) (po_row ht (inB_lt hg6) v5.toNatClampNeg q9.toInt64) hg10 dX7_layRodsAsColumns_82 ?_
    refine j_iinc (v := v5 + (1 : Int32)) (L' := [(5, .int (v5 + (1 : Int32))), (0, .ref (ad 9 t)), (1, .ref (ad 16 v1)), (2, .ref (ad 16 v2)), (3, .int v3), (4, .ref (ad 18 v4))]) C 5 rfl rfl (by decide) rfl dX7_layRodsAsColumns_83 ?_
    refine j_goto (tgt := 45) C (by decide) dX7_layRodsAsColumns_86 ?_
    exact j_sub [1, 2, 3, 4, 5, 0] rfl (ih (wL τ v3.toNatClampNeg v5.toNatClampNeg q9.toInt64) v1 v2 v3 v4 (v5 + (1 : Int32)) hv1 hv2 hv4 h)
set_option maxRecDepth 100000 in
set_option maxHeartbeats 4000000 in
theorem t_X7_layRodsAsColumns_20 {T : Nat → Mem} {σ : Mem} {t : Nat} {χ : Mem} (C : Cx p s m args meth c cX7_layRodsAsColumns 6 RX7 none COM g) (ht : t < 3) {rr : Mem} : ∀ (n : Nat) (τ : Mem) (v1 : Nat) (v2 : Nat) (v3 : Int32) (hv1 : v1 < 6 ∧ elK v1 = 19) (hv2 : v2 < 6 ∧ elK v2 = 18) (h : f_X7_layRodsAsColumns_20 χ n τ v1 v2 v3 = some rr), JJ p l e rm_X7_layRodsAsColumns s m args below meth c 6 g ad (MQ below (PoV g ad χ (stT T t (rr)) σ) args s 0 0 (geB g)) χ (stT T t τ) σ 0 0 [(0, .ref (ad 9 t)), (1, .ref (ad 16 v1)), (2, .ref (ad 16 v2)), (3, .int v3)] 20 [] := by
  intro n
  induction n with
  | zero => intro  τ v1 v2 v3 hv1 hv2 h; cases h
  | succ n ih =>
  intro  τ v1 v2 v3 hv1 hv2 h
  rw [f_X7_layRodsAsColumns_20] at h
  refine j_iload_n C 3 rfl rfl dX7_layRodsAsColumns_20 ?_
  refine j_aload_n C 0 rfl rfl dX7_layRodsAsColumns_21 ?_
  refine j_getG C in_X7 (by decide) (cwT_9 ht) rfl 5 (by decide) mw_169 (fun _ h => h) rfl dX7_layRodsAsColumns_22 ?_
  refine j_icmp_ge (tgt := 127) C (by decide) dX7_layRodsAsColumns_25 (fun hc1 => ?_) (fun hc1 => ?_)
  · replace h := (if_pos hc1).symm.trans h
    obtain rfl := Option.some.inj h
    exact j_vret C rfl (Nat.le_refl _) (Nat.le_refl _) dX7_layRodsAsColumns_127
  · replace h := (if_neg hc1).symm.trans h
    refine j_aload_n C 2 rfl rfl dX7_layRodsAsColumns_28 ?_
    refine j_iload_n C 3 rfl rfl dX7_layRodsAsColumns_29 ?_
    refine j_iconst (v := 2) C (by decide) dX7_layRodsAsColumns_30 ?_
    refine j_idiv C (by decide) dX7_layRodsAsColumns_31 ?_
    obtain ⟨hg2, h⟩ := gd_some h
    refine j_wt (fun wt3 => ?_)
    refine j_lgetK (ek := 18) C hv2.1 hv2.2 hg2 mw_466 ⟨Nat.le_of_ble_eq_true rfl, Nat.le_of_ble_eq_true rfl⟩ (Nat.le_of_ble_eq_true rfl) dX7_layRodsAsColumns_32 ⟨Nat.zero_le _, Nat.zero_le _⟩ ?_
    refine j_castS (q := (RX4, TX4, 6)) C mw_468 (by decide) (cw_18 (χ := χ) (wt_18 wt3 hv2.1 hv2.2 hg2)) rfl dX7_layRodsAsColumns_37 ?_
    refine j_astore (L' := [(4, .ref (ad 18 (gN χ v2 (v3 / (2 : Int32)).toNatClampNeg))), (0, .ref (ad 9 t)), (1, .ref (ad 16 v1)), (2, .ref (ad 16 v2)), (3, .int v3)]) C (by decide) rfl dX7_layRodsAsColumns_40 ?_
    refine j_iconst (v := 0) C (by decide) dX7_layRodsAsColumns_42 ?_
    refine j_istore (L' := [(5, .int (0 : Int32)), (4, .ref (ad 18 (gN χ v2 (v3 / (2 : Int32)).toNatClampNeg))), (0, .ref (ad 9 t)), (1, .ref (ad 16 v1)), (2, .ref (ad 16 v2)), (3, .int v3)]) C (by decide) rfl dX7_layRodsAsColumns_43 ?_
    exact j_sub [2, 3, 4, 5, 1, 0] rfl (t_X7_layRodsAsColumns_45 C ht ih FU τ v1 v2 v3 (gN χ v2 (v3 / (2 : Int32)).toNatClampNeg) (0 : Int32) hv1 hv2 (wt_18 wt3 hv2.1 hv2.2 hg2) h)
set_option maxRecDepth 100000 in
set_option maxHeartbeats 4000000 in
theorem t_X7_layRodsAsColumns_0 {T : Nat → Mem} {σ : Mem} {t : Nat} {χ : Mem} (C : Cx p s m args meth c cX7_layRodsAsColumns 6 RX7 none COM g) (ht : t < 3) {rr : Mem} (τ : Mem) (a1 : Nat) (a2 : Nat) (ha1 : a1 < 6 ∧ elK a1 = 19) (ha2 : a2 < 6 ∧ elK a2 = 18) (h : f_X7_layRodsAsColumns_0 χ τ a1 a2 = some rr) : JJ p l e rm_X7_layRodsAsColumns s m args below meth c 6 g ad (MQ below (PoV g ad χ (stT T t (rr)) σ) args s 0 0 (geB g)) χ (stT T t τ) σ 0 0 [(0, .ref (ad 9 t)), (1, .ref (ad 16 a1)), (2, .ref (ad 16 a2))] 0 [] := by
  rw [f_X7_layRodsAsColumns_0] at h
  refine j_aload_n C 0 rfl rfl dX7_layRodsAsColumns_0 ?_
  refine j_iconst (v := 2) C (by decide) dX7_layRodsAsColumns_1 ?_
  refine j_aload_n C 2 rfl rfl dX7_layRodsAsColumns_2 ?_
  refine j_lsize C ha2.1 mw_459 ⟨Nat.le_of_ble_eq_true rfl, Nat.le_of_ble_eq_true rfl⟩ (Nat.le_of_ble_eq_true rfl) dX7_layRodsAsColumns_3 ⟨Nat.zero_le _, Nat.zero_le _⟩ ?_
  refine j_imul C dX7_layRodsAsColumns_8 ?_
  refine j_aload_n C 1 rfl rfl dX7_layRodsAsColumns_9 ?_
  refine j_lsize C ha1.1 mw_459 ⟨Nat.le_of_ble_eq_true rfl, Nat.le_of_ble_eq_true rfl⟩ (Nat.le_of_ble_eq_true rfl) dX7_layRodsAsColumns_10 ⟨Nat.zero_le _, Nat.zero_le _⟩ ?_
  obtain ⟨q1, hq1, h⟩ := bi_some h
  refine j_callVv (As := [.int ((2 : Int32) * (gI χ 14 a2)), .int (gI χ 14 a1)]) (rest := []) C (c_X7_start ht hq1) (cwV 2 C.ts (good_V mw_460 mw_462 mw_4 mw_69 mw_463) rfl rfl rfl (by decide +kernel) ⟨Nat.le_of_ble_eq_true rfl, Nat.le_of_ble_eq_true rfl⟩) (fun H hW => CW.rv C.k hW (by decide) (cwT_9 ht) rfl) rfl rfl (Nat.le_of_ble_eq_true rfl) dX7_layRodsAsColumns_15 ⟨Nat.zero_le _, Nat.zero_le _⟩ ?_
  refine j_iconst (v := 0) C (by decide) dX7_layRodsAsColumns_18 ?_
  refine j_istore_n (L' := [(3, .int (0 : Int32)), (0, .ref (ad 9 t)), (1, .ref (ad 16 a1)), (2, .ref (ad 16 a2))]) C rfl (by decide) rfl dX7_layRodsAsColumns_19 ?_
  exact j_sub [1, 2, 3, 0] rfl (t_X7_layRodsAsColumns_20 C ht FU q1 a1 a2 (0 : Int32) ha1 ha2 h)
set_option maxRecDepth 100000 in
set_option maxHeartbeats 4000000 in
theorem c_X7_layRodsAsColumns {l : Launch} {g : Gc} {ad : Nat → Nat → Nat} {χ : Mem} {T : Nat → Mem} {σ : Mem} {τ : Mem} {t : Nat} {a1 : Nat} {a2 : Nat} (ht : t < 3) (ha1 : a1 < 6 ∧ elK a1 = 19) (ha2 : a2 < 6 ∧ elK a2 = 18) {rr : Mem} (h : f_X7_layRodsAsColumns χ τ a1 a2 = some rr) : Met l yX7_layRodsAsColumns (WS yX7_layRodsAsColumns cX7_layRodsAsColumns 6 none) rm_X7_layRodsAsColumns (PreW g ad χ (stT T t τ) σ [.ref (ad 9 t), .ref (ad 16 a1), .ref (ad 16 a2)]) (PoV g ad χ (stT T t (rr)) σ) 0 0 (geB g) := by
  refine j_metW (by decide) (Nat.le_of_ble_eq_true rfl) fun p e s m below meth c C hname => ?_
  rw [f_X7_layRodsAsColumns] at h
  exact j_sub [0, 1, 2] rfl (t_X7_layRodsAsColumns_0 C ht τ a1 a2 ha1 ha2 h)
theorem cc_X7_layRodsAsColumns {l : Launch} {g : Gc} {ad : Nat → Nat → Nat} {χ : Mem} {T : Nat → Mem} {σ : Mem} {t : Nat} {a1 : Nat} {a2 : Nat} (ht : t < 3) (ha1 : a1 < 6 ∧ elK a1 = 19) (ha2 : a2 < 6 ∧ elK a2 = 18) {rr : Mem} (h : f_X7_layRodsAsColumns χ (T t) a1 a2 = some rr) : Met l yX7_layRodsAsColumns (WS yX7_layRodsAsColumns cX7_layRodsAsColumns 6 none) rm_X7_layRodsAsColumns (PreW g ad χ T σ [.ref (ad 9 t), .ref (ad 16 a1), .ref (ad 16 a2)]) (PoV g ad χ (stT T t (rr)) σ) 0 0 (geB g) := by
  have k := c_X7_layRodsAsColumns (l := l) (g := g) (ad := ad) (χ := χ) (T := T) (σ := σ) ht ha1 ha2 h
  rw [stT_self] at k
  exact k
set_option maxRecDepth 100000 in
set_option maxHeartbeats 4000000 in
theorem t_X7_layRodsAsRows_31 {T : Nat → Mem} {σ : Mem} {t : Nat} {χ : Mem} (C : Cx p s m args meth c cX7_layRodsAsRows 5 RX7 none COM g) (ht : t < 3) {rr : Mem} {k20 : Mem → Nat → Nat → Int32 → Option (Mem)} (hk20 : ∀ (τ : Mem) (v1 : Nat) (v2 : Nat) (v3 : Int32) (hv1 : v1 < 6 ∧ elK v1 = 19) (hv2 : v2 < 6 ∧ elK v2 = 18), k20 τ v1 v2 v3 = some rr → JJ p l e rm_X7_layRodsAsRows s m args below meth c 5 g ad (MQ below (PoV g ad χ (stT T t (rr)) σ) args s 0 0 (geB g)) χ (stT T t τ) σ 0 0 [(0, .ref (ad 9 t)), (1, .ref (ad 16 v1)), (2, .ref (ad 16 v2)), (3, .int v3)] 20 []) : ∀ (n : Nat) (τ : Mem) (v1 : Nat) (v2 : Nat) (v3 : Int32) (v4 : Int32) (hv1 : v1 < 6 ∧ elK v1 = 19) (hv2 : v2 < 6 ∧ elK v2 = 18) (h : f_X7_layRodsAsRows_31 χ k20 n τ v1 v2 v3 v4 = some rr), JJ p l e rm_X7_layRodsAsRows s m args below meth c 5 g ad (MQ below (PoV g ad χ (stT T t (rr)) σ) args s 0 0 (geB g)) χ (stT T t τ) σ 0 0 [(0, .ref (ad 9 t)), (1, .ref (ad 16 v1)), (2, .ref (ad 16 v2)), (3, .int v3), (4, .int v4)] 31 [] := by
  intro n
  induction n with
  | zero => intro  τ v1 v2 v3 v4 hv1 hv2 h; cases h
  | succ n ih =>
  intro  τ v1 v2 v3 v4 hv1 hv2 h
  rw [f_X7_layRodsAsRows_31] at h
  refine j_iload C 4 rfl dX7_layRodsAsRows_31 ?_
  refine j_aload_n C 0 rfl rfl dX7_layRodsAsRows_33 ?_
  refine j_getG C in_X7 (by decide) (cwT_9 ht) rfl 6 (by decide) mw_170 (fun _ h => h) rfl dX7_layRodsAsRows_34 ?_
  refine j_icmp_ge (tgt := 86) C (by decide) dX7_layRodsAsRows_37 (fun hc1 => ?_) (fun hc1 => ?_)
  · replace h := (if_pos hc1).symm.trans h
    refine j_aload_n C 0 rfl rfl dX7_layRodsAsRows_86 ?_
    refine j_getG C in_X7 (by decide) (cwT_9 ht) rfl 0 (by decide) mw_164 (fun _ h => h) rfl dX7_layRodsAsRows_87 ?_
    refine j_iload_n C 3 rfl rfl dX7_layRodsAsRows_90 ?_
    obtain ⟨hg2, h⟩ := gd_some h
    refine j_tabrow C ht hg2 dX7_layRodsAsRows_91 ?_
    refine j_aload_n C 0 rfl rfl dX7_layRodsAsRows_92 ?_
    refine j_getG C in_X7 (by decide) (cwT_9 ht) rfl 6 (by decide) mw_170 (fun _ h => h) rfl dX7_layRodsAsRows_93 ?_
    refine j_lconst (v := 0) C (by decide) dX7_layRodsAsRows_96 ?_
    obtain ⟨hg3, h⟩ := gd_some h
    refine j_lastP C (by decide) (po_row ht (inB_lt hg2) ((gI τ 4 0).toNatClampNeg) (0 : Int64)) hg3 dX7_layRodsAsRows_97 ?_
    refine j_iinc (v := v3 + (1 : Int32)) (L' := [(3, .int (v3 + (1 : Int32))), (0, .ref (ad 9 t)), (1, .ref (ad 16 v1)), (2, .ref (ad 16 v2)), (4, .int v4)]) C 3 rfl rfl (by decide) rfl dX7_layRodsAsRows_98 ?_
    refine j_goto (tgt := 20) C (by decide) dX7_layRodsAsRows_101 ?_
    exact j_sub [1, 2, 3, 0] rfl (hk20 (wL τ v3.toNatClampNeg ((gI τ 4 0).toNatClampNeg) (0 : Int64)) v1 v2 (v3 + (1 : Int32)) hv1 hv2 h)
  · replace h := (if_neg hc1).symm.trans h
    refine j_aload_n C 0 rfl rfl dX7_layRodsAsRows_40 ?_
    refine j_getG C in_X7 (by decide) (cwT_9 ht) rfl 0 (by decide) mw_164 (fun _ h => h) rfl dX7_layRodsAsRows_41 ?_
    refine j_iload_n C 3 rfl rfl dX7_layRodsAsRows_44 ?_
    obtain ⟨hg4, h⟩ := gd_some h
    refine j_tabrow C ht hg4 dX7_layRodsAsRows_45 ?_
    refine j_iload C 4 rfl dX7_layRodsAsRows_46 ?_
    refine j_aload_n C 1 rfl rfl dX7_layRodsAsRows_48 ?_
    refine j_iload_n C 3 rfl rfl dX7_layRodsAsRows_49 ?_
    obtain ⟨hg5, h⟩ := gd_some h
    refine j_wt (fun wt6 => ?_)
    refine j_lgetK (ek := 19) C hv1.1 hv1.2 hg5 mw_466 ⟨Nat.le_of_ble_eq_true rfl, Nat.le_of_ble_eq_true rfl⟩ (Nat.le_of_ble_eq_true rfl) dX7_layRodsAsRows_50 ⟨Nat.zero_le _, Nat.zero_le _⟩ ?_
    refine j_castS (q := (RX5, TX5, 6)) C mw_467 (by decide) (cw_19 (χ := χ) (wt_19 wt6 hv1.1 hv1.2 hg5)) rfl dX7_layRodsAsRows_55 ?_
    refine j_aload_n C 2 rfl rfl dX7_layRodsAsRows_58 ?_
    refine j_iload C 4 rfl dX7_layRodsAsRows_59 ?_
    refine j_iconst (v := 2) C (by decide) dX7_layRodsAsRows_61 ?_
    refine j_idiv C (by decide) dX7_layRodsAsRows_62 ?_
    obtain ⟨hg7, h⟩ := gd_some h
    refine j_wt (fun wt8 => ?_)
    refine j_lgetK (ek := 18) C hv2.1 hv2.2 hg7 mw_466 ⟨Nat.le_of_ble_eq_true rfl, Nat.le_of_ble_eq_true rfl⟩ (Nat.le_of_ble_eq_true rfl) dX7_layRodsAsRows_63 ⟨Nat.zero_le _, Nat.zero_le _⟩ ?_
    refine j_castS (q := (RX4, TX4, 6)) C mw_468 (by decide) (cw_18 (χ := χ) (wt_18 wt8 hv2.1 hv2.2 hg7)) rfl dX7_layRodsAsRows_68 ?_
    refine j_iload C 4 rfl dX7_layRodsAsRows_71 ?_
    refine j_iconst (v := 2) C (by decide) dX7_layRodsAsRows_73 ?_
    refine j_irem C (by decide) dX7_layRodsAsRows_74 ?_
    obtain ⟨q9, hq9, h⟩ := bi_some h
    refine j_callVi (As := [.ref (ad 18 (gN χ v2 (v4 / (2 : Int32)).toNatClampNeg)), .int (v4 - v4 / (2 : Int32) * (2 : Int32))]) (rest := [.int v4, .ref (ad 11 (15 * t + v3.toNatClampNeg))]) C (c_X5_reach (wt_19 wt6 hv1.1 hv1.2 hg5) (wt_18 wt8 hv2.1 hv2.2 hg7) hq9) (cwV 2 C.ts (good_V mw_469 mw_470 mw_471 mw_82 mw_472) rfl rfl rfl (by decide +kernel) ⟨Nat.le_of_ble_eq_true rfl, Nat.le_of_ble_eq_true rfl⟩) (fun H hW => CW.rv C.k hW (by decide) (cw_19 (χ := χ) (wt_19 wt6 hv1.1 hv1.2 hg5)) rfl) rfl rfl (Nat.le_of_ble_eq_true rfl) dX7_layRodsAsRows_75 ⟨Nat.zero_le _, Nat.zero_le _⟩ ?_
    refine j_i2l C dX7_layRodsAsRows_78 ?_
    obtain ⟨hg10, h⟩ := gd_some h
    refine j_lastP C (by decide) (po_row ht (inB_lt hg4) v4.toNatClampNeg q9.toInt64) hg10 dX7_layRodsAsRows_79 ?_
    refine j_iinc (v := v4 + (1 : Int32)) (L' := [(4, .int (v4 + (1 : Int32))), (0, .ref (ad 9 t)), (1, .ref (ad 16 v1)), (2, .ref (ad 16 v2)), (3, .int v3)]) C 4 rfl rfl (by decide) rfl dX7_layRodsAsRows_80 ?_
    refine j_goto (tgt := 31) C (by decide) dX7_layRodsAsRows_83 ?_
    exact j_sub [1, 2, 3, 4, 0] rfl (ih (wL τ v3.toNatClampNeg v4.toNatClampNeg q9.toInt64) v1 v2 v3 (v4 + (1 : Int32)) hv1 hv2 h)
set_option maxRecDepth 100000 in
set_option maxHeartbeats 4000000 in
theorem t_X7_layRodsAsRows_20 {T : Nat → Mem} {σ : Mem} {t : Nat} {χ : Mem} (C : Cx p s m args meth c cX7_layRodsAsRows 5 RX7 none COM g) (ht : t < 3) {rr : Mem} : ∀ (n : Nat) (τ : Mem) (v1 : Nat) (v2 : Nat) (v3 : Int32) (hv1 : v1 < 6 ∧ elK v1 = 19) (hv2 : v2 < 6 ∧ elK v2 = 18) (h : f_X7_layRodsAsRows_20 χ n τ v1 v2 v3 = some rr), JJ p l e rm_X7_layRodsAsRows s m args below meth c 5 g ad (MQ below (PoV g ad χ (stT T t (rr)) σ) args s 0 0 (geB g)) χ (stT T t τ) σ 0 0 [(0, .ref (ad 9 t)), (1, .ref (ad 16 v1)), (2, .ref (ad 16 v2)), (3, .int v3)] 20 [] := by
  intro n
  induction n with
  | zero => intro  τ v1 v2 v3 hv1 hv2 h; cases h
  | succ n ih =>
  intro  τ v1 v2 v3 hv1 hv2 h
  rw [f_X7_layRodsAsRows_20] at h
  refine j_iload_n C 3 rfl rfl dX7_layRodsAsRows_20 ?_
  refine j_aload_n C 0 rfl rfl dX7_layRodsAsRows_21 ?_
  refine j_getG C in_X7 (by decide) (cwT_9 ht) rfl 5 (by decide) mw_169 (fun _ h => h) rfl dX7_layRodsAsRows_22 ?_
  refine j_icmp_ge (tgt := 104) C (by decide) dX7_layRodsAsRows_25 (fun hc1 => ?_) (fun hc1 => ?_)
  · replace h := (if_pos hc1).symm.trans h
    obtain rfl := Option.some.inj h
    exact j_vret C rfl (Nat.le_refl _) (Nat.le_refl _) dX7_layRodsAsRows_104
  · replace h := (if_neg hc1).symm.trans h
    refine j_iconst (v := 0) C (by decide) dX7_layRodsAsRows_28 ?_
    refine j_istore (L' := [(4, .int (0 : Int32)), (0, .ref (ad 9 t)), (1, .ref (ad 16 v1)), (2, .ref (ad 16 v2)), (3, .int v3)]) C (by decide) rfl dX7_layRodsAsRows_29 ?_
    exact j_sub [1, 2, 3, 4, 0] rfl (t_X7_layRodsAsRows_31 C ht ih FU τ v1 v2 v3 (0 : Int32) hv1 hv2 h)
set_option maxRecDepth 100000 in
set_option maxHeartbeats 4000000 in
theorem t_X7_layRodsAsRows_0 {T : Nat → Mem} {σ : Mem} {t : Nat} {χ : Mem} (C : Cx p s m args meth c cX7_layRodsAsRows 5 RX7 none COM g) (ht : t < 3) {rr : Mem} (τ : Mem) (a1 : Nat) (a2 : Nat) (ha1 : a1 < 6 ∧ elK a1 = 19) (ha2 : a2 < 6 ∧ elK a2 = 18) (h : f_X7_layRodsAsRows_0 χ τ a1 a2 = some rr) : JJ p l e rm_X7_layRodsAsRows s m args below meth c 5 g ad (MQ below (PoV g ad χ (stT T t (rr)) σ) args s 0 0 (geB g)) χ (stT T t τ) σ 0 0 [(0, .ref (ad 9 t)), (1, .ref (ad 16 a1)), (2, .ref (ad 16 a2))] 0 [] := by
  rw [f_X7_layRodsAsRows_0] at h
  refine j_aload_n C 0 rfl rfl dX7_layRodsAsRows_0 ?_
  refine j_aload_n C 1 rfl rfl dX7_layRodsAsRows_1 ?_
  refine j_lsize C ha1.1 mw_459 ⟨Nat.le_of_ble_eq_true rfl, Nat.le_of_ble_eq_true rfl⟩ (Nat.le_of_ble_eq_true rfl) dX7_layRodsAsRows_2 ⟨Nat.zero_le _, Nat.zero_le _⟩ ?_
  refine j_iconst (v := 2) C (by decide) dX7_layRodsAsRows_7 ?_
  refine j_aload_n C 2 rfl rfl dX7_layRodsAsRows_8 ?_
  refine j_lsize C ha2.1 mw_459 ⟨Nat.le_of_ble_eq_true rfl, Nat.le_of_ble_eq_true rfl⟩ (Nat.le_of_ble_eq_true rfl) dX7_layRodsAsRows_9 ⟨Nat.zero_le _, Nat.zero_le _⟩ ?_
  refine j_imul C dX7_layRodsAsRows_14 ?_
  obtain ⟨q1, hq1, h⟩ := bi_some h
  refine j_callVv (As := [.int (gI χ 14 a1), .int ((2 : Int32) * (gI χ 14 a2))]) (rest := []) C (c_X7_start ht hq1) (cwV 2 C.ts (good_V mw_460 mw_462 mw_4 mw_69 mw_463) rfl rfl rfl (by decide +kernel) ⟨Nat.le_of_ble_eq_true rfl, Nat.le_of_ble_eq_true rfl⟩) (fun H hW => CW.rv C.k hW (by decide) (cwT_9 ht) rfl) rfl rfl (Nat.le_of_ble_eq_true rfl) dX7_layRodsAsRows_15 ⟨Nat.zero_le _, Nat.zero_le _⟩ ?_
  refine j_iconst (v := 0) C (by decide) dX7_layRodsAsRows_18 ?_
  refine j_istore_n (L' := [(3, .int (0 : Int32)), (0, .ref (ad 9 t)), (1, .ref (ad 16 a1)), (2, .ref (ad 16 a2))]) C rfl (by decide) rfl dX7_layRodsAsRows_19 ?_
  exact j_sub [1, 2, 3, 0] rfl (t_X7_layRodsAsRows_20 C ht FU q1 a1 a2 (0 : Int32) ha1 ha2 h)
set_option maxRecDepth 100000 in
set_option maxHeartbeats 4000000 in
theorem c_X7_layRodsAsRows {l : Launch} {g : Gc} {ad : Nat → Nat → Nat} {χ : Mem} {T : Nat → Mem} {σ : Mem} {τ : Mem} {t : Nat} {a1 : Nat} {a2 : Nat} (ht : t < 3) (ha1 : a1 < 6 ∧ elK a1 = 19) (ha2 : a2 < 6 ∧ elK a2 = 18) {rr : Mem} (h : f_X7_layRodsAsRows χ τ a1 a2 = some rr) : Met l yX7_layRodsAsRows (WS yX7_layRodsAsRows cX7_layRodsAsRows 5 none) rm_X7_layRodsAsRows (PreW g ad χ (stT T t τ) σ [.ref (ad 9 t), .ref (ad 16 a1), .ref (ad 16 a2)]) (PoV g ad χ (stT T t (rr)) σ) 0 0 (geB g) := by
  refine j_metW (by decide) (Nat.le_of_ble_eq_true rfl) fun p e s m below meth c C hname => ?_
  rw [f_X7_layRodsAsRows] at h
  exact j_sub [0, 1, 2] rfl (t_X7_layRodsAsRows_0 C ht τ a1 a2 ha1 ha2 h)
theorem cc_X7_layRodsAsRows {l : Launch} {g : Gc} {ad : Nat → Nat → Nat} {χ : Mem} {T : Nat → Mem} {σ : Mem} {t : Nat} {a1 : Nat} {a2 : Nat} (ht : t < 3) (ha1 : a1 < 6 ∧ elK a1 = 19) (ha2 : a2 < 6 ∧ elK a2 = 18) {rr : Mem} (h : f_X7_layRodsAsRows χ (T t) a1 a2 = some rr) : Met l yX7_layRodsAsRows (WS yX7_layRodsAsRows cX7_layRodsAsRows 5 none) rm_X7_layRodsAsRows (PreW g ad χ T σ [.ref (ad 9 t), .ref (ad 16 a1), .ref (ad 16 a2)]) (PoV g ad χ (stT T t (rr)) σ) 0 0 (geB g) := by
  have k := c_X7_layRodsAsRows (l := l) (g := g) (ad := ad) (χ := χ) (T := T) (σ := σ) ht ha1 ha2 h
  rw [stT_self] at k
  exact k
set_option maxRecDepth 100000 in
set_option maxHeartbeats 4000000 in
theorem t_X0_isCarried_0 {σ : Mem} {χ : Mem} {T : Nat → Mem} (C : Cx p s m args meth c cX0_isCarried 1 RX0 (some .boolean) COM g) {rr : Int32} (h : f_X0_isCarried_0 χ T = some rr) : JJ p l e rm_X0_isCarried s m args below meth c 1 g ad (MQ below (PoI g ad χ T σ rr) args s 0 0 (geB g)) χ T σ 0 0 [(0, .ref (ad 2 0))] 0 [] := by
  rw [f_X0_isCarried_0] at h
  refine j_aload_n C 0 rfl rfl dX0_isCarried_0 ?_
  refine j_getG C in_X0 (by decide) cw_2 rfl 2 (by decide) mw_194 (fun _ h => h) rfl dX0_isCarried_1 ?_
  obtain ⟨q1, hq1, h⟩ := bi_some h
  refine j_callVi (As := []) (rest := []) C (cc_X7_hasSolution (T := T) (t := 1) (by decide) hq1) (cwV 0 C.ts (good_V mw_812 mw_813 mw_814 mw_69 mw_815) rfl rfl rfl (by decide +kernel) ⟨Nat.le_of_ble_eq_true rfl, Nat.le_of_ble_eq_true rfl⟩) (fun H hW => CW.rv C.k hW (by decide) (cw_9 (by decide)) rfl) rfl rfl (Nat.le_of_ble_eq_true rfl) dX0_isCarried_4 ⟨Nat.zero_le _, Nat.zero_le _⟩ ?_
  obtain ⟨hg2, h⟩ := gd_some h
  obtain rfl := Option.some.inj h
  exact j_iret C rfl (bo_nar hg2) (Nat.le_refl _) (Nat.le_refl _) dX0_isCarried_7
set_option maxRecDepth 100000 in
set_option maxHeartbeats 4000000 in
theorem c_X0_isCarried {l : Launch} {g : Gc} {ad : Nat → Nat → Nat} {χ : Mem} {T : Nat → Mem} {σ : Mem} {rr : Int32} (h : f_X0_isCarried χ T = some rr) : Met l yX0_isCarried (WS yX0_isCarried cX0_isCarried 1 (some .boolean)) rm_X0_isCarried (PreW g ad χ T σ [.ref (ad 2 0)]) (PoI g ad χ T σ rr) 0 0 (geB g) := by
  refine j_metW (by decide) (Nat.le_of_ble_eq_true rfl) fun p e s m below meth c C hname => ?_
  rw [f_X0_isCarried] at h
  exact j_sub [0] rfl (t_X0_isCarried_0 C h)
set_option maxRecDepth 100000 in
set_option maxHeartbeats 4000000 in
theorem t_X0_columnOf_2 {σ : Mem} {χ : Mem} {T : Nat → Mem} (C : Cx p s m args meth c cX0_columnOf 3 RX0 (some .int) COM g) {rr : Int32} : ∀ (n : Nat) (v1 : Nat) (v2 : Int32) (hv1 : v1 < gN χ 8 1) (h : f_X0_columnOf_2 χ T n v1 v2 = some rr), JJ p l e rm_X0_columnOf s m args below meth c 3 g ad (MQ below (PoI g ad χ T σ rr) args s 0 0 (geB g)) χ T σ 0 0 [(0, .ref (ad 2 0)), (1, .ref (ad 19 v1)), (2, .int v2)] 2 [] := by
  intro n
  induction n with
  | zero => intro  v1 v2 hv1 h; cases h
  | succ n ih =>
  intro  v1 v2 hv1 h
  rw [f_X0_columnOf_2] at h
  refine j_iload_n C 2 rfl rfl dX0_columnOf_2 ?_
  refine j_aload_n C 0 rfl rfl dX0_columnOf_3 ?_
  refine j_getG C in_X0 (by decide) cw_2 rfl 0 (by decide) mw_192 (fun _ h => h) rfl dX0_columnOf_4 ?_
  refine j_getG C in_X2 (by decide) cw_1 rfl 3 (by decide) mw_140 (fun _ h => h) rfl dX0_columnOf_7 ?_
  refine j_lsize C (by decide) mw_734 ⟨Nat.le_of_ble_eq_true rfl, Nat.le_of_ble_eq_true rfl⟩ (Nat.le_of_ble_eq_true rfl) dX0_columnOf_10 ⟨Nat.zero_le _, Nat.zero_le _⟩ ?_
  refine j_icmp_ge (tgt := 43) C (by decide) dX0_columnOf_15 (fun hc1 => ?_) (fun hc1 => ?_)
  · replace h := (if_pos hc1).symm.trans h
    refine j_iconst (v := -1) C (by decide) dX0_columnOf_43 ?_
    obtain rfl := Option.some.inj h
    exact j_iret C rfl rfl (Nat.le_refl _) (Nat.le_refl _) dX0_columnOf_44
  · replace h := (if_neg hc1).symm.trans h
    refine j_aload_n C 0 rfl rfl dX0_columnOf_18 ?_
    refine j_getG C in_X0 (by decide) cw_2 rfl 0 (by decide) mw_192 (fun _ h => h) rfl dX0_columnOf_19 ?_
    refine j_getG C in_X2 (by decide) cw_1 rfl 3 (by decide) mw_140 (fun _ h => h) rfl dX0_columnOf_22 ?_
    refine j_iload_n C 2 rfl rfl dX0_columnOf_25 ?_
    obtain ⟨hg2, h⟩ := gd_some h
    refine j_wt (fun wt3 => ?_)
    refine j_lgetK (ek := 19) C (by decide) (by decide) hg2 mw_736 ⟨Nat.le_of_ble_eq_true rfl, Nat.le_of_ble_eq_true rfl⟩ (Nat.le_of_ble_eq_true rfl) dX0_columnOf_26 ⟨Nat.zero_le _, Nat.zero_le _⟩ ?_
    refine j_aload_n C 1 rfl rfl dX0_columnOf_31 ?_
    refine j_acmp_ne (tgt := 37) C (by decide) (cw_19 (χ := χ) (wt_19 wt3 (by decide) (by decide) hg2)) (cw_19 (χ := χ) hv1) (by decide) dX0_columnOf_32 (fun hc4 => ?_) (fun hc4 => ?_)
    · replace h := (if_neg hc4).symm.trans h
      refine j_iinc (v := v2 + (1 : Int32)) (L' := [(2, .int (v2 + (1 : Int32))), (0, .ref (ad 2 0)), (1, .ref (ad 19 v1))]) C 2 rfl rfl (by decide) rfl dX0_columnOf_37 ?_
      refine j_goto (tgt := 2) C (by decide) dX0_columnOf_40 ?_
      exact j_sub [1, 2, 0] rfl (ih v1 (v2 + (1 : Int32)) hv1 h)
    · replace h := (if_pos hc4).symm.trans h
      refine j_iload_n C 2 rfl rfl dX0_columnOf_35 ?_
      obtain rfl := Option.some.inj h
      exact j_iret C rfl rfl (Nat.le_refl _) (Nat.le_refl _) dX0_columnOf_36
set_option maxRecDepth 100000 in
set_option maxHeartbeats 4000000 in
theorem t_X0_columnOf_0 {σ : Mem} {χ : Mem} {T : Nat → Mem} (C : Cx p s m args meth c cX0_columnOf 3 RX0 (some .int) COM g) {rr : Int32} (a1 : Nat) (ha1 : a1 < gN χ 8 1) (h : f_X0_columnOf_0 χ T a1 = some rr) : JJ p l e rm_X0_columnOf s m args below meth c 3 g ad (MQ below (PoI g ad χ T σ rr) args s 0 0 (geB g)) χ T σ 0 0 [(0, .ref (ad 2 0)), (1, .ref (ad 19 a1))] 0 [] := by
  rw [f_X0_columnOf_0] at h
  refine j_iconst (v := 0) C (by decide) dX0_columnOf_0 ?_
  refine j_istore_n (L' := [(2, .int (0 : Int32)), (0, .ref (ad 2 0)), (1, .ref (ad 19 a1))]) C rfl (by decide) rfl dX0_columnOf_1 ?_
  exact j_sub [1, 2, 0] rfl (t_X0_columnOf_2 C FU a1 (0 : Int32) ha1 h)
set_option maxRecDepth 100000 in
set_option maxHeartbeats 4000000 in
theorem c_X0_columnOf {l : Launch} {g : Gc} {ad : Nat → Nat → Nat} {χ : Mem} {T : Nat → Mem} {σ : Mem} {a1 : Nat} (ha1 : a1 < gN χ 8 1) {rr : Int32} (h : f_X0_columnOf χ T a1 = some rr) : Met l yX0_columnOf (WS yX0_columnOf cX0_columnOf 3 (some .int)) rm_X0_columnOf (PreW g ad χ T σ [.ref (ad 2 0), .ref (ad 19 a1)]) (PoI g ad χ T σ rr) 0 0 (geB g) := by
  refine j_metW (by decide) (Nat.le_of_ble_eq_true rfl) fun p e s m below meth c C hname => ?_
  rw [f_X0_columnOf] at h
  exact j_sub [0, 1] rfl (t_X0_columnOf_0 C a1 ha1 h)
set_option maxRecDepth 100000 in
set_option maxHeartbeats 4000000 in
theorem t_X0_forceAbove_0 {σ : Mem} {χ : Mem} {T : Nat → Mem} (C : Cx p s m args meth c cX0_forceAbove 2 RX0 (some .long) COM g) {rr : Int64} (a1 : Nat) (ha1 : a1 < gN χ 8 1) (h : f_X0_forceAbove_0 χ T a1 = some rr) : JJ p l e rm_X0_forceAbove s m args below meth c 2 g ad (MQ below (PoL g ad χ T σ rr) args s 0 0 (geB g)) χ T σ 0 0 [(0, .ref (ad 2 0)), (1, .ref (ad 19 a1))] 0 [] := by
  rw [f_X0_forceAbove_0] at h
  refine j_aload_n C 1 rfl rfl dX0_forceAbove_0 ?_
  refine j_getG C in_X5 (by decide) (cw_19 (χ := χ) ha1) rfl 5 (by decide) mw_664 (fun _ h => h) rfl dX0_forceAbove_1 ?_
  refine j_if_eq (tgt := 22) C (by decide) dX0_forceAbove_4 (fun hc1 => ?_) (fun hc1 => ?_)
  · replace h := (if_pos hc1).symm.trans h
    refine j_lconst (v := 0) C (by decide) dX0_forceAbove_22 ?_
    obtain rfl := Option.some.inj h
    exact j_lret C rfl (Nat.le_refl _) (Nat.le_refl _) dX0_forceAbove_23
  · replace h := (if_neg hc1).symm.trans h
    refine j_aload_n C 0 rfl rfl dX0_forceAbove_7 ?_
    refine j_getG C in_X0 (by decide) cw_2 rfl 2 (by decide) mw_194 (fun _ h => h) rfl dX0_forceAbove_8 ?_
    refine j_aload_n C 0 rfl rfl dX0_forceAbove_11 ?_
    refine j_aload_n C 1 rfl rfl dX0_forceAbove_12 ?_
    obtain ⟨q2, hq2, h⟩ := bi_some h
    refine j_callVi (As := [.ref (ad 19 a1)]) (rest := [.ref (ad 9 1)]) C (c_X0_columnOf ha1 hq2) (cwV 1 C.ts (good_V mw_729 mw_731 mw_20 mw_68 mw_732) rfl rfl rfl (by decide +kernel) ⟨Nat.le_of_ble_eq_true rfl, Nat.le_of_ble_eq_true rfl⟩) (fun H hW => CW.rv C.k hW (by decide) cw_2 rfl) rfl rfl (Nat.le_of_ble_eq_true rfl) dX0_forceAbove_13 ⟨Nat.zero_le _, Nat.zero_le _⟩ ?_
    obtain ⟨q3, hq3, h⟩ := bi_some h
    refine j_callVl (As := [.int q2]) (rest := []) C (cc_X7_solutionAbove (T := T) (t := 1) (by decide) hq3) (cwV 1 C.ts (good_V mw_824 mw_825 mw_826 mw_69 mw_827) rfl rfl rfl (by decide +kernel) ⟨Nat.le_of_ble_eq_true rfl, Nat.le_of_ble_eq_true rfl⟩) (fun H hW => CW.rv C.k hW (by decide) (cw_9 (by decide)) rfl) rfl rfl (Nat.le_of_ble_eq_true rfl) dX0_forceAbove_16 ⟨Nat.zero_le _, Nat.zero_le _⟩ ?_
    refine j_goto (tgt := 23) C (by decide) dX0_forceAbove_19 ?_
    obtain rfl := Option.some.inj h
    exact j_lret C rfl (Nat.le_refl _) (Nat.le_refl _) dX0_forceAbove_23
set_option maxRecDepth 100000 in
set_option maxHeartbeats 4000000 in
theorem c_X0_forceAbove {l : Launch} {g : Gc} {ad : Nat → Nat → Nat} {χ : Mem} {T : Nat → Mem} {σ : Mem} {a1 : Nat} (ha1 : a1 < gN χ 8 1) {rr : Int64} (h : f_X0_forceAbove χ T a1 = some rr) : Met l yX0_forceAbove (WS yX0_forceAbove cX0_forceAbove 2 (some .long)) rm_X0_forceAbove (PreW g ad χ T σ [.ref (ad 2 0), .ref (ad 19 a1)]) (PoL g ad χ T σ rr) 0 0 (geB g) := by
  refine j_metW (by decide) (Nat.le_of_ble_eq_true rfl) fun p e s m below meth c C hname => ?_
  rw [f_X0_forceAbove] at h
  exact j_sub [0, 1] rfl (t_X0_forceAbove_0 C a1 ha1 h)
set_option maxRecDepth 100000 in
set_option maxHeartbeats 4000000 in
theorem t_X0_forceBelow_0 {σ : Mem} {χ : Mem} {T : Nat → Mem} (C : Cx p s m args meth c cX0_forceBelow 2 RX0 (some .long) COM g) {rr : Int64} (a1 : Nat) (ha1 : a1 < gN χ 8 1) (h : f_X0_forceBelow_0 χ T a1 = some rr) : JJ p l e rm_X0_forceBelow s m args below meth c 2 g ad (MQ below (PoL g ad χ T σ rr) args s 0 0 (geB g)) χ T σ 0 0 [(0, .ref (ad 2 0)), (1, .ref (ad 19 a1))] 0 [] := by
  rw [f_X0_forceBelow_0] at h
  refine j_aload_n C 1 rfl rfl dX0_forceBelow_0 ?_
  refine j_getG C in_X5 (by decide) (cw_19 (χ := χ) ha1) rfl 5 (by decide) mw_664 (fun _ h => h) rfl dX0_forceBelow_1 ?_
  refine j_if_eq (tgt := 22) C (by decide) dX0_forceBelow_4 (fun hc1 => ?_) (fun hc1 => ?_)
  · replace h := (if_pos hc1).symm.trans h
    refine j_lconst (v := 1) C (by decide) dX0_forceBelow_22 ?_
    obtain rfl := Option.some.inj h
    exact j_lret C rfl (Nat.le_refl _) (Nat.le_refl _) dX0_forceBelow_23
  · replace h := (if_neg hc1).symm.trans h
    refine j_aload_n C 0 rfl rfl dX0_forceBelow_7 ?_
    refine j_getG C in_X0 (by decide) cw_2 rfl 2 (by decide) mw_194 (fun _ h => h) rfl dX0_forceBelow_8 ?_
    refine j_aload_n C 0 rfl rfl dX0_forceBelow_11 ?_
    refine j_aload_n C 1 rfl rfl dX0_forceBelow_12 ?_
    obtain ⟨q2, hq2, h⟩ := bi_some h
    refine j_callVi (As := [.ref (ad 19 a1)]) (rest := [.ref (ad 9 1)]) C (c_X0_columnOf ha1 hq2) (cwV 1 C.ts (good_V mw_729 mw_731 mw_20 mw_68 mw_732) rfl rfl rfl (by decide +kernel) ⟨Nat.le_of_ble_eq_true rfl, Nat.le_of_ble_eq_true rfl⟩) (fun H hW => CW.rv C.k hW (by decide) cw_2 rfl) rfl rfl (Nat.le_of_ble_eq_true rfl) dX0_forceBelow_13 ⟨Nat.zero_le _, Nat.zero_le _⟩ ?_
    obtain ⟨q3, hq3, h⟩ := bi_some h
    refine j_callVl (As := [.int q2]) (rest := []) C (cc_X7_solutionBelow (T := T) (t := 1) (by decide) hq3) (cwV 1 C.ts (good_V mw_832 mw_833 mw_834 mw_69 mw_835) rfl rfl rfl (by decide +kernel) ⟨Nat.le_of_ble_eq_true rfl, Nat.le_of_ble_eq_true rfl⟩) (fun H hW => CW.rv C.k hW (by decide) (cw_9 (by decide)) rfl) rfl rfl (Nat.le_of_ble_eq_true rfl) dX0_forceBelow_16 ⟨Nat.zero_le _, Nat.zero_le _⟩ ?_
    refine j_goto (tgt := 23) C (by decide) dX0_forceBelow_19 ?_
    obtain rfl := Option.some.inj h
    exact j_lret C rfl (Nat.le_refl _) (Nat.le_refl _) dX0_forceBelow_23
set_option maxRecDepth 100000 in
set_option maxHeartbeats 4000000 in
theorem c_X0_forceBelow {l : Launch} {g : Gc} {ad : Nat → Nat → Nat} {χ : Mem} {T : Nat → Mem} {σ : Mem} {a1 : Nat} (ha1 : a1 < gN χ 8 1) {rr : Int64} (h : f_X0_forceBelow χ T a1 = some rr) : Met l yX0_forceBelow (WS yX0_forceBelow cX0_forceBelow 2 (some .long)) rm_X0_forceBelow (PreW g ad χ T σ [.ref (ad 2 0), .ref (ad 19 a1)]) (PoL g ad χ T σ rr) 0 0 (geB g) := by
  refine j_metW (by decide) (Nat.le_of_ble_eq_true rfl) fun p e s m below meth c C hname => ?_
  rw [f_X0_forceBelow] at h
  exact j_sub [0, 1] rfl (t_X0_forceBelow_0 C a1 ha1 h)
set_option maxRecDepth 100000 in
set_option maxHeartbeats 4000000 in
theorem t_X0_motionCount_0 {σ : Mem} {χ : Mem} {T : Nat → Mem} (C : Cx p s m args meth c cX0_motionCount 1 RX0 (some .int) COM g) {rr : Int32} (h : f_X0_motionCount_0 χ T = some rr) : JJ p l e rm_X0_motionCount s m args below meth c 1 g ad (MQ below (PoI g ad χ T σ rr) args s 0 0 (geB g)) χ T σ 0 0 [(0, .ref (ad 2 0))] 0 [] := by
  rw [f_X0_motionCount_0] at h
  refine j_aload_n C 0 rfl rfl dX0_motionCount_0 ?_
  refine j_getG C in_X0 (by decide) cw_2 rfl 1 (by decide) mw_193 (fun _ h => h) rfl dX0_motionCount_1 ?_
  obtain ⟨q1, hq1, h⟩ := bi_some h
  refine j_callVi (As := []) (rest := []) C (cc_X7_looseColumns (T := T) (t := 0) (by decide) hq1) (cwV 0 C.ts (good_V mw_700 mw_701 mw_702 mw_69 mw_703) rfl rfl rfl (by decide +kernel) ⟨Nat.le_of_ble_eq_true rfl, Nat.le_of_ble_eq_true rfl⟩) (fun H hW => CW.rv C.k hW (by decide) (cw_9 (by decide)) rfl) rfl rfl (Nat.le_of_ble_eq_true rfl) dX0_motionCount_4 ⟨Nat.zero_le _, Nat.zero_le _⟩ ?_
  obtain rfl := Option.some.inj h
  exact j_iret C rfl rfl (Nat.le_refl _) (Nat.le_refl _) dX0_motionCount_7
set_option maxRecDepth 100000 in
set_option maxHeartbeats 4000000 in
theorem c_X0_motionCount {l : Launch} {g : Gc} {ad : Nat → Nat → Nat} {χ : Mem} {T : Nat → Mem} {σ : Mem} {rr : Int32} (h : f_X0_motionCount χ T = some rr) : Met l yX0_motionCount (WS yX0_motionCount cX0_motionCount 1 (some .int)) rm_X0_motionCount (PreW g ad χ T σ [.ref (ad 2 0)]) (PoI g ad χ T σ rr) 0 0 (geB g) := by
  refine j_metW (by decide) (Nat.le_of_ble_eq_true rfl) fun p e s m below meth c C hname => ?_
  rw [f_X0_motionCount] at h
  exact j_sub [0] rfl (t_X0_motionCount_0 C h)
set_option maxRecDepth 100000 in
set_option maxHeartbeats 4000000 in
theorem t_X0_motionNumber_3 {σ : Mem} {χ : Mem} {T : Nat → Mem} (C : Cx p s m args meth c cX0_motionNumber 5 RX0 (some .long) COM g) {rr : Int64} : ∀ (n : Nat) (v1 : Int32) (v2 : Nat) (v3 : Int32) (v4 : Int32) (hv2 : v2 < gN χ 8 0) (h : f_X0_motionNumber_3 χ T n v1 v2 v3 v4 = some rr), JJ p l e rm_X0_motionNumber s m args below meth c 5 g ad (MQ below (PoL g ad χ T σ rr) args s 0 0 (geB g)) χ T σ 0 0 [(0, .ref (ad 2 0)), (1, .int v1), (2, .ref (ad 18 v2)), (3, .int v3), (4, .int v4)] 3 [] := by
  intro n
  induction n with
  | zero => intro  v1 v2 v3 v4 hv2 h; cases h
  | succ n ih =>
  intro  v1 v2 v3 v4 hv2 h
  rw [f_X0_motionNumber_3] at h
  refine j_iload C 4 rfl dX0_motionNumber_3 ?_
  refine j_aload_n C 0 rfl rfl dX0_motionNumber_5 ?_
  refine j_getG C in_X0 (by decide) cw_2 rfl 0 (by decide) mw_192 (fun _ h => h) rfl dX0_motionNumber_6 ?_
  refine j_getG C in_X2 (by decide) cw_1 rfl 2 (by decide) mw_134 (fun _ h => h) rfl dX0_motionNumber_9 ?_
  refine j_lsize C (by decide) mw_734 ⟨Nat.le_of_ble_eq_true rfl, Nat.le_of_ble_eq_true rfl⟩ (Nat.le_of_ble_eq_true rfl) dX0_motionNumber_12 ⟨Nat.zero_le _, Nat.zero_le _⟩ ?_
  refine j_icmp_ge (tgt := 59) C (by decide) dX0_motionNumber_17 (fun hc1 => ?_) (fun hc1 => ?_)
  · replace h := (if_pos hc1).symm.trans h
    refine j_lconst (v := 0) C (by decide) dX0_motionNumber_59 ?_
    obtain rfl := Option.some.inj h
    exact j_lret C rfl (Nat.le_refl _) (Nat.le_refl _) dX0_motionNumber_60
  · replace h := (if_neg hc1).symm.trans h
    refine j_aload_n C 0 rfl rfl dX0_motionNumber_20 ?_
    refine j_getG C in_X0 (by decide) cw_2 rfl 0 (by decide) mw_192 (fun _ h => h) rfl dX0_motionNumber_21 ?_
    refine j_getG C in_X2 (by decide) cw_1 rfl 2 (by decide) mw_134 (fun _ h => h) rfl dX0_motionNumber_24 ?_
    refine j_iload C 4 rfl dX0_motionNumber_27 ?_
    obtain ⟨hg2, h⟩ := gd_some h
    refine j_wt (fun wt3 => ?_)
    refine j_lgetK (ek := 18) C (by decide) (by decide) hg2 mw_736 ⟨Nat.le_of_ble_eq_true rfl, Nat.le_of_ble_eq_true rfl⟩ (Nat.le_of_ble_eq_true rfl) dX0_motionNumber_29 ⟨Nat.zero_le _, Nat.zero_le _⟩ ?_
    refine j_aload_n C 2 rfl rfl dX0_motionNumber_34 ?_
    refine j_acmp_ne (tgt := 53) C (by decide) (cw_18 (χ := χ) (wt_18 wt3 (by decide) (by decide) hg2)) (cw_18 (χ := χ) hv2) (by decide) dX0_motionNumber_35 (fun hc4 => ?_) (fun hc4 => ?_)
    · replace h := (if_neg hc4).symm.trans h
      refine j_iinc (v := v4 + (1 : Int32)) (L' := [(4, .int (v4 + (1 : Int32))), (0, .ref (ad 2 0)), (1, .int v1), (2, .ref (ad 18 v2)), (3, .int v3)]) C 4 rfl rfl (by decide) rfl dX0_motionNumber_53 ?_
      refine j_goto (tgt := 3) C (by decide) dX0_motionNumber_56 ?_
      exact j_sub [1, 2, 3, 4, 0] rfl (ih v1 v2 v3 (v4 + (1 : Int32)) hv2 h)
    · replace h := (if_pos hc4).symm.trans h
      refine j_aload_n C 0 rfl rfl dX0_motionNumber_38 ?_
      refine j_getG C in_X0 (by decide) cw_2 rfl 1 (by decide) mw_193 (fun _ h => h) rfl dX0_motionNumber_39 ?_
      refine j_iload_n C 1 rfl rfl dX0_motionNumber_42 ?_
      refine j_iconst (v := 2) C (by decide) dX0_motionNumber_43 ?_
      refine j_iload C 4 rfl dX0_motionNumber_44 ?_
      refine j_imul C dX0_motionNumber_46 ?_
      refine j_iload_n C 3 rfl rfl dX0_motionNumber_47 ?_
      refine j_iadd C dX0_motionNumber_48 ?_
      obtain ⟨q5, hq5, h⟩ := bi_some h
      refine j_callVl (As := [.int v1, .int (((2 : Int32) * v4) + v3)]) (rest := []) C (cc_X7_answer (T := T) (t := 0) (by decide) hq5) (cwV 2 C.ts (good_V mw_737 mw_738 mw_739 mw_69 mw_740) rfl rfl rfl (by decide +kernel) ⟨Nat.le_of_ble_eq_true rfl, Nat.le_of_ble_eq_true rfl⟩) (fun H hW => CW.rv C.k hW (by decide) (cw_9 (by decide)) rfl) rfl rfl (Nat.le_of_ble_eq_true rfl) dX0_motionNumber_49 ⟨Nat.zero_le _, Nat.zero_le _⟩ ?_
      obtain rfl := Option.some.inj h
      exact j_lret C rfl (Nat.le_refl _) (Nat.le_refl _) dX0_motionNumber_52
set_option maxRecDepth 100000 in
set_option maxHeartbeats 4000000 in
theorem t_X0_motionNumber_0 {σ : Mem} {χ : Mem} {T : Nat → Mem} (C : Cx p s m args meth c cX0_motionNumber 5 RX0 (some .long) COM g) {rr : Int64} (a1 : Int32) (a2 : Nat) (a3 : Int32) (ha2 : a2 < gN χ 8 0) (h : f_X0_motionNumber_0 χ T a1 a2 a3 = some rr) : JJ p l e rm_X0_motionNumber s m args below meth c 5 g ad (MQ below (PoL g ad χ T σ rr) args s 0 0 (geB g)) χ T σ 0 0 [(0, .ref (ad 2 0)), (1, .int a1), (2, .ref (ad 18 a2)), (3, .int a3)] 0 [] := by
  rw [f_X0_motionNumber_0] at h
  refine j_iconst (v := 0) C (by decide) dX0_motionNumber_0 ?_
  refine j_istore (L' := [(4, .int (0 : Int32)), (0, .ref (ad 2 0)), (1, .int a1), (2, .ref (ad 18 a2)), (3, .int a3)]) C (by decide) rfl dX0_motionNumber_1 ?_
  exact j_sub [1, 2, 3, 4, 0] rfl (t_X0_motionNumber_3 C FU a1 a2 a3 (0 : Int32) ha2 h)
set_option maxRecDepth 100000 in
set_option maxHeartbeats 4000000 in
theorem c_X0_motionNumber {l : Launch} {g : Gc} {ad : Nat → Nat → Nat} {χ : Mem} {T : Nat → Mem} {σ : Mem} {a1 : Int32} {a2 : Nat} {a3 : Int32} (ha2 : a2 < gN χ 8 0) {rr : Int64} (h : f_X0_motionNumber χ T a1 a2 a3 = some rr) : Met l yX0_motionNumber (WS yX0_motionNumber cX0_motionNumber 5 (some .long)) rm_X0_motionNumber (PreW g ad χ T σ [.ref (ad 2 0), .int a1, .ref (ad 18 a2), .int a3]) (PoL g ad χ T σ rr) 0 0 (geB g) := by
  refine j_metW (by decide) (Nat.le_of_ble_eq_true rfl) fun p e s m below meth c C hname => ?_
  rw [f_X0_motionNumber] at h
  exact j_sub [0, 1, 2, 3] rfl (t_X0_motionNumber_0 C a1 a2 a3 ha2 h)
set_option maxRecDepth 100000 in
set_option maxHeartbeats 4000000 in
theorem t_X0_stressCount_0 {σ : Mem} {χ : Mem} {T : Nat → Mem} (C : Cx p s m args meth c cX0_stressCount 1 RX0 (some .int) COM g) {rr : Int32} (h : f_X0_stressCount_0 χ T = some rr) : JJ p l e rm_X0_stressCount s m args below meth c 1 g ad (MQ below (PoI g ad χ T σ rr) args s 0 0 (geB g)) χ T σ 0 0 [(0, .ref (ad 2 0))] 0 [] := by
  rw [f_X0_stressCount_0] at h
  refine j_aload_n C 0 rfl rfl dX0_stressCount_0 ?_
  refine j_getG C in_X0 (by decide) cw_2 rfl 2 (by decide) mw_194 (fun _ h => h) rfl dX0_stressCount_1 ?_
  obtain ⟨q1, hq1, h⟩ := bi_some h
  refine j_callVi (As := []) (rest := []) C (cc_X7_looseColumns (T := T) (t := 1) (by decide) hq1) (cwV 0 C.ts (good_V mw_700 mw_701 mw_702 mw_69 mw_703) rfl rfl rfl (by decide +kernel) ⟨Nat.le_of_ble_eq_true rfl, Nat.le_of_ble_eq_true rfl⟩) (fun H hW => CW.rv C.k hW (by decide) (cw_9 (by decide)) rfl) rfl rfl (Nat.le_of_ble_eq_true rfl) dX0_stressCount_4 ⟨Nat.zero_le _, Nat.zero_le _⟩ ?_
  obtain rfl := Option.some.inj h
  exact j_iret C rfl rfl (Nat.le_refl _) (Nat.le_refl _) dX0_stressCount_7
set_option maxRecDepth 100000 in
set_option maxHeartbeats 4000000 in
theorem c_X0_stressCount {l : Launch} {g : Gc} {ad : Nat → Nat → Nat} {χ : Mem} {T : Nat → Mem} {σ : Mem} {rr : Int32} (h : f_X0_stressCount χ T = some rr) : Met l yX0_stressCount (WS yX0_stressCount cX0_stressCount 1 (some .int)) rm_X0_stressCount (PreW g ad χ T σ [.ref (ad 2 0)]) (PoI g ad χ T σ rr) 0 0 (geB g) := by
  refine j_metW (by decide) (Nat.le_of_ble_eq_true rfl) fun p e s m below meth c C hname => ?_
  rw [f_X0_stressCount] at h
  exact j_sub [0] rfl (t_X0_stressCount_0 C h)
set_option maxRecDepth 100000 in
set_option maxHeartbeats 4000000 in
theorem t_X0_stressNumber_0 {σ : Mem} {χ : Mem} {T : Nat → Mem} (C : Cx p s m args meth c cX0_stressNumber 3 RX0 (some .long) COM g) {rr : Int64} (a1 : Int32) (a2 : Nat) (ha2 : a2 < gN χ 8 1) (h : f_X0_stressNumber_0 χ T a1 a2 = some rr) : JJ p l e rm_X0_stressNumber s m args below meth c 3 g ad (MQ below (PoL g ad χ T σ rr) args s 0 0 (geB g)) χ T σ 0 0 [(0, .ref (ad 2 0)), (1, .int a1), (2, .ref (ad 19 a2))] 0 [] := by
  rw [f_X0_stressNumber_0] at h
  refine j_aload_n C 2 rfl rfl dX0_stressNumber_0 ?_
  refine j_getG C in_X5 (by decide) (cw_19 (χ := χ) ha2) rfl 5 (by decide) mw_664 (fun _ h => h) rfl dX0_stressNumber_1 ?_
  refine j_if_eq (tgt := 23) C (by decide) dX0_stressNumber_4 (fun hc1 => ?_) (fun hc1 => ?_)
  · replace h := (if_pos hc1).symm.trans h
    refine j_lconst (v := 0) C (by decide) dX0_stressNumber_23 ?_
    obtain rfl := Option.some.inj h
    exact j_lret C rfl (Nat.le_refl _) (Nat.le_refl _) dX0_stressNumber_24
  · replace h := (if_neg hc1).symm.trans h
    refine j_aload_n C 0 rfl rfl dX0_stressNumber_7 ?_
    refine j_getG C in_X0 (by decide) cw_2 rfl 2 (by decide) mw_194 (fun _ h => h) rfl dX0_stressNumber_8 ?_
    refine j_iload_n C 1 rfl rfl dX0_stressNumber_11 ?_
    refine j_aload_n C 0 rfl rfl dX0_stressNumber_12 ?_
    refine j_aload_n C 2 rfl rfl dX0_stressNumber_13 ?_
    obtain ⟨q2, hq2, h⟩ := bi_some h
    refine j_callVi (As := [.ref (ad 19 a2)]) (rest := [.int a1, .ref (ad 9 1)]) C (c_X0_columnOf ha2 hq2) (cwV 1 C.ts (good_V mw_729 mw_731 mw_20 mw_68 mw_732) rfl rfl rfl (by decide +kernel) ⟨Nat.le_of_ble_eq_true rfl, Nat.le_of_ble_eq_true rfl⟩) (fun H hW => CW.rv C.k hW (by decide) cw_2 rfl) rfl rfl (Nat.le_of_ble_eq_true rfl) dX0_stressNumber_14 ⟨Nat.zero_le _, Nat.zero_le _⟩ ?_
    obtain ⟨q3, hq3, h⟩ := bi_some h
    refine j_callVl (As := [.int a1, .int q2]) (rest := []) C (cc_X7_answer (T := T) (t := 1) (by decide) hq3) (cwV 2 C.ts (good_V mw_737 mw_738 mw_739 mw_69 mw_740) rfl rfl rfl (by decide +kernel) ⟨Nat.le_of_ble_eq_true rfl, Nat.le_of_ble_eq_true rfl⟩) (fun H hW => CW.rv C.k hW (by decide) (cw_9 (by decide)) rfl) rfl rfl (Nat.le_of_ble_eq_true rfl) dX0_stressNumber_17 ⟨Nat.zero_le _, Nat.zero_le _⟩ ?_
    refine j_goto (tgt := 24) C (by decide) dX0_stressNumber_20 ?_
    obtain rfl := Option.some.inj h
    exact j_lret C rfl (Nat.le_refl _) (Nat.le_refl _) dX0_stressNumber_24
set_option maxRecDepth 100000 in
set_option maxHeartbeats 4000000 in
theorem c_X0_stressNumber {l : Launch} {g : Gc} {ad : Nat → Nat → Nat} {χ : Mem} {T : Nat → Mem} {σ : Mem} {a1 : Int32} {a2 : Nat} (ha2 : a2 < gN χ 8 1) {rr : Int64} (h : f_X0_stressNumber χ T a1 a2 = some rr) : Met l yX0_stressNumber (WS yX0_stressNumber cX0_stressNumber 3 (some .long)) rm_X0_stressNumber (PreW g ad χ T σ [.ref (ad 2 0), .int a1, .ref (ad 19 a2)]) (PoL g ad χ T σ rr) 0 0 (geB g) := by
  refine j_metW (by decide) (Nat.le_of_ble_eq_true rfl) fun p e s m below meth c C hname => ?_
  rw [f_X0_stressNumber] at h
  exact j_sub [0, 1, 2] rfl (t_X0_stressNumber_0 C a1 a2 ha2 h)
set_option maxRecDepth 100000 in
set_option maxHeartbeats 4000000 in
theorem t_X0_workOf_5 {σ : Mem} {χ : Mem} {T : Nat → Mem} (C : Cx p s m args meth c cX0_workOf 6 RX0 (some .long) COM g) {rr : Int64} : ∀ (n : Nat) (v1 : Int32) (v2 : Int64) (v4 : Int32) (h : f_X0_workOf_5 χ T n v1 v2 v4 = some rr), JJ p l e rm_X0_workOf s m args below meth c 6 g ad (MQ below (PoL g ad χ T σ rr) args s 0 0 (geB g)) χ T σ 0 0 [(0, .ref (ad 2 0)), (1, .int v1), (2, .long v2), (4, .int v4)] 5 [] := by
  intro n
  induction n with
  | zero => intro  v1 v2 v4  h; cases h
  | succ n ih =>
  intro  v1 v2 v4  h
  rw [f_X0_workOf_5] at h
  refine j_iload C 3 rfl dX0_workOf_5 ?_
  refine j_aload_n C 0 rfl rfl dX0_workOf_7 ?_
  refine j_getG C in_X0 (by decide) cw_2 rfl 0 (by decide) mw_192 (fun _ h => h) rfl dX0_workOf_8 ?_
  refine j_getG C in_X2 (by decide) cw_1 rfl 2 (by decide) mw_134 (fun _ h => h) rfl dX0_workOf_11 ?_
  refine j_lsize C (by decide) mw_734 ⟨Nat.le_of_ble_eq_true rfl, Nat.le_of_ble_eq_true rfl⟩ (Nat.le_of_ble_eq_true rfl) dX0_workOf_14 ⟨Nat.zero_le _, Nat.zero_le _⟩ ?_
  refine j_icmp_ge (tgt := 93) C (by decide) dX0_workOf_19 (fun hc1 => ?_) (fun hc1 => ?_)
  · replace h := (if_pos hc1).symm.trans h
    refine j_lload_n C 2 rfl rfl dX0_workOf_93 ?_
    obtain rfl := Option.some.inj h
    exact j_lret C rfl (Nat.le_refl _) (Nat.le_refl _) dX0_workOf_94
  · replace h := (if_neg hc1).symm.trans h
    refine j_aload_n C 0 rfl rfl dX0_workOf_22 ?_
    refine j_getG C in_X0 (by decide) cw_2 rfl 0 (by decide) mw_192 (fun _ h => h) rfl dX0_workOf_23 ?_
    refine j_getG C in_X2 (by decide) cw_1 rfl 2 (by decide) mw_134 (fun _ h => h) rfl dX0_workOf_26 ?_
    refine j_iload C 3 rfl dX0_workOf_29 ?_
    obtain ⟨hg2, h⟩ := gd_some h
    refine j_wt (fun wt3 => ?_)
    refine j_lgetK (ek := 18) C (by decide) (by decide) hg2 mw_736 ⟨Nat.le_of_ble_eq_true rfl, Nat.le_of_ble_eq_true rfl⟩ (Nat.le_of_ble_eq_true rfl) dX0_workOf_31 ⟨Nat.zero_le _, Nat.zero_le _⟩ ?_
    refine j_castS (q := (RX4, TX4, 6)) C mw_844 (by decide) (cw_18 (χ := χ) (wt_18 wt3 (by decide) (by decide) hg2)) rfl dX0_workOf_36 ?_
    refine j_astore (L' := [(5, .ref (ad 18 (gN χ 2 v4.toNatClampNeg))), (0, .ref (ad 2 0)), (1, .int v1), (2, .long v2), (4, .int v4)]) C (by decide) rfl dX0_workOf_39 ?_
    refine j_lload_n C 3 rfl rfl dX0_workOf_41 ?_
    refine j_aload_n C 1 rfl rfl dX0_workOf_42 ?_
    refine j_getG C in_X0 (by decide) cw_2 rfl 1 (by decide) mw_193 (fun _ h => h) rfl dX0_workOf_43 ?_
    refine j_iload_n C 2 rfl rfl dX0_workOf_46 ?_
    refine j_iconst (v := 2) C (by decide) dX0_workOf_47 ?_
    refine j_iload C 4 rfl dX0_workOf_48 ?_
    refine j_imul C dX0_workOf_50 ?_
    obtain ⟨q4, hq4, h⟩ := bi_some h
    refine j_callVl (As := [.int v1, .int ((2 : Int32) * v4)]) (rest := [.long v2]) C (cc_X7_answer (T := T) (t := 0) (by decide) hq4) (cwV 2 C.ts (good_V mw_737 mw_738 mw_739 mw_69 mw_740) rfl rfl rfl (by decide +kernel) ⟨Nat.le_of_ble_eq_true rfl, Nat.le_of_ble_eq_true rfl⟩) (fun H hW => CW.rv C.k hW (by decide) (cw_9 (by decide)) rfl) rfl rfl (Nat.le_of_ble_eq_true rfl) dX0_workOf_51 ⟨Nat.zero_le _, Nat.zero_le _⟩ ?_
    refine j_aload C 0 rfl dX0_workOf_54 ?_
    refine j_getG C in_X4 (by decide) (cw_18 (χ := χ) (wt_18 wt3 (by decide) (by decide) hg2)) rfl 4 (by decide) mw_349 (fun _ h => h) rfl dX0_workOf_56 ?_
    refine j_i2l C dX0_workOf_59 ?_
    refine j_lmul C dX0_workOf_60 ?_
    refine j_ladd C dX0_workOf_61 ?_
    refine j_lstore_n (L' := [(2, .long (v2 + (q4 * ((gI χ 4 (gN χ 2 v4.toNatClampNeg)).toInt64)))), (5, .ref (ad 18 (gN χ 2 v4.toNatClampNeg))), (0, .ref (ad 2 0)), (1, .int v1), (4, .int v4)]) C rfl (by decide) rfl dX0_workOf_62 ?_
    refine j_lload_n C 0 rfl rfl dX0_workOf_63 ?_
    refine j_aload_n C 2 rfl rfl dX0_workOf_64 ?_
    refine j_getG C in_X0 (by decide) cw_2 rfl 1 (by decide) mw_193 (fun _ h => h) rfl dX0_workOf_65 ?_
    refine j_iload_n C 3 rfl rfl dX0_workOf_68 ?_
    refine j_iconst (v := 2) C (by decide) dX0_workOf_69 ?_
    refine j_iload C 4 rfl dX0_workOf_70 ?_
    refine j_imul C dX0_workOf_72 ?_
    refine j_iconst (v := 1) C (by decide) dX0_workOf_73 ?_
    refine j_iadd C dX0_workOf_74 ?_
    obtain ⟨q5, hq5, h⟩ := bi_some h
    refine j_callVl (As := [.int v1, .int (((2 : Int32) * v4) + (1 : Int32))]) (rest := [.long (v2 + (q4 * ((gI χ 4 (gN χ 2 v4.toNatClampNeg)).toInt64)))]) C (cc_X7_answer (T := T) (t := 0) (by decide) hq5) (cwV 2 C.ts (good_V mw_737 mw_738 mw_739 mw_69 mw_740) rfl rfl rfl (by decide +kernel) ⟨Nat.le_of_ble_eq_true rfl, Nat.le_of_ble_eq_true rfl⟩) (fun H hW => CW.rv C.k hW (by decide) (cw_9 (by decide)) rfl) rfl rfl (Nat.le_of_ble_eq_true rfl) dX0_workOf_75 ⟨Nat.zero_le _, Nat.zero_le _⟩ ?_
    refine j_aload C 1 rfl dX0_workOf_78 ?_
    refine j_getG C in_X4 (by decide) (cw_18 (χ := χ) (wt_18 wt3 (by decide) (by decide) hg2)) rfl 5 (by decide) mw_352 (fun _ h => h) rfl dX0_workOf_80 ?_
    refine j_i2l C dX0_workOf_83 ?_
    refine j_lmul C dX0_workOf_84 ?_
    refine j_ladd C dX0_workOf_85 ?_
    refine j_lstore_n (L' := [(2, .long ((v2 + (q4 * ((gI χ 4 (gN χ 2 v4.toNatClampNeg)).toInt64))) + (q5 * ((gI χ 5 (gN χ 2 v4.toNatClampNeg)).toInt64)))), (5, .ref (ad 18 (gN χ 2 v4.toNatClampNeg))), (0, .ref (ad 2 0)), (1, .int v1), (4, .int v4)]) C rfl (by decide) rfl dX0_workOf_86 ?_
    refine j_iinc (v := v4 + (1 : Int32)) (L' := [(4, .int (v4 + (1 : Int32))), (2, .long ((v2 + (q4 * ((gI χ 4 (gN χ 2 v4.toNatClampNeg)).toInt64))) + (q5 * ((gI χ 5 (gN χ 2 v4.toNatClampNeg)).toInt64)))), (5, .ref (ad 18 (gN χ 2 v4.toNatClampNeg))), (0, .ref (ad 2 0)), (1, .int v1)]) C 4 rfl rfl (by decide) rfl dX0_workOf_87 ?_
    refine j_goto (tgt := 5) C (by decide) dX0_workOf_90 ?_
    exact j_sub [3, 4, 1, 0] rfl (ih v1 ((v2 + (q4 * ((gI χ 4 (gN χ 2 v4.toNatClampNeg)).toInt64))) + (q5 * ((gI χ 5 (gN χ 2 v4.toNatClampNeg)).toInt64))) (v4 + (1 : Int32)) h)
set_option maxRecDepth 100000 in
set_option maxHeartbeats 4000000 in
theorem t_X0_workOf_0 {σ : Mem} {χ : Mem} {T : Nat → Mem} (C : Cx p s m args meth c cX0_workOf 6 RX0 (some .long) COM g) {rr : Int64} (a1 : Int32) (h : f_X0_workOf_0 χ T a1 = some rr) : JJ p l e rm_X0_workOf s m args below meth c 6 g ad (MQ below (PoL g ad χ T σ rr) args s 0 0 (geB g)) χ T σ 0 0 [(0, .ref (ad 2 0)), (1, .int a1)] 0 [] := by
  rw [f_X0_workOf_0] at h
  refine j_lconst (v := 0) C (by decide) dX0_workOf_0 ?_
  refine j_lstore_n (L' := [(2, .long (0 : Int64)), (0, .ref (ad 2 0)), (1, .int a1)]) C rfl (by decide) rfl dX0_workOf_1 ?_
  refine j_iconst (v := 0) C (by decide) dX0_workOf_2 ?_
  refine j_istore (L' := [(4, .int (0 : Int32)), (2, .long (0 : Int64)), (0, .ref (ad 2 0)), (1, .int a1)]) C (by decide) rfl dX0_workOf_3 ?_
  exact j_sub [2, 3, 1, 0] rfl (t_X0_workOf_5 C FU a1 (0 : Int64) (0 : Int32) h)
set_option maxRecDepth 100000 in
set_option maxHeartbeats 4000000 in
theorem c_X0_workOf {l : Launch} {g : Gc} {ad : Nat → Nat → Nat} {χ : Mem} {T : Nat → Mem} {σ : Mem} {a1 : Int32} {rr : Int64} (h : f_X0_workOf χ T a1 = some rr) : Met l yX0_workOf (WS yX0_workOf cX0_workOf 6 (some .long)) rm_X0_workOf (PreW g ad χ T σ [.ref (ad 2 0), .int a1]) (PoL g ad χ T σ rr) 0 0 (geB g) := by
  refine j_metW (by decide) (Nat.le_of_ble_eq_true rfl) fun p e s m below meth c C hname => ?_
  rw [f_X0_workOf] at h
  exact j_sub [0, 1] rfl (t_X0_workOf_0 C a1 h)
set_option maxRecDepth 100000 in
set_option maxHeartbeats 4000000 in
theorem t_X0_renew_0 {σ : Mem} (C : Cx p s m args meth c cX0_renew 1 RX0 none COM g) {rr : (Mem × (Nat → Mem))} (χ : Mem) (T : Nat → Mem) (h : f_X0_renew_0 χ T = some rr) : JJ p l e rm_X0_renew s m args below meth c 1 g ad (MQ below (PoV g ad rr.1 rr.2 σ) args s 0 0 (geB g)) χ T σ 0 0 [(0, .ref (ad 2 0))] 0 [] := by
  rw [f_X0_renew_0] at h
  refine j_aload_n C 0 rfl rfl dX0_renew_0 ?_
  refine j_getG C in_X0 (by decide) cw_2 rfl 1 (by decide) mw_193 (fun _ h => h) rfl dX0_renew_1 ?_
  refine j_aload_n C 0 rfl rfl dX0_renew_4 ?_
  refine j_getG C in_X0 (by decide) cw_2 rfl 0 (by decide) mw_192 (fun _ h => h) rfl dX0_renew_5 ?_
  refine j_getG C in_X2 (by decide) cw_1 rfl 3 (by decide) mw_140 (fun _ h => h) rfl dX0_renew_8 ?_
  refine j_aload_n C 0 rfl rfl dX0_renew_11 ?_
  refine j_getG C in_X0 (by decide) cw_2 rfl 0 (by decide) mw_192 (fun _ h => h) rfl dX0_renew_12 ?_
  refine j_getG C in_X2 (by decide) cw_1 rfl 2 (by decide) mw_134 (fun _ h => h) rfl dX0_renew_15 ?_
  obtain ⟨q1, hq1, h⟩ := bi_some h
  refine j_callVv (As := [.ref (ad 16 3), .ref (ad 16 2)]) (rest := []) C (cc_X7_layRodsAsRows (T := T) (t := 0) (by decide) ⟨by decide, by decide⟩ ⟨by decide, by decide⟩ hq1) (cwV 2 C.ts (good_V mw_454 mw_455 mw_456 mw_69 mw_457) rfl rfl rfl (by decide +kernel) ⟨Nat.le_of_ble_eq_true rfl, Nat.le_of_ble_eq_true rfl⟩) (fun H hW => CW.rv C.k hW (by decide) (cw_9 (by decide)) rfl) rfl rfl (Nat.le_of_ble_eq_true rfl) dX0_renew_18 ⟨Nat.zero_le _, Nat.zero_le _⟩ ?_
  refine j_aload_n C 0 rfl rfl dX0_renew_21 ?_
  refine j_getG C in_X0 (by decide) cw_2 rfl 1 (by decide) mw_193 (fun _ h => h) rfl dX0_renew_22 ?_
  obtain ⟨q2, hq2, h⟩ := bi_some h
  refine j_callVv (As := []) (rest := []) C (cc_X7_reduce (T := (stT T 0 q1)) (t := 0) (by decide) hq2) (cwV 0 C.ts (good_V mw_477 mw_478 mw_479 mw_69 mw_480) rfl rfl rfl (by decide +kernel) ⟨Nat.le_of_ble_eq_true rfl, Nat.le_of_ble_eq_true rfl⟩) (fun H hW => CW.rv C.k hW (by decide) (cw_9 (by decide)) rfl) rfl rfl (Nat.le_of_ble_eq_true rfl) dX0_renew_25 ⟨Nat.zero_le _, Nat.zero_le _⟩ ?_
  refine j_aload_n C 0 rfl rfl dX0_renew_28 ?_
  refine j_getG C in_X0 (by decide) cw_2 rfl 2 (by decide) mw_194 (fun _ h => h) rfl dX0_renew_29 ?_
  refine j_aload_n C 0 rfl rfl dX0_renew_32 ?_
  refine j_getG C in_X0 (by decide) cw_2 rfl 0 (by decide) mw_192 (fun _ h => h) rfl dX0_renew_33 ?_
  refine j_getG C in_X2 (by decide) cw_1 rfl 3 (by decide) mw_140 (fun _ h => h) rfl dX0_renew_36 ?_
  refine j_aload_n C 0 rfl rfl dX0_renew_39 ?_
  refine j_getG C in_X0 (by decide) cw_2 rfl 0 (by decide) mw_192 (fun _ h => h) rfl dX0_renew_40 ?_
  refine j_getG C in_X2 (by decide) cw_1 rfl 2 (by decide) mw_134 (fun _ h => h) rfl dX0_renew_43 ?_
  obtain ⟨q3, hq3, h⟩ := bi_some h
  refine j_callVv (As := [.ref (ad 16 3), .ref (ad 16 2)]) (rest := []) C (cc_X7_layRodsAsColumns (T := (stT (stT T 0 q1) 0 q2)) (t := 1) (by decide) ⟨by decide, by decide⟩ ⟨by decide, by decide⟩ hq3) (cwV 2 C.ts (good_V mw_522 mw_523 mw_524 mw_69 mw_525) rfl rfl rfl (by decide +kernel) ⟨Nat.le_of_ble_eq_true rfl, Nat.le_of_ble_eq_true rfl⟩) (fun H hW => CW.rv C.k hW (by decide) (cw_9 (by decide)) rfl) rfl rfl (Nat.le_of_ble_eq_true rfl) dX0_renew_46 ⟨Nat.zero_le _, Nat.zero_le _⟩ ?_
  refine j_aload_n C 0 rfl rfl dX0_renew_49 ?_
  refine j_getG C in_X0 (by decide) cw_2 rfl 2 (by decide) mw_194 (fun _ h => h) rfl dX0_renew_50 ?_
  obtain ⟨q4, hq4, h⟩ := bi_some h
  refine j_callVv (As := []) (rest := []) C (cc_X7_reduce (T := (stT (stT (stT T 0 q1) 0 q2) 1 q3)) (t := 1) (by decide) hq4) (cwV 0 C.ts (good_V mw_477 mw_478 mw_479 mw_69 mw_480) rfl rfl rfl (by decide +kernel) ⟨Nat.le_of_ble_eq_true rfl, Nat.le_of_ble_eq_true rfl⟩) (fun H hW => CW.rv C.k hW (by decide) (cw_9 (by decide)) rfl) rfl rfl (Nat.le_of_ble_eq_true rfl) dX0_renew_53 ⟨Nat.zero_le _, Nat.zero_le _⟩ ?_
  obtain rfl := Option.some.inj h
  exact j_vret C rfl (Nat.le_refl _) (Nat.le_refl _) dX0_renew_56
set_option maxRecDepth 100000 in
set_option maxHeartbeats 4000000 in
theorem c_X0_renew {l : Launch} {g : Gc} {ad : Nat → Nat → Nat} {χ : Mem} {T : Nat → Mem} {σ : Mem} {rr : (Mem × (Nat → Mem))} (h : f_X0_renew χ T = some rr) : Met l yX0_renew (WS yX0_renew cX0_renew 1 none) rm_X0_renew (PreW g ad χ T σ [.ref (ad 2 0)]) (PoV g ad rr.1 rr.2 σ) 0 0 (geB g) := by
  refine j_metW (by decide) (Nat.le_of_ble_eq_true rfl) fun p e s m below meth c C hname => ?_
  rw [f_X0_renew] at h
  exact j_sub [0] rfl (t_X0_renew_0 C χ T h)
set_option maxRecDepth 100000 in
set_option maxHeartbeats 4000000 in
theorem t_X1_bitOf_0 {χ : Mem} {T : Nat → Mem} {σ : Mem} (C : Cx p s m args meth c cX1_bitOf 1 RX1 (some .int) COM g) {rr : Int32} (a1 : Int32) (h : f_X1_bitOf_0 a1 = some rr) : JJ p l e rm_X1_bitOf s m args below meth c 1 g ad (MQ below (PoI g ad χ T σ rr) args s 0 0 (geB g)) χ T σ 0 0 [(0, .int a1)] 0 [] := by
  rw [f_X1_bitOf_0] at h
  refine j_bipush (v := 64) C (by decide) dX1_bitOf_0 ?_
  refine j_iload_n C 0 rfl rfl dX1_bitOf_2 ?_
  refine j_iconst (v := 1) C (by decide) dX1_bitOf_3 ?_
  refine j_iadd C dX1_bitOf_4 ?_
  refine j_ishr C dX1_bitOf_5 ?_
  obtain rfl := Option.some.inj h
  exact j_iret C rfl rfl (Nat.le_refl _) (Nat.le_refl _) dX1_bitOf_6
set_option maxRecDepth 100000 in
set_option maxHeartbeats 4000000 in
theorem c_X1_bitOf {l : Launch} {g : Gc} {ad : Nat → Nat → Nat} {χ : Mem} {T : Nat → Mem} {σ : Mem} {a1 : Int32} {rr : Int32} (h : f_X1_bitOf a1 = some rr) : Met l yX1_bitOf (WS yX1_bitOf cX1_bitOf 1 (some .int)) rm_X1_bitOf (PreW g ad χ T σ [.int a1]) (PoI g ad χ T σ rr) 0 0 (geB g) := by
  refine j_metW (by decide) (Nat.le_of_ble_eq_true rfl) fun p e s m below meth c C hname => ?_
  rw [f_X1_bitOf] at h
  exact j_sub [0] rfl (t_X1_bitOf_0 C a1 h)
set_option maxRecDepth 100000 in
set_option maxHeartbeats 4000000 in
theorem t_X1_holds_0 {χ : Mem} {T : Nat → Mem} {σ : Mem} (C : Cx p s m args meth c cX1_holds 2 RX1 (some .boolean) COM g) {rr : Int32} (a1 : Int32) (a2 : Int32) (h : f_X1_holds_0 a1 a2 = some rr) : JJ p l e rm_X1_holds s m args below meth c 2 g ad (MQ below (PoI g ad χ T σ rr) args s 0 0 (geB g)) χ T σ 0 0 [(0, .int a1), (1, .int a2)] 0 [] := by
  rw [f_X1_holds_0] at h
  refine j_iload_n C 0 rfl rfl dX1_holds_0 ?_
  refine j_iload_n C 1 rfl rfl dX1_holds_1 ?_
  refine j_iand C dX1_holds_2 ?_
  refine j_iload_n C 1 rfl rfl dX1_holds_3 ?_
  refine j_icmp_ne (tgt := 11) C (by decide) dX1_holds_4 (fun hc1 => ?_) (fun hc1 => ?_)
  · replace h := (if_neg hc1).symm.trans h
    refine j_iconst (v := 0) C (by decide) dX1_holds_11 ?_
    obtain rfl := Option.some.inj h
    exact j_iret C rfl (bo_nar (Or.inl rfl)) (Nat.le_refl _) (Nat.le_refl _) dX1_holds_12
  · replace h := (if_pos hc1).symm.trans h
    refine j_iconst (v := 1) C (by decide) dX1_holds_7 ?_
    refine j_goto (tgt := 12) C (by decide) dX1_holds_8 ?_
    obtain rfl := Option.some.inj h
    exact j_iret C rfl (bo_nar (Or.inr rfl)) (Nat.le_refl _) (Nat.le_refl _) dX1_holds_12
set_option maxRecDepth 100000 in
set_option maxHeartbeats 4000000 in
theorem c_X1_holds {l : Launch} {g : Gc} {ad : Nat → Nat → Nat} {χ : Mem} {T : Nat → Mem} {σ : Mem} {a1 : Int32} {a2 : Int32} {rr : Int32} (h : f_X1_holds a1 a2 = some rr) : Met l yX1_holds (WS yX1_holds cX1_holds 2 (some .boolean)) rm_X1_holds (PreW g ad χ T σ [.int a1, .int a2]) (PoI g ad χ T σ rr) 0 0 (geB g) := by
  refine j_metW (by decide) (Nat.le_of_ble_eq_true rfl) fun p e s m below meth c C hname => ?_
  rw [f_X1_holds] at h
  exact j_sub [0, 1] rfl (t_X1_holds_0 C a1 a2 h)
set_option maxRecDepth 100000 in
set_option maxHeartbeats 4000000 in
theorem t_X1_isInBody_2 {T : Nat → Mem} {σ : Mem} {χ : Mem} (C : Cx p s m args meth c cX1_isInBody 3 RX1 (some .boolean) COM g) {rr : Int32} : ∀ (n : Nat) (v1 : Int32) (v2 : Int32) (h : f_X1_isInBody_2 χ n v1 v2 = some rr), JJ p l e rm_X1_isInBody s m args below meth c 3 g ad (MQ below (PoI g ad χ T σ rr) args s 0 0 (geB g)) χ T σ 0 0 [(0, .ref (ad 4 0)), (1, .int v1), (2, .int v2)] 2 [] := by
  intro n
  induction n with
  | zero => intro  v1 v2  h; cases h
  | succ n ih =>
  intro  v1 v2  h
  rw [f_X1_isInBody_2] at h
  refine j_iload_n C 2 rfl rfl dX1_isInBody_2 ?_
  refine j_aload_n C 0 rfl rfl dX1_isInBody_3 ?_
  refine j_getG C in_X1 (by decide) cw_4 rfl 3 (by decide) mw_234 (fun _ h => h) rfl dX1_isInBody_4 ?_
  refine j_icmp_ge (tgt := 31) C (by decide) dX1_isInBody_7 (fun hc1 => ?_) (fun hc1 => ?_)
  · replace h := (if_pos hc1).symm.trans h
    refine j_iconst (v := 0) C (by decide) dX1_isInBody_31 ?_
    obtain rfl := Option.some.inj h
    exact j_iret C rfl (bo_nar (Or.inl rfl)) (Nat.le_refl _) (Nat.le_refl _) dX1_isInBody_32
  · replace h := (if_neg hc1).symm.trans h
    refine j_aload_n C 0 rfl rfl dX1_isInBody_10 ?_
    refine j_getG C in_X1 (by decide) cw_4 rfl 2 (by decide) mw_233 (fun _ h => h) rfl dX1_isInBody_11 ?_
    refine j_iload_n C 2 rfl rfl dX1_isInBody_14 ?_
    obtain ⟨hg2, h⟩ := gd_some h
    refine j_iald C (by decide) cw_7 hg2 dX1_isInBody_15 ?_
    refine j_iload_n C 1 rfl rfl dX1_isInBody_16 ?_
    obtain ⟨q3, hq3, h⟩ := bi_some h
    refine j_callSi (As := [.int (gI χ 13 v2.toNatClampNeg), .int v1]) (rest := []) C (c_X1_holds hq3) (va_cwS 2 C.ts (good_S mw_587 mw_588 mw_71 mw_589) rfl rfl rfl (by decide +kernel) ⟨Nat.le_of_ble_eq_true rfl, Nat.le_of_ble_eq_true rfl⟩) rfl rfl (Nat.le_of_ble_eq_true rfl) dX1_isInBody_17 ⟨Nat.zero_le _, Nat.zero_le _⟩ ?_
    refine j_if_eq (tgt := 25) C (by decide) dX1_isInBody_20 (fun hc4 => ?_) (fun hc4 => ?_)
    · replace h := (if_pos hc4).symm.trans h
      refine j_iinc (v := v2 + (1 : Int32)) (L' := [(2, .int (v2 + (1 : Int32))), (0, .ref (ad 4 0)), (1, .int v1)]) C 2 rfl rfl (by decide) rfl dX1_isInBody_25 ?_
      refine j_goto (tgt := 2) C (by decide) dX1_isInBody_28 ?_
      exact j_sub [1, 2, 0] rfl (ih v1 (v2 + (1 : Int32)) h)
    · replace h := (if_neg hc4).symm.trans h
      refine j_iconst (v := 1) C (by decide) dX1_isInBody_23 ?_
      obtain rfl := Option.some.inj h
      exact j_iret C rfl (bo_nar (Or.inr rfl)) (Nat.le_refl _) (Nat.le_refl _) dX1_isInBody_24
set_option maxRecDepth 100000 in
set_option maxHeartbeats 4000000 in
theorem t_X1_isInBody_0 {T : Nat → Mem} {σ : Mem} {χ : Mem} (C : Cx p s m args meth c cX1_isInBody 3 RX1 (some .boolean) COM g) {rr : Int32} (a1 : Int32) (h : f_X1_isInBody_0 χ a1 = some rr) : JJ p l e rm_X1_isInBody s m args below meth c 3 g ad (MQ below (PoI g ad χ T σ rr) args s 0 0 (geB g)) χ T σ 0 0 [(0, .ref (ad 4 0)), (1, .int a1)] 0 [] := by
  rw [f_X1_isInBody_0] at h
  refine j_iconst (v := 0) C (by decide) dX1_isInBody_0 ?_
  refine j_istore_n (L' := [(2, .int (0 : Int32)), (0, .ref (ad 4 0)), (1, .int a1)]) C rfl (by decide) rfl dX1_isInBody_1 ?_
  exact j_sub [1, 2, 0] rfl (t_X1_isInBody_2 C FU a1 (0 : Int32) h)
set_option maxRecDepth 100000 in
set_option maxHeartbeats 4000000 in
theorem c_X1_isInBody {l : Launch} {g : Gc} {ad : Nat → Nat → Nat} {χ : Mem} {T : Nat → Mem} {σ : Mem} {a1 : Int32} {rr : Int32} (h : f_X1_isInBody χ a1 = some rr) : Met l yX1_isInBody (WS yX1_isInBody cX1_isInBody 3 (some .boolean)) rm_X1_isInBody (PreW g ad χ T σ [.ref (ad 4 0), .int a1]) (PoI g ad χ T σ rr) 0 0 (geB g) := by
  refine j_metW (by decide) (Nat.le_of_ble_eq_true rfl) fun p e s m below meth c C hname => ?_
  rw [f_X1_isInBody] at h
  exact j_sub [0, 1] rfl (t_X1_isInBody_0 C a1 h)
set_option maxRecDepth 100000 in
set_option maxHeartbeats 4000000 in
theorem t_X1_surplus_0 {T : Nat → Mem} {σ : Mem} {χ : Mem} (C : Cx p s m args meth c cX1_surplus 1 RX1 (some .int) COM g) {rr : Int32} (h : f_X1_surplus_0 χ = some rr) : JJ p l e rm_X1_surplus s m args below meth c 1 g ad (MQ below (PoI g ad χ T σ rr) args s 0 0 (geB g)) χ T σ 0 0 [(0, .ref (ad 4 0))] 0 [] := by
  rw [f_X1_surplus_0] at h
  refine j_aload_n C 0 rfl rfl dX1_surplus_0 ?_
  refine j_getG C in_X1 (by decide) cw_4 rfl 0 (by decide) mw_231 (fun _ h => h) rfl dX1_surplus_1 ?_
  refine j_getG C in_X2 (by decide) cw_1 rfl 3 (by decide) mw_137 (fun _ h => h) rfl dX1_surplus_4 ?_
  refine j_lsize C (by decide) mw_573 ⟨Nat.le_of_ble_eq_true rfl, Nat.le_of_ble_eq_true rfl⟩ (Nat.le_of_ble_eq_true rfl) dX1_surplus_7 ⟨Nat.zero_le _, Nat.zero_le _⟩ ?_
  refine j_aload_n C 0 rfl rfl dX1_surplus_12 ?_
  refine j_getG C in_X1 (by decide) cw_4 rfl 4 (by decide) mw_235 (fun _ h => h) rfl dX1_surplus_13 ?_
  refine j_isub C dX1_surplus_16 ?_
  obtain rfl := Option.some.inj h
  exact j_iret C rfl rfl (Nat.le_refl _) (Nat.le_refl _) dX1_surplus_17
set_option maxRecDepth 100000 in
set_option maxHeartbeats 4000000 in
theorem c_X1_surplus {l : Launch} {g : Gc} {ad : Nat → Nat → Nat} {χ : Mem} {T : Nat → Mem} {σ : Mem} {rr : Int32} (h : f_X1_surplus χ = some rr) : Met l yX1_surplus (WS yX1_surplus cX1_surplus 1 (some .int)) rm_X1_surplus (PreW g ad χ T σ [.ref (ad 4 0)]) (PoI g ad χ T σ rr) 0 0 (geB g) := by
  refine j_metW (by decide) (Nat.le_of_ble_eq_true rfl) fun p e s m below meth c C hname => ?_
  rw [f_X1_surplus] at h
  exact j_sub [0] rfl (t_X1_surplus_0 C h)
set_option maxRecDepth 100000 in
set_option maxHeartbeats 4000000 in
theorem t_X1_endsOf_0 {T : Nat → Mem} {σ : Mem} {χ : Mem} (C : Cx p s m args meth c cX1_endsOf 1 RX1 (some .int) COM g) {rr : Int32} (a1 : Nat) (ha1 : a1 < gN χ 8 1) (h : f_X1_endsOf_0 χ a1 = some rr) : JJ p l e rm_X1_endsOf s m args below meth c 1 g ad (MQ below (PoI g ad χ T σ rr) args s 0 0 (geB g)) χ T σ 0 0 [(0, .ref (ad 19 a1))] 0 [] := by
  rw [f_X1_endsOf_0] at h
  refine j_aload_n C 0 rfl rfl dX1_endsOf_0 ?_
  refine j_getG C in_X5 (by decide) (cw_19 (χ := χ) ha1) rfl 2 (by decide) mw_653 (fun _ h => h) rfl dX1_endsOf_1 ?_
  refine j_wt (fun wt1 => ?_)
  refine j_getG C in_X4 (by decide) (cw_18 (χ := χ) (wt1.2.1 _ ha1).1) rfl 0 (by decide) mw_336 (fun _ h => h) rfl dX1_endsOf_4 ?_
  obtain ⟨q2, hq2, h⟩ := bi_some h
  refine j_callSi (As := [.int (gI χ 0 (gN χ 6 a1))]) (rest := []) C (c_X1_bitOf hq2) (va_cwS 1 C.ts (good_S mw_580 mw_581 mw_71 mw_582) rfl rfl rfl (by decide +kernel) ⟨Nat.le_of_ble_eq_true rfl, Nat.le_of_ble_eq_true rfl⟩) rfl rfl (Nat.le_of_ble_eq_true rfl) dX1_endsOf_7 ⟨Nat.zero_le _, Nat.zero_le _⟩ ?_
  refine j_aload_n C 0 rfl rfl dX1_endsOf_10 ?_
  refine j_getG C in_X5 (by decide) (cw_19 (χ := χ) ha1) rfl 3 (by decide) mw_656 (fun _ h => h) rfl dX1_endsOf_11 ?_
  refine j_wt (fun wt3 => ?_)
  refine j_getG C in_X4 (by decide) (cw_18 (χ := χ) (wt3.2.1 _ ha1).2) rfl 0 (by decide) mw_336 (fun _ h => h) rfl dX1_endsOf_14 ?_
  obtain ⟨q4, hq4, h⟩ := bi_some h
  refine j_callSi (As := [.int (gI χ 0 (gN χ 7 a1))]) (rest := [.int q2]) C (c_X1_bitOf hq4) (va_cwS 1 C.ts (good_S mw_580 mw_581 mw_71 mw_582) rfl rfl rfl (by decide +kernel) ⟨Nat.le_of_ble_eq_true rfl, Nat.le_of_ble_eq_true rfl⟩) rfl rfl (Nat.le_of_ble_eq_true rfl) dX1_endsOf_17 ⟨Nat.zero_le _, Nat.zero_le _⟩ ?_
  refine j_ior C dX1_endsOf_20 ?_
  obtain rfl := Option.some.inj h
  exact j_iret C rfl rfl (Nat.le_refl _) (Nat.le_refl _) dX1_endsOf_21
set_option maxRecDepth 100000 in
set_option maxHeartbeats 4000000 in
theorem c_X1_endsOf {l : Launch} {g : Gc} {ad : Nat → Nat → Nat} {χ : Mem} {T : Nat → Mem} {σ : Mem} {a1 : Nat} (ha1 : a1 < gN χ 8 1) {rr : Int32} (h : f_X1_endsOf χ a1 = some rr) : Met l yX1_endsOf (WS yX1_endsOf cX1_endsOf 1 (some .int)) rm_X1_endsOf (PreW g ad χ T σ [.ref (ad 19 a1)]) (PoI g ad χ T σ rr) 0 0 (geB g) := by
  refine j_metW (by decide) (Nat.le_of_ble_eq_true rfl) fun p e s m below meth c C hname => ?_
  rw [f_X1_endsOf] at h
  exact j_sub [0] rfl (t_X1_endsOf_0 C a1 ha1 h)
set_option maxRecDepth 100000 in
set_option maxHeartbeats 4000000 in
theorem t_X1_mostRods_0 {χ : Mem} {T : Nat → Mem} {σ : Mem} (C : Cx p s m args meth c cX1_mostRods 1 RX1 (some .int) COM g) {rr : Int32} (a1 : Int32) (h : f_X1_mostRods_0 a1 = some rr) : JJ p l e rm_X1_mostRods s m args below meth c 1 g ad (MQ below (PoI g ad χ T σ rr) args s 0 0 (geB g)) χ T σ 0 0 [(0, .int a1)] 0 [] := by
  rw [f_X1_mostRods_0] at h
  refine j_iconst (v := 2) C (by decide) dX1_mostRods_0 ?_
  refine j_iload_n C 0 rfl rfl dX1_mostRods_1 ?_
  refine j_imul C dX1_mostRods_2 ?_
  refine j_iconst (v := 3) C (by decide) dX1_mostRods_3 ?_
  refine j_isub C dX1_mostRods_4 ?_
  obtain rfl := Option.some.inj h
  exact j_iret C rfl rfl (Nat.le_refl _) (Nat.le_refl _) dX1_mostRods_5
set_option maxRecDepth 100000 in
set_option maxHeartbeats 4000000 in
theorem c_X1_mostRods {l : Launch} {g : Gc} {ad : Nat → Nat → Nat} {χ : Mem} {T : Nat → Mem} {σ : Mem} {a1 : Int32} {rr : Int32} (h : f_X1_mostRods a1 = some rr) : Met l yX1_mostRods (WS yX1_mostRods cX1_mostRods 1 (some .int)) rm_X1_mostRods (PreW g ad χ T σ [.int a1]) (PoI g ad χ T σ rr) 0 0 (geB g) := by
  refine j_metW (by decide) (Nat.le_of_ble_eq_true rfl) fun p e s m below meth c C hname => ?_
  rw [f_X1_mostRods] at h
  exact j_sub [0] rfl (t_X1_mostRods_0 C a1 h)
set_option maxRecDepth 100000 in
set_option maxHeartbeats 4000000 in
theorem t_X1_isFilled_0 {T : Nat → Mem} {σ : Mem} {χ : Mem} (C : Cx p s m args meth c cX1_isFilled 2 RX1 (some .boolean) COM g) {rr : Int32} (a1 : Int32) (h : f_X1_isFilled_0 χ a1 = some rr) : JJ p l e rm_X1_isFilled s m args below meth c 2 g ad (MQ below (PoI g ad χ T σ rr) args s 0 0 (geB g)) χ T σ 0 0 [(0, .ref (ad 4 0)), (1, .int a1)] 0 [] := by
  rw [f_X1_isFilled_0] at h
  refine j_aload_n C 0 rfl rfl dX1_isFilled_0 ?_
  refine j_getG C in_X1 (by decide) cw_4 rfl 1 (by decide) mw_232 (fun _ h => h) rfl dX1_isFilled_1 ?_
  refine j_iload_n C 1 rfl rfl dX1_isFilled_4 ?_
  obtain ⟨hg1, h⟩ := gd_some h
  refine j_iald C (by decide) cw_6 hg1 dX1_isFilled_5 ?_
  refine j_iload_n C 1 rfl rfl dX1_isFilled_6 ?_
  obtain ⟨q2, hq2, h⟩ := bi_some h
  refine j_callSi (As := [.int a1]) (rest := [.int (gI χ 12 a1.toNatClampNeg)]) C (c_J6_bitCount_0f7a4 hq2) (va_cwS 1 C.ts (good_S mw_594 mw_595 mw_81 mw_596) rfl rfl rfl (by decide +kernel) ⟨Nat.le_of_ble_eq_true rfl, Nat.le_of_ble_eq_true rfl⟩) rfl rfl (Nat.le_of_ble_eq_true rfl) dX1_isFilled_7 ⟨Nat.zero_le _, Nat.zero_le _⟩ ?_
  obtain ⟨q3, hq3, h⟩ := bi_some h
  refine j_callSi (As := [.int q2]) (rest := [.int (gI χ 12 a1.toNatClampNeg)]) C (c_X1_mostRods hq3) (va_cwS 1 C.ts (good_S mw_600 mw_601 mw_71 mw_602) rfl rfl rfl (by decide +kernel) ⟨Nat.le_of_ble_eq_true rfl, Nat.le_of_ble_eq_true rfl⟩) rfl rfl (Nat.le_of_ble_eq_true rfl) dX1_isFilled_10 ⟨Nat.zero_le _, Nat.zero_le _⟩ ?_
  refine j_icmp_lt (tgt := 20) C (by decide) dX1_isFilled_13 (fun hc4 => ?_) (fun hc4 => ?_)
  · replace h := (if_pos hc4).symm.trans h
    refine j_iconst (v := 0) C (by decide) dX1_isFilled_20 ?_
    obtain rfl := Option.some.inj h
    exact j_iret C rfl (bo_nar (Or.inl rfl)) (Nat.le_refl _) (Nat.le_refl _) dX1_isFilled_21
  · replace h := (if_neg hc4).symm.trans h
    refine j_iconst (v := 1) C (by decide) dX1_isFilled_16 ?_
    refine j_goto (tgt := 21) C (by decide) dX1_isFilled_17 ?_
    obtain rfl := Option.some.inj h
    exact j_iret C rfl (bo_nar (Or.inr rfl)) (Nat.le_refl _) (Nat.le_refl _) dX1_isFilled_21
set_option maxRecDepth 100000 in
set_option maxHeartbeats 4000000 in
theorem c_X1_isFilled {l : Launch} {g : Gc} {ad : Nat → Nat → Nat} {χ : Mem} {T : Nat → Mem} {σ : Mem} {a1 : Int32} {rr : Int32} (h : f_X1_isFilled χ a1 = some rr) : Met l yX1_isFilled (WS yX1_isFilled cX1_isFilled 2 (some .boolean)) rm_X1_isFilled (PreW g ad χ T σ [.ref (ad 4 0), .int a1]) (PoI g ad χ T σ rr) 0 0 (geB g) := by
  refine j_metW (by decide) (Nat.le_of_ble_eq_true rfl) fun p e s m below meth c C hname => ?_
  rw [f_X1_isFilled] at h
  exact j_sub [0, 1] rfl (t_X1_isFilled_0 C a1 h)
set_option maxRecDepth 100000 in
set_option maxHeartbeats 4000000 in
theorem t_X1_hasRoom_2 {T : Nat → Mem} {σ : Mem} {χ : Mem} (C : Cx p s m args meth c cX1_hasRoom 3 RX1 (some .boolean) COM g) {rr : Int32} : ∀ (n : Nat) (v1 : Int32) (v2 : Int32) (h : f_X1_hasRoom_2 χ n v1 v2 = some rr), JJ p l e rm_X1_hasRoom s m args below meth c 3 g ad (MQ below (PoI g ad χ T σ rr) args s 0 0 (geB g)) χ T σ 0 0 [(0, .ref (ad 4 0)), (1, .int v1), (2, .int v2)] 2 [] := by
  intro n
  induction n with
  | zero => intro  v1 v2  h; cases h
  | succ n ih =>
  intro  v1 v2  h
  rw [f_X1_hasRoom_2] at h
  refine j_iload_n C 2 rfl rfl dX1_hasRoom_2 ?_
  refine j_bipush (v := 64) C (by decide) dX1_hasRoom_3 ?_
  refine j_icmp_ge (tgt := 32) C (by decide) dX1_hasRoom_5 (fun hc1 => ?_) (fun hc1 => ?_)
  · replace h := (if_pos hc1).symm.trans h
    refine j_iconst (v := 1) C (by decide) dX1_hasRoom_32 ?_
    obtain rfl := Option.some.inj h
    exact j_iret C rfl (bo_nar (Or.inr rfl)) (Nat.le_refl _) (Nat.le_refl _) dX1_hasRoom_33
  · replace h := (if_neg hc1).symm.trans h
    refine j_iload_n C 2 rfl rfl dX1_hasRoom_8 ?_
    refine j_iload_n C 1 rfl rfl dX1_hasRoom_9 ?_
    obtain ⟨q2, hq2, h⟩ := bi_some h
    refine j_callSi (As := [.int v2, .int v1]) (rest := []) C (c_X1_holds hq2) (va_cwS 2 C.ts (good_S mw_587 mw_588 mw_71 mw_589) rfl rfl rfl (by decide +kernel) ⟨Nat.le_of_ble_eq_true rfl, Nat.le_of_ble_eq_true rfl⟩) rfl rfl (Nat.le_of_ble_eq_true rfl) dX1_hasRoom_10 ⟨Nat.zero_le _, Nat.zero_le _⟩ ?_
    refine j_if_eq (tgt := 26) C (by decide) dX1_hasRoom_13 (fun hc3 => ?_) (fun hc3 => ?_)
    · replace h := (if_pos hc3).symm.trans h
      refine j_iinc (v := v2 + (1 : Int32)) (L' := [(2, .int (v2 + (1 : Int32))), (0, .ref (ad 4 0)), (1, .int v1)]) C 2 rfl rfl (by decide) rfl dX1_hasRoom_26 ?_
      refine j_goto (tgt := 2) C (by decide) dX1_hasRoom_29 ?_
      exact j_sub [1, 2, 0] rfl (ih v1 (v2 + (1 : Int32)) h)
    · replace h := (if_neg hc3).symm.trans h
      refine j_aload_n C 0 rfl rfl dX1_hasRoom_16 ?_
      refine j_iload_n C 2 rfl rfl dX1_hasRoom_17 ?_
      obtain ⟨q4, hq4, h⟩ := bi_some h
      refine j_callVi (As := [.int v2]) (rest := []) C (c_X1_isFilled hq4) (cwV 1 C.ts (good_V mw_590 mw_592 mw_16 mw_71 mw_593) rfl rfl rfl (by decide +kernel) ⟨Nat.le_of_ble_eq_true rfl, Nat.le_of_ble_eq_true rfl⟩) (fun H hW => CW.rv C.k hW (by decide) cw_4 rfl) rfl rfl (Nat.le_of_ble_eq_true rfl) dX1_hasRoom_18 ⟨Nat.zero_le _, Nat.zero_le _⟩ ?_
      refine j_if_eq (tgt := 26) C (by decide) dX1_hasRoom_21 (fun hc5 => ?_) (fun hc5 => ?_)
      · replace h := (if_pos hc5).symm.trans h
        refine j_iinc (v := v2 + (1 : Int32)) (L' := [(2, .int (v2 + (1 : Int32))), (0, .ref (ad 4 0)), (1, .int v1)]) C 2 rfl rfl (by decide) rfl dX1_hasRoom_26 ?_
        refine j_goto (tgt := 2) C (by decide) dX1_hasRoom_29 ?_
        exact j_sub [1, 2, 0] rfl (ih v1 (v2 + (1 : Int32)) h)
      · replace h := (if_neg hc5).symm.trans h
        refine j_iconst (v := 0) C (by decide) dX1_hasRoom_24 ?_
        obtain rfl := Option.some.inj h
        exact j_iret C rfl (bo_nar (Or.inl rfl)) (Nat.le_refl _) (Nat.le_refl _) dX1_hasRoom_25
set_option maxRecDepth 100000 in
set_option maxHeartbeats 4000000 in
theorem t_X1_hasRoom_0 {T : Nat → Mem} {σ : Mem} {χ : Mem} (C : Cx p s m args meth c cX1_hasRoom 3 RX1 (some .boolean) COM g) {rr : Int32} (a1 : Int32) (h : f_X1_hasRoom_0 χ a1 = some rr) : JJ p l e rm_X1_hasRoom s m args below meth c 3 g ad (MQ below (PoI g ad χ T σ rr) args s 0 0 (geB g)) χ T σ 0 0 [(0, .ref (ad 4 0)), (1, .int a1)] 0 [] := by
  rw [f_X1_hasRoom_0] at h
  refine j_iload_n C 1 rfl rfl dX1_hasRoom_0 ?_
  refine j_istore_n (L' := [(2, .int a1), (0, .ref (ad 4 0)), (1, .int a1)]) C rfl (by decide) rfl dX1_hasRoom_1 ?_
  exact j_sub [1, 2, 0] rfl (t_X1_hasRoom_2 C FU a1 a1 h)
set_option maxRecDepth 100000 in
set_option maxHeartbeats 4000000 in
theorem c_X1_hasRoom {l : Launch} {g : Gc} {ad : Nat → Nat → Nat} {χ : Mem} {T : Nat → Mem} {σ : Mem} {a1 : Int32} {rr : Int32} (h : f_X1_hasRoom χ a1 = some rr) : Met l yX1_hasRoom (WS yX1_hasRoom cX1_hasRoom 3 (some .boolean)) rm_X1_hasRoom (PreW g ad χ T σ [.ref (ad 4 0), .int a1]) (PoI g ad χ T σ rr) 0 0 (geB g) := by
  refine j_metW (by decide) (Nat.le_of_ble_eq_true rfl) fun p e s m below meth c C hname => ?_
  rw [f_X1_hasRoom] at h
  exact j_sub [0, 1] rfl (t_X1_hasRoom_0 C a1 h)
set_option maxRecDepth 100000 in
set_option maxHeartbeats 4000000 in
theorem t_X1_choose_2 {T : Nat → Mem} {σ : Mem} (C : Cx p s m args meth c cX1_choose 3 RX1 none COM g) {rr : Mem} : ∀ (n : Nat) (χ : Mem) (v1 : Int32) (v2 : Int32) (h : f_X1_choose_2 n χ v1 v2 = some rr), JJ p l e rm_X1_choose s m args below meth c 3 g ad (MQ below (PoV g ad (rr) T σ) args s 0 0 (geB g)) χ T σ 0 0 [(0, .ref (ad 4 0)), (1, .int v1), (2, .int v2)] 2 [] := by
  intro n
  induction n with
  | zero => intro  χ v1 v2  h; cases h
  | succ n ih =>
  intro  χ v1 v2  h
  rw [f_X1_choose_2] at h
  refine j_iload_n C 2 rfl rfl dX1_choose_2 ?_
  refine j_bipush (v := 64) C (by decide) dX1_choose_3 ?_
  refine j_icmp_ge (tgt := 32) C (by decide) dX1_choose_5 (fun hc1 => ?_) (fun hc1 => ?_)
  · replace h := (if_pos hc1).symm.trans h
    obtain rfl := Option.some.inj h
    exact j_vret C rfl (Nat.le_refl _) (Nat.le_refl _) dX1_choose_32
  · replace h := (if_neg hc1).symm.trans h
    refine j_iload_n C 2 rfl rfl dX1_choose_8 ?_
    refine j_iload_n C 1 rfl rfl dX1_choose_9 ?_
    obtain ⟨q2, hq2, h⟩ := bi_some h
    refine j_callSi (As := [.int v2, .int v1]) (rest := []) C (c_X1_holds hq2) (va_cwS 2 C.ts (good_S mw_587 mw_588 mw_71 mw_589) rfl rfl rfl (by decide +kernel) ⟨Nat.le_of_ble_eq_true rfl, Nat.le_of_ble_eq_true rfl⟩) rfl rfl (Nat.le_of_ble_eq_true rfl) dX1_choose_10 ⟨Nat.zero_le _, Nat.zero_le _⟩ ?_
    refine j_if_eq (tgt := 26) C (by decide) dX1_choose_13 (fun hc3 => ?_) (fun hc3 => ?_)
    · replace h := (if_pos hc3).symm.trans h
      refine j_iinc (v := v2 + (1 : Int32)) (L' := [(2, .int (v2 + (1 : Int32))), (0, .ref (ad 4 0)), (1, .int v1)]) C 2 rfl rfl (by decide) rfl dX1_choose_26 ?_
      refine j_goto (tgt := 2) C (by decide) dX1_choose_29 ?_
      exact j_sub [1, 2, 0] rfl (ih χ v1 (v2 + (1 : Int32)) h)
    · replace h := (if_neg hc3).symm.trans h
      refine j_aload_n C 0 rfl rfl dX1_choose_16 ?_
      refine j_getG C in_X1 (by decide) cw_4 rfl 1 (by decide) mw_232 (fun _ h => h) rfl dX1_choose_17 ?_
      refine j_iload_n C 2 rfl rfl dX1_choose_20 ?_
      refine j_dup2 C rfl rfl dX1_choose_21 ?_
      obtain ⟨hg4, h⟩ := gd_some h
      refine j_iald C (by decide) cw_6 hg4 dX1_choose_22 ?_
      refine j_iconst (v := 1) C (by decide) dX1_choose_23 ?_
      refine j_iadd C dX1_choose_24 ?_
      refine j_iastP C (by decide) (po_chosen v2.toNatClampNeg ((gI χ 12 v2.toNatClampNeg) + (1 : Int32))) hg4 dX1_choose_25 ?_
      refine j_iinc (v := v2 + (1 : Int32)) (L' := [(2, .int (v2 + (1 : Int32))), (0, .ref (ad 4 0)), (1, .int v1)]) C 2 rfl rfl (by decide) rfl dX1_choose_26 ?_
      refine j_goto (tgt := 2) C (by decide) dX1_choose_29 ?_
      exact j_sub [1, 2, 0] rfl (ih (wI χ 12 v2.toNatClampNeg ((gI χ 12 v2.toNatClampNeg) + (1 : Int32))) v1 (v2 + (1 : Int32)) h)
set_option maxRecDepth 100000 in
set_option maxHeartbeats 4000000 in
theorem t_X1_choose_0 {T : Nat → Mem} {σ : Mem} (C : Cx p s m args meth c cX1_choose 3 RX1 none COM g) {rr : Mem} (χ : Mem) (a1 : Int32) (h : f_X1_choose_0 χ a1 = some rr) : JJ p l e rm_X1_choose s m args below meth c 3 g ad (MQ below (PoV g ad (rr) T σ) args s 0 0 (geB g)) χ T σ 0 0 [(0, .ref (ad 4 0)), (1, .int a1)] 0 [] := by
  rw [f_X1_choose_0] at h
  refine j_iload_n C 1 rfl rfl dX1_choose_0 ?_
  refine j_istore_n (L' := [(2, .int a1), (0, .ref (ad 4 0)), (1, .int a1)]) C rfl (by decide) rfl dX1_choose_1 ?_
  exact j_sub [1, 2, 0] rfl (t_X1_choose_2 C FU χ a1 a1 h)
set_option maxRecDepth 100000 in
set_option maxHeartbeats 4000000 in
theorem c_X1_choose {l : Launch} {g : Gc} {ad : Nat → Nat → Nat} {χ : Mem} {T : Nat → Mem} {σ : Mem} {a1 : Int32} {rr : Mem} (h : f_X1_choose χ a1 = some rr) : Met l yX1_choose (WS yX1_choose cX1_choose 3 none) rm_X1_choose (PreW g ad χ T σ [.ref (ad 4 0), .int a1]) (PoV g ad (rr) T σ) 0 0 (geB g) := by
  refine j_metW (by decide) (Nat.le_of_ble_eq_true rfl) fun p e s m below meth c C hname => ?_
  rw [f_X1_choose] at h
  exact j_sub [0, 1] rfl (t_X1_choose_0 C χ a1 h)
set_option maxRecDepth 100000 in
set_option maxHeartbeats 4000000 in
theorem t_X1_chooseRods_28 {T : Nat → Mem} {σ : Mem} (C : Cx p s m args meth c cX1_chooseRods 3 RX1 none COM g) {rr : Mem} : ∀ (n : Nat) (χ : Mem) (v1 : Int32) (h : f_X1_chooseRods_28 n χ v1 = some rr), JJ p l e rm_X1_chooseRods s m args below meth c 3 g ad (MQ below (PoV g ad (rr) T σ) args s 0 0 (geB g)) χ T σ 0 0 [(0, .ref (ad 4 0)), (1, .int v1)] 28 [] := by
  intro n
  induction n with
  | zero => intro  χ v1  h; cases h
  | succ n ih =>
  intro  χ v1  h
  rw [f_X1_chooseRods_28] at h
  refine j_iload_n C 1 rfl rfl dX1_chooseRods_28 ?_
  refine j_aload_n C 0 rfl rfl dX1_chooseRods_29 ?_
  refine j_getG C in_X1 (by decide) cw_4 rfl 0 (by decide) mw_231 (fun _ h => h) rfl dX1_chooseRods_30 ?_
  refine j_getG C in_X2 (by decide) cw_1 rfl 3 (by decide) mw_137 (fun _ h => h) rfl dX1_chooseRods_33 ?_
  refine j_lsize C (by decide) mw_573 ⟨Nat.le_of_ble_eq_true rfl, Nat.le_of_ble_eq_true rfl⟩ (Nat.le_of_ble_eq_true rfl) dX1_chooseRods_36 ⟨Nat.zero_le _, Nat.zero_le _⟩ ?_
  refine j_icmp_ge (tgt := 93) C (by decide) dX1_chooseRods_41 (fun hc1 => ?_) (fun hc1 => ?_)
  · replace h := (if_pos hc1).symm.trans h
    obtain rfl := Option.some.inj h
    exact j_vret C rfl (Nat.le_refl _) (Nat.le_refl _) dX1_chooseRods_93
  · replace h := (if_neg hc1).symm.trans h
    refine j_aload_n C 0 rfl rfl dX1_chooseRods_44 ?_
    refine j_getG C in_X1 (by decide) cw_4 rfl 0 (by decide) mw_231 (fun _ h => h) rfl dX1_chooseRods_45 ?_
    refine j_getG C in_X2 (by decide) cw_1 rfl 3 (by decide) mw_137 (fun _ h => h) rfl dX1_chooseRods_48 ?_
    refine j_iload_n C 1 rfl rfl dX1_chooseRods_51 ?_
    obtain ⟨hg2, h⟩ := gd_some h
    refine j_wt (fun wt3 => ?_)
    refine j_lgetK (ek := 19) C (by decide) (by decide) hg2 mw_575 ⟨Nat.le_of_ble_eq_true rfl, Nat.le_of_ble_eq_true rfl⟩ (Nat.le_of_ble_eq_true rfl) dX1_chooseRods_52 ⟨Nat.zero_le _, Nat.zero_le _⟩ ?_
    refine j_castS (q := (RX5, TX5, 6)) C mw_576 (by decide) (cw_19 (χ := χ) (wt_19 wt3 (by decide) (by decide) hg2)) rfl dX1_chooseRods_57 ?_
    obtain ⟨q4, hq4, h⟩ := bi_some h
    refine j_callSi (As := [.ref (ad 19 (gN χ 3 v1.toNatClampNeg))]) (rest := []) C (c_X1_endsOf (wt_19 wt3 (by decide) (by decide) hg2) hq4) (va_cwS 1 C.ts (good_S mw_577 mw_578 mw_71 mw_579) rfl rfl rfl (by decide +kernel) ⟨Nat.le_of_ble_eq_true rfl, Nat.le_of_ble_eq_true rfl⟩) rfl rfl (Nat.le_of_ble_eq_true rfl) dX1_chooseRods_60 ⟨Nat.zero_le _, Nat.zero_le _⟩ ?_
    refine j_istore_n (L' := [(2, .int q4), (0, .ref (ad 4 0)), (1, .int v1)]) C rfl (by decide) rfl dX1_chooseRods_63 ?_
    refine j_aload_n C 1 rfl rfl dX1_chooseRods_64 ?_
    refine j_iload_n C 0 rfl rfl dX1_chooseRods_65 ?_
    obtain ⟨q5, hq5, h⟩ := bi_some h
    refine j_callVi (As := [.int q4]) (rest := []) C (c_X1_hasRoom hq5) (cwV 1 C.ts (good_V mw_583 mw_585 mw_15 mw_71 mw_586) rfl rfl rfl (by decide +kernel) ⟨Nat.le_of_ble_eq_true rfl, Nat.le_of_ble_eq_true rfl⟩) (fun H hW => CW.rv C.k hW (by decide) cw_4 rfl) rfl rfl (Nat.le_of_ble_eq_true rfl) dX1_chooseRods_66 ⟨Nat.zero_le _, Nat.zero_le _⟩ ?_
    refine j_if_eq (tgt := 87) C (by decide) dX1_chooseRods_69 (fun hc6 => ?_) (fun hc6 => ?_)
    · replace h := (if_pos hc6).symm.trans h
      refine j_iinc (v := v1 + (1 : Int32)) (L' := [(1, .int (v1 + (1 : Int32))), (2, .int q4), (0, .ref (ad 4 0))]) C 2 rfl rfl (by decide) rfl dX1_chooseRods_87 ?_
      refine j_goto (tgt := 28) C (by decide) dX1_chooseRods_90 ?_
      exact j_sub [2, 0] rfl (ih χ (v1 + (1 : Int32)) h)
    · replace h := (if_neg hc6).symm.trans h
      refine j_aload_n C 1 rfl rfl dX1_chooseRods_72 ?_
      refine j_iload_n C 0 rfl rfl dX1_chooseRods_73 ?_
      obtain ⟨q7, hq7, h⟩ := bi_some h
      refine j_callVv (As := [.int q4]) (rest := []) C (c_X1_choose hq7) (cwV 1 C.ts (good_V mw_603 mw_605 mw_17 mw_71 mw_606) rfl rfl rfl (by decide +kernel) ⟨Nat.le_of_ble_eq_true rfl, Nat.le_of_ble_eq_true rfl⟩) (fun H hW => CW.rv C.k hW (by decide) cw_4 rfl) rfl rfl (Nat.le_of_ble_eq_true rfl) dX1_chooseRods_74 ⟨Nat.zero_le _, Nat.zero_le _⟩ ?_
      refine j_aload_n C 1 rfl rfl dX1_chooseRods_77 ?_
      refine j_dup C rfl dX1_chooseRods_78 ?_
      refine j_getG C in_X1 (by decide) cw_4 rfl 4 (by decide) mw_235 (fun _ h => h) rfl dX1_chooseRods_79 ?_
      refine j_iconst (v := 1) C (by decide) dX1_chooseRods_82 ?_
      refine j_iadd C dX1_chooseRods_83 ?_
      refine j_putI C in_X1 tyX1_ok nmX1 rfl 4 (by decide) (by decide) (po_Bodies_greatest ((gI q7 11 0) + (1 : Int32))) mw_235 (fun _ h => h) rfl (tyX1_ok 4 (by decide)) (Nat.le_of_ble_eq_true rfl) dX1_chooseRods_84 ?_
      refine j_iinc (v := v1 + (1 : Int32)) (L' := [(1, .int (v1 + (1 : Int32))), (2, .int q4), (0, .ref (ad 4 0))]) C 2 rfl rfl (by decide) rfl dX1_chooseRods_87 ?_
      refine j_goto (tgt := 28) C (by decide) dX1_chooseRods_90 ?_
      exact j_sub [2, 0] rfl (ih (wI q7 11 0 ((gI q7 11 0) + (1 : Int32))) (v1 + (1 : Int32)) h)
set_option maxRecDepth 100000 in
set_option maxHeartbeats 4000000 in
theorem t_X1_chooseRods_2 {T : Nat → Mem} {σ : Mem} (C : Cx p s m args meth c cX1_chooseRods 3 RX1 none COM g) {rr : Mem} : ∀ (n : Nat) (χ : Mem) (v1 : Int32) (h : f_X1_chooseRods_2 n χ v1 = some rr), JJ p l e rm_X1_chooseRods s m args below meth c 3 g ad (MQ below (PoV g ad (rr) T σ) args s 0 0 (geB g)) χ T σ 0 0 [(0, .ref (ad 4 0)), (1, .int v1)] 2 [] := by
  intro n
  induction n with
  | zero => intro  χ v1  h; cases h
  | succ n ih =>
  intro  χ v1  h
  rw [f_X1_chooseRods_2] at h
  refine j_iload_n C 1 rfl rfl dX1_chooseRods_2 ?_
  refine j_bipush (v := 64) C (by decide) dX1_chooseRods_3 ?_
  refine j_icmp_ge (tgt := 21) C (by decide) dX1_chooseRods_5 (fun hc1 => ?_) (fun hc1 => ?_)
  · replace h := (if_pos hc1).symm.trans h
    refine j_aload_n C 0 rfl rfl dX1_chooseRods_21 ?_
    refine j_iconst (v := 0) C (by decide) dX1_chooseRods_22 ?_
    refine j_putI C in_X1 tyX1_ok nmX1 rfl 4 (by decide) (by decide) (po_Bodies_greatest (0 : Int32)) mw_235 (fun _ h => h) rfl (tyX1_ok 4 (by decide)) (Nat.le_of_ble_eq_true rfl) dX1_chooseRods_23 ?_
    refine j_iconst (v := 0) C (by decide) dX1_chooseRods_26 ?_
    refine j_istore_n (L' := [(1, .int (0 : Int32)), (0, .ref (ad 4 0))]) C rfl (by decide) rfl dX1_chooseRods_27 ?_
    exact j_sub [1, 0] rfl (t_X1_chooseRods_28 C FU (wI χ 11 0 (0 : Int32)) (0 : Int32) h)
  · replace h := (if_neg hc1).symm.trans h
    refine j_aload_n C 0 rfl rfl dX1_chooseRods_8 ?_
    refine j_getG C in_X1 (by decide) cw_4 rfl 1 (by decide) mw_232 (fun _ h => h) rfl dX1_chooseRods_9 ?_
    refine j_iload_n C 1 rfl rfl dX1_chooseRods_12 ?_
    refine j_iconst (v := 0) C (by decide) dX1_chooseRods_13 ?_
    obtain ⟨hg2, h⟩ := gd_some h
    refine j_iastP C (by decide) (po_chosen v1.toNatClampNeg (0 : Int32)) hg2 dX1_chooseRods_14 ?_
    refine j_iinc (v := v1 + (1 : Int32)) (L' := [(1, .int (v1 + (1 : Int32))), (0, .ref (ad 4 0))]) C 1 rfl rfl (by decide) rfl dX1_chooseRods_15 ?_
    refine j_goto (tgt := 2) C (by decide) dX1_chooseRods_18 ?_
    exact j_sub [1, 0] rfl (ih (wI χ 12 v1.toNatClampNeg (0 : Int32)) (v1 + (1 : Int32)) h)
set_option maxRecDepth 100000 in
set_option maxHeartbeats 4000000 in
theorem t_X1_chooseRods_0 {T : Nat → Mem} {σ : Mem} (C : Cx p s m args meth c cX1_chooseRods 3 RX1 none COM g) {rr : Mem} (χ : Mem) (h : f_X1_chooseRods_0 χ = some rr) : JJ p l e rm_X1_chooseRods s m args below meth c 3 g ad (MQ below (PoV g ad (rr) T σ) args s 0 0 (geB g)) χ T σ 0 0 [(0, .ref (ad 4 0))] 0 [] := by
  rw [f_X1_chooseRods_0] at h
  refine j_iconst (v := 0) C (by decide) dX1_chooseRods_0 ?_
  refine j_istore_n (L' := [(1, .int (0 : Int32)), (0, .ref (ad 4 0))]) C rfl (by decide) rfl dX1_chooseRods_1 ?_
  exact j_sub [1, 0] rfl (t_X1_chooseRods_2 C FU χ (0 : Int32) h)
set_option maxRecDepth 100000 in
set_option maxHeartbeats 4000000 in
theorem c_X1_chooseRods {l : Launch} {g : Gc} {ad : Nat → Nat → Nat} {χ : Mem} {T : Nat → Mem} {σ : Mem} {rr : Mem} (h : f_X1_chooseRods χ = some rr) : Met l yX1_chooseRods (WS yX1_chooseRods cX1_chooseRods 3 none) rm_X1_chooseRods (PreW g ad χ T σ [.ref (ad 4 0)]) (PoV g ad (rr) T σ) 0 0 (geB g) := by
  refine j_metW (by decide) (Nat.le_of_ble_eq_true rfl) fun p e s m below meth c C hname => ?_
  rw [f_X1_chooseRods] at h
  exact j_sub [0] rfl (t_X1_chooseRods_0 C χ h)
set_option maxRecDepth 100000 in
set_option maxHeartbeats 4000000 in
theorem t_X1_leastBodyOf_7 {T : Nat → Mem} {σ : Mem} {χ : Mem} (C : Cx p s m args meth c cX1_leastBodyOf 4 RX1 (some .int) COM g) {rr : Int32} : ∀ (n : Nat) (v2 : Int32) (v3 : Int32) (h : f_X1_leastBodyOf_7 χ n v2 v3 = some rr), JJ p l e rm_X1_leastBodyOf s m args below meth c 4 g ad (MQ below (PoI g ad χ T σ rr) args s 0 0 (geB g)) χ T σ 0 0 [(0, .ref (ad 4 0)), (2, .int v2), (3, .int v3)] 7 [] := by
  intro n
  induction n with
  | zero => intro  v2 v3  h; cases h
  | succ n ih =>
  intro  v2 v3  h
  rw [f_X1_leastBodyOf_7] at h
  refine j_iload_n C 2 rfl rfl dX1_leastBodyOf_7 ?_
  refine j_aload_n C 0 rfl rfl dX1_leastBodyOf_8 ?_
  refine j_getG C in_X1 (by decide) cw_4 rfl 3 (by decide) mw_234 (fun _ h => h) rfl dX1_leastBodyOf_9 ?_
  refine j_icmp_ge (tgt := 36) C (by decide) dX1_leastBodyOf_12 (fun hc1 => ?_) (fun hc1 => ?_)
  · replace h := (if_pos hc1).symm.trans h
    refine j_iconst (v := -1) C (by decide) dX1_leastBodyOf_36 ?_
    obtain rfl := Option.some.inj h
    exact j_iret C rfl rfl (Nat.le_refl _) (Nat.le_refl _) dX1_leastBodyOf_37
  · replace h := (if_neg hc1).symm.trans h
    refine j_aload_n C 0 rfl rfl dX1_leastBodyOf_15 ?_
    refine j_getG C in_X1 (by decide) cw_4 rfl 2 (by decide) mw_233 (fun _ h => h) rfl dX1_leastBodyOf_16 ?_
    refine j_iload_n C 2 rfl rfl dX1_leastBodyOf_19 ?_
    obtain ⟨hg2, h⟩ := gd_some h
    refine j_iald C (by decide) cw_7 hg2 dX1_leastBodyOf_20 ?_
    refine j_iload_n C 1 rfl rfl dX1_leastBodyOf_21 ?_
    obtain ⟨q3, hq3, h⟩ := bi_some h
    refine j_callSi (As := [.int (gI χ 13 v3.toNatClampNeg), .int v2]) (rest := []) C (c_X1_holds hq3) (va_cwS 2 C.ts (good_S mw_587 mw_588 mw_71 mw_589) rfl rfl rfl (by decide +kernel) ⟨Nat.le_of_ble_eq_true rfl, Nat.le_of_ble_eq_true rfl⟩) rfl rfl (Nat.le_of_ble_eq_true rfl) dX1_leastBodyOf_22 ⟨Nat.zero_le _, Nat.zero_le _⟩ ?_
    refine j_if_eq (tgt := 30) C (by decide) dX1_leastBodyOf_25 (fun hc4 => ?_) (fun hc4 => ?_)
    · replace h := (if_pos hc4).symm.trans h
      refine j_iinc (v := v3 + (1 : Int32)) (L' := [(3, .int (v3 + (1 : Int32))), (0, .ref (ad 4 0)), (2, .int v2)]) C 2 rfl rfl (by decide) rfl dX1_leastBodyOf_30 ?_
      refine j_goto (tgt := 7) C (by decide) dX1_leastBodyOf_33 ?_
      exact j_sub [1, 2, 0] rfl (ih v2 (v3 + (1 : Int32)) h)
    · replace h := (if_neg hc4).symm.trans h
      refine j_iload_n C 2 rfl rfl dX1_leastBodyOf_28 ?_
      obtain rfl := Option.some.inj h
      exact j_iret C rfl rfl (Nat.le_refl _) (Nat.le_refl _) dX1_leastBodyOf_29
set_option maxRecDepth 100000 in
set_option maxHeartbeats 4000000 in
theorem t_X1_leastBodyOf_0 {T : Nat → Mem} {σ : Mem} {χ : Mem} (C : Cx p s m args meth c cX1_leastBodyOf 4 RX1 (some .int) COM g) {rr : Int32} (a1 : Nat) (ha1 : a1 < gN χ 8 1) (h : f_X1_leastBodyOf_0 χ a1 = some rr) : JJ p l e rm_X1_leastBodyOf s m args below meth c 4 g ad (MQ below (PoI g ad χ T σ rr) args s 0 0 (geB g)) χ T σ 0 0 [(0, .ref (ad 4 0)), (1, .ref (ad 19 a1))] 0 [] := by
  rw [f_X1_leastBodyOf_0] at h
  refine j_aload_n C 1 rfl rfl dX1_leastBodyOf_0 ?_
  obtain ⟨q1, hq1, h⟩ := bi_some h
  refine j_callSi (As := [.ref (ad 19 a1)]) (rest := []) C (c_X1_endsOf ha1 hq1) (va_cwS 1 C.ts (good_S mw_577 mw_578 mw_71 mw_579) rfl rfl rfl (by decide +kernel) ⟨Nat.le_of_ble_eq_true rfl, Nat.le_of_ble_eq_true rfl⟩) rfl rfl (Nat.le_of_ble_eq_true rfl) dX1_leastBodyOf_1 ⟨Nat.zero_le _, Nat.zero_le _⟩ ?_
  refine j_istore_n (L' := [(2, .int q1), (0, .ref (ad 4 0)), (1, .ref (ad 19 a1))]) C rfl (by decide) rfl dX1_leastBodyOf_4 ?_
  refine j_iconst (v := 0) C (by decide) dX1_leastBodyOf_5 ?_
  refine j_istore_n (L' := [(3, .int (0 : Int32)), (2, .int q1), (0, .ref (ad 4 0)), (1, .ref (ad 19 a1))]) C rfl (by decide) rfl dX1_leastBodyOf_6 ?_
  exact j_sub [2, 1, 0] rfl (t_X1_leastBodyOf_7 C FU q1 (0 : Int32) h)
set_option maxRecDepth 100000 in
set_option maxHeartbeats 4000000 in
theorem c_X1_leastBodyOf {l : Launch} {g : Gc} {ad : Nat → Nat → Nat} {χ : Mem} {T : Nat → Mem} {σ : Mem} {a1 : Nat} (ha1 : a1 < gN χ 8 1) {rr : Int32} (h : f_X1_leastBodyOf χ a1 = some rr) : Met l yX1_leastBodyOf (WS yX1_leastBodyOf cX1_leastBodyOf 4 (some .int)) rm_X1_leastBodyOf (PreW g ad χ T σ [.ref (ad 4 0), .ref (ad 19 a1)]) (PoI g ad χ T σ rr) 0 0 (geB g) := by
  refine j_metW (by decide) (Nat.le_of_ble_eq_true rfl) fun p e s m below meth c C hname => ?_
  rw [f_X1_leastBodyOf] at h
  exact j_sub [0, 1] rfl (t_X1_leastBodyOf_0 C a1 ha1 h)
set_option maxRecDepth 100000 in
set_option maxHeartbeats 4000000 in
theorem t_X1_bodyCount_0 {T : Nat → Mem} {σ : Mem} {χ : Mem} (C : Cx p s m args meth c cX1_bodyCount 1 RX1 (some .int) COM g) {rr : Int32} (h : f_X1_bodyCount_0 χ = some rr) : JJ p l e rm_X1_bodyCount s m args below meth c 1 g ad (MQ below (PoI g ad χ T σ rr) args s 0 0 (geB g)) χ T σ 0 0 [(0, .ref (ad 4 0))] 0 [] := by
  rw [f_X1_bodyCount_0] at h
  refine j_aload_n C 0 rfl rfl dX1_bodyCount_0 ?_
  refine j_getG C in_X1 (by decide) cw_4 rfl 3 (by decide) mw_234 (fun _ h => h) rfl dX1_bodyCount_1 ?_
  obtain rfl := Option.some.inj h
  exact j_iret C rfl rfl (Nat.le_refl _) (Nat.le_refl _) dX1_bodyCount_4
set_option maxRecDepth 100000 in
set_option maxHeartbeats 4000000 in
theorem c_X1_bodyCount {l : Launch} {g : Gc} {ad : Nat → Nat → Nat} {χ : Mem} {T : Nat → Mem} {σ : Mem} {rr : Int32} (h : f_X1_bodyCount χ = some rr) : Met l yX1_bodyCount (WS yX1_bodyCount cX1_bodyCount 1 (some .int)) rm_X1_bodyCount (PreW g ad χ T σ [.ref (ad 4 0)]) (PoI g ad χ T σ rr) 0 0 (geB g) := by
  refine j_metW (by decide) (Nat.le_of_ble_eq_true rfl) fun p e s m below meth c C hname => ?_
  rw [f_X1_bodyCount] at h
  exact j_sub [0] rfl (t_X1_bodyCount_0 C h)
set_option maxRecDepth 100000 in
set_option maxHeartbeats 4000000 in
theorem t_X1_renew_12 {T : Nat → Mem} {σ : Mem} (C : Cx p s m args meth c cX1_renew 2 RX1 none COM g) {rr : Mem} : ∀ (n : Nat) (χ : Mem) (v1 : Int32) (h : f_X1_renew_12 n χ v1 = some rr), JJ p l e rm_X1_renew s m args below meth c 2 g ad (MQ below (PoV g ad (rr) T σ) args s 0 0 (geB g)) χ T σ 0 0 [(0, .ref (ad 4 0)), (1, .int v1)] 12 [] := by
  intro n
  induction n with
  | zero => intro  χ v1  h; cases h
  | succ n ih =>
  intro  χ v1  h
  rw [f_X1_renew_12] at h
  refine j_iload_n C 1 rfl rfl dX1_renew_12 ?_
  refine j_if_le (tgt := 66) C (by decide) dX1_renew_13 (fun hc1 => ?_) (fun hc1 => ?_)
  · replace h := (if_pos hc1).symm.trans h
    obtain rfl := Option.some.inj h
    exact j_vret C rfl (Nat.le_refl _) (Nat.le_refl _) dX1_renew_66
  · replace h := (if_neg hc1).symm.trans h
    refine j_iload_n C 1 rfl rfl dX1_renew_16 ?_
    obtain ⟨q2, hq2, h⟩ := bi_some h
    refine j_callSi (As := [.int v1]) (rest := []) C (c_J6_bitCount_0f7a4 hq2) (va_cwS 1 C.ts (good_S mw_594 mw_595 mw_81 mw_596) rfl rfl rfl (by decide +kernel) ⟨Nat.le_of_ble_eq_true rfl, Nat.le_of_ble_eq_true rfl⟩) rfl rfl (Nat.le_of_ble_eq_true rfl) dX1_renew_17 ⟨Nat.zero_le _, Nat.zero_le _⟩ ?_
    refine j_iconst (v := 2) C (by decide) dX1_renew_20 ?_
    refine j_icmp_lt (tgt := 60) C (by decide) dX1_renew_21 (fun hc3 => ?_) (fun hc3 => ?_)
    · replace h := (if_pos hc3).symm.trans h
      refine j_iinc (v := v1 + (-1 : Int32)) (L' := [(1, .int (v1 + (-1 : Int32))), (0, .ref (ad 4 0))]) C 1 rfl (congrArg (fun z => v1 + z) (by decide)) (by decide) rfl dX1_renew_60 ?_
      refine j_goto (tgt := 12) C (by decide) dX1_renew_63 ?_
      exact j_sub [1, 0] rfl (ih χ (v1 + (-1 : Int32)) h)
    · replace h := (if_neg hc3).symm.trans h
      refine j_aload_n C 0 rfl rfl dX1_renew_24 ?_
      refine j_iload_n C 1 rfl rfl dX1_renew_25 ?_
      obtain ⟨q4, hq4, h⟩ := bi_some h
      refine j_callVi (As := [.int v1]) (rest := []) C (c_X1_isFilled hq4) (cwV 1 C.ts (good_V mw_590 mw_592 mw_16 mw_71 mw_593) rfl rfl rfl (by decide +kernel) ⟨Nat.le_of_ble_eq_true rfl, Nat.le_of_ble_eq_true rfl⟩) (fun H hW => CW.rv C.k hW (by decide) cw_4 rfl) rfl rfl (Nat.le_of_ble_eq_true rfl) dX1_renew_26 ⟨Nat.zero_le _, Nat.zero_le _⟩ ?_
      refine j_if_eq (tgt := 60) C (by decide) dX1_renew_29 (fun hc5 => ?_) (fun hc5 => ?_)
      · replace h := (if_pos hc5).symm.trans h
        refine j_iinc (v := v1 + (-1 : Int32)) (L' := [(1, .int (v1 + (-1 : Int32))), (0, .ref (ad 4 0))]) C 1 rfl (congrArg (fun z => v1 + z) (by decide)) (by decide) rfl dX1_renew_60 ?_
        refine j_goto (tgt := 12) C (by decide) dX1_renew_63 ?_
        exact j_sub [1, 0] rfl (ih χ (v1 + (-1 : Int32)) h)
      · replace h := (if_neg hc5).symm.trans h
        refine j_aload_n C 0 rfl rfl dX1_renew_32 ?_
        refine j_iload_n C 1 rfl rfl dX1_renew_33 ?_
        obtain ⟨q6, hq6, h⟩ := bi_some h
        refine j_callVi (As := [.int v1]) (rest := []) C (c_X1_isInBody hq6) (cwV 1 C.ts (good_V mw_607 mw_609 mw_18 mw_71 mw_610) rfl rfl rfl (by decide +kernel) ⟨Nat.le_of_ble_eq_true rfl, Nat.le_of_ble_eq_true rfl⟩) (fun H hW => CW.rv C.k hW (by decide) cw_4 rfl) rfl rfl (Nat.le_of_ble_eq_true rfl) dX1_renew_34 ⟨Nat.zero_le _, Nat.zero_le _⟩ ?_
        refine j_if_ne (tgt := 60) C (by decide) dX1_renew_37 (fun hc7 => ?_) (fun hc7 => ?_)
        · replace h := (if_neg hc7).symm.trans h
          refine j_iinc (v := v1 + (-1 : Int32)) (L' := [(1, .int (v1 + (-1 : Int32))), (0, .ref (ad 4 0))]) C 1 rfl (congrArg (fun z => v1 + z) (by decide)) (by decide) rfl dX1_renew_60 ?_
          refine j_goto (tgt := 12) C (by decide) dX1_renew_63 ?_
          exact j_sub [1, 0] rfl (ih χ (v1 + (-1 : Int32)) h)
        · replace h := (if_pos hc7).symm.trans h
          refine j_aload_n C 0 rfl rfl dX1_renew_40 ?_
          refine j_getG C in_X1 (by decide) cw_4 rfl 2 (by decide) mw_233 (fun _ h => h) rfl dX1_renew_41 ?_
          refine j_aload_n C 0 rfl rfl dX1_renew_44 ?_
          refine j_getG C in_X1 (by decide) cw_4 rfl 3 (by decide) mw_234 (fun _ h => h) rfl dX1_renew_45 ?_
          refine j_iload_n C 1 rfl rfl dX1_renew_48 ?_
          obtain ⟨hg8, h⟩ := gd_some h
          refine j_iastP C (by decide) (po_found ((gI χ 10 0).toNatClampNeg) v1) hg8 dX1_renew_49 ?_
          refine j_aload_n C 0 rfl rfl dX1_renew_50 ?_
          refine j_dup C rfl dX1_renew_51 ?_
          refine j_getG C in_X1 (by decide) cw_4 rfl 3 (by decide) mw_234 (fun _ h => h) rfl dX1_renew_52 ?_
          refine j_iconst (v := 1) C (by decide) dX1_renew_55 ?_
          refine j_iadd C dX1_renew_56 ?_
          refine j_putI C in_X1 tyX1_ok nmX1 rfl 3 (by decide) (by decide) (po_Bodies_foundCount ((gI (wI χ 13 ((gI χ 10 0).toNatClampNeg) v1) 10 0) + (1 : Int32))) mw_234 (fun _ h => h) rfl (tyX1_ok 3 (by decide)) (Nat.le_of_ble_eq_true rfl) dX1_renew_57 ?_
          refine j_iinc (v := v1 + (-1 : Int32)) (L' := [(1, .int (v1 + (-1 : Int32))), (0, .ref (ad 4 0))]) C 1 rfl (congrArg (fun z => v1 + z) (by decide)) (by decide) rfl dX1_renew_60 ?_
          refine j_goto (tgt := 12) C (by decide) dX1_renew_63 ?_
          exact j_sub [1, 0] rfl (ih (wI (wI χ 13 ((gI χ 10 0).toNatClampNeg) v1) 10 0 ((gI (wI χ 13 ((gI χ 10 0).toNatClampNeg) v1) 10 0) + (1 : Int32))) (v1 + (-1 : Int32)) h)
set_option maxRecDepth 100000 in
set_option maxHeartbeats 4000000 in
theorem t_X1_renew_0 {T : Nat → Mem} {σ : Mem} (C : Cx p s m args meth c cX1_renew 2 RX1 none COM g) {rr : Mem} (χ : Mem) (h : f_X1_renew_0 χ = some rr) : JJ p l e rm_X1_renew s m args below meth c 2 g ad (MQ below (PoV g ad (rr) T σ) args s 0 0 (geB g)) χ T σ 0 0 [(0, .ref (ad 4 0))] 0 [] := by
  rw [f_X1_renew_0] at h
  refine j_aload_n C 0 rfl rfl dX1_renew_0 ?_
  obtain ⟨q1, hq1, h⟩ := bi_some h
  refine j_callVv (As := []) (rest := []) C (c_X1_chooseRods hq1) (cwV 0 C.ts (good_V mw_568 mw_570 mw_14 mw_71 mw_571) rfl rfl rfl (by decide +kernel) ⟨Nat.le_of_ble_eq_true rfl, Nat.le_of_ble_eq_true rfl⟩) (fun H hW => CW.rv C.k hW (by decide) cw_4 rfl) rfl rfl (Nat.le_of_ble_eq_true rfl) dX1_renew_1 ⟨Nat.zero_le _, Nat.zero_le _⟩ ?_
  refine j_aload_n C 0 rfl rfl dX1_renew_4 ?_
  refine j_iconst (v := 0) C (by decide) dX1_renew_5 ?_
  refine j_putI C in_X1 tyX1_ok nmX1 rfl 3 (by decide) (by decide) (po_Bodies_foundCount (0 : Int32)) mw_234 (fun _ h => h) rfl (tyX1_ok 3 (by decide)) (Nat.le_of_ble_eq_true rfl) dX1_renew_6 ?_
  refine j_bipush (v := 63) C (by decide) dX1_renew_9 ?_
  refine j_istore_n (L' := [(1, .int (63 : Int32)), (0, .ref (ad 4 0))]) C rfl (by decide) rfl dX1_renew_11 ?_
  exact j_sub [1, 0] rfl (t_X1_renew_12 C FU (wI q1 10 0 (0 : Int32)) (63 : Int32) h)
set_option maxRecDepth 100000 in
set_option maxHeartbeats 4000000 in
theorem c_X1_renew {l : Launch} {g : Gc} {ad : Nat → Nat → Nat} {χ : Mem} {T : Nat → Mem} {σ : Mem} {rr : Mem} (h : f_X1_renew χ = some rr) : Met l yX1_renew (WS yX1_renew cX1_renew 2 none) rm_X1_renew (PreW g ad χ T σ [.ref (ad 4 0)]) (PoV g ad (rr) T σ) 0 0 (geB g) := by
  refine j_metW (by decide) (Nat.le_of_ble_eq_true rfl) fun p e s m below meth c C hname => ?_
  rw [f_X1_renew] at h
  exact j_sub [0] rfl (t_X1_renew_0 C χ h)
set_option maxRecDepth 100000 in
set_option maxHeartbeats 4000000 in
theorem t_X3_holds_0 {σ : Mem} {χ : Mem} {T : Nat → Mem} (C : Cx p s m args meth c cX3_holds 1 RX3 (some .boolean) COM g) {rr : Int32} (h : f_X3_holds_0 χ T = some rr) : JJ p l e rm_X3_holds s m args below meth c 1 g ad (MQ below (PoI g ad χ T σ rr) args s 0 0 (geB g)) χ T σ 0 0 [(0, .ref (ad 3 0))] 0 [] := by
  rw [f_X3_holds_0] at h
  refine j_iconst (v := 2) C (by decide) dX3_holds_0 ?_
  refine j_aload_n C 0 rfl rfl dX3_holds_1 ?_
  refine j_getG C in_X3 (by decide) cw_3 rfl 0 (by decide) mw_212 (fun _ h => h) rfl dX3_holds_2 ?_
  refine j_getG C in_X2 (by decide) cw_1 rfl 2 (by decide) mw_133 (fun _ h => h) rfl dX3_holds_5 ?_
  refine j_lsize C (by decide) mw_537 ⟨Nat.le_of_ble_eq_true rfl, Nat.le_of_ble_eq_true rfl⟩ (Nat.le_of_ble_eq_true rfl) dX3_holds_8 ⟨Nat.zero_le _, Nat.zero_le _⟩ ?_
  refine j_imul C dX3_holds_13 ?_
  refine j_aload_n C 0 rfl rfl dX3_holds_14 ?_
  refine j_getG C in_X3 (by decide) cw_3 rfl 3 (by decide) mw_215 (fun _ h => h) rfl dX3_holds_15 ?_
  obtain ⟨q1, hq1, h⟩ := bi_some h
  refine j_callVi (As := []) (rest := [.int ((2 : Int32) * (gI χ 14 2))]) C (cc_X7_rank (T := T) (t := 2) (by decide) hq1) (cwV 0 C.ts (good_V mw_883 mw_884 mw_885 mw_69 mw_886) rfl rfl rfl (by decide +kernel) ⟨Nat.le_of_ble_eq_true rfl, Nat.le_of_ble_eq_true rfl⟩) (fun H hW => CW.rv C.k hW (by decide) (cw_9 (by decide)) rfl) rfl rfl (Nat.le_of_ble_eq_true rfl) dX3_holds_18 ⟨Nat.zero_le _, Nat.zero_le _⟩ ?_
  refine j_isub C dX3_holds_21 ?_
  refine j_aload_n C 0 rfl rfl dX3_holds_22 ?_
  refine j_getG C in_X3 (by decide) cw_3 rfl 0 (by decide) mw_212 (fun _ h => h) rfl dX3_holds_23 ?_
  obtain ⟨q2, hq2, h⟩ := bi_some h
  refine j_callVi (As := []) (rest := [.int (((2 : Int32) * (gI χ 14 2)) - q1)]) C (c_X2_planeMotions hq2) (cwV 0 C.ts (good_V mw_887 mw_786 mw_787 mw_64 mw_788) rfl rfl rfl (by decide +kernel) ⟨Nat.le_of_ble_eq_true rfl, Nat.le_of_ble_eq_true rfl⟩) (fun H hW => CW.rv C.k hW (by decide) cw_1 rfl) rfl rfl (Nat.le_of_ble_eq_true rfl) dX3_holds_26 ⟨Nat.zero_le _, Nat.zero_le _⟩ ?_
  refine j_icmp_ne (tgt := 36) C (by decide) dX3_holds_29 (fun hc3 => ?_) (fun hc3 => ?_)
  · replace h := (if_neg hc3).symm.trans h
    refine j_iconst (v := 0) C (by decide) dX3_holds_36 ?_
    obtain rfl := Option.some.inj h
    exact j_iret C rfl (bo_nar (Or.inl rfl)) (Nat.le_refl _) (Nat.le_refl _) dX3_holds_37
  · replace h := (if_pos hc3).symm.trans h
    refine j_iconst (v := 1) C (by decide) dX3_holds_32 ?_
    refine j_goto (tgt := 37) C (by decide) dX3_holds_33 ?_
    obtain rfl := Option.some.inj h
    exact j_iret C rfl (bo_nar (Or.inr rfl)) (Nat.le_refl _) (Nat.le_refl _) dX3_holds_37
set_option maxRecDepth 100000 in
set_option maxHeartbeats 4000000 in
theorem c_X3_holds {l : Launch} {g : Gc} {ad : Nat → Nat → Nat} {χ : Mem} {T : Nat → Mem} {σ : Mem} {rr : Int32} (h : f_X3_holds χ T = some rr) : Met l yX3_holds (WS yX3_holds cX3_holds 1 (some .boolean)) rm_X3_holds (PreW g ad χ T σ [.ref (ad 3 0)]) (PoI g ad χ T σ rr) 0 0 (geB g) := by
  refine j_metW (by decide) (Nat.le_of_ble_eq_true rfl) fun p e s m below meth c C hname => ?_
  rw [f_X3_holds] at h
  exact j_sub [0] rfl (t_X3_holds_0 C h)
set_option maxRecDepth 100000 in
set_option maxHeartbeats 4000000 in
theorem t_X3_priceOfAll_4 {σ : Mem} {χ : Mem} {T : Nat → Mem} (C : Cx p s m args meth c cX3_priceOfAll 3 RX3 (some .int) COM g) {rr : Int32} : ∀ (n : Nat) (v1 : Int32) (v2 : Int32) (h : f_X3_priceOfAll_4 χ T n v1 v2 = some rr), JJ p l e rm_X3_priceOfAll s m args below meth c 3 g ad (MQ below (PoI g ad χ T σ rr) args s 0 0 (geB g)) χ T σ 0 0 [(0, .ref (ad 3 0)), (1, .int v1), (2, .int v2)] 4 [] := by
  intro n
  induction n with
  | zero => intro  v1 v2  h; cases h
  | succ n ih =>
  intro  v1 v2  h
  rw [f_X3_priceOfAll_4] at h
  refine j_iload_n C 2 rfl rfl dX3_priceOfAll_4 ?_
  refine j_aload_n C 0 rfl rfl dX3_priceOfAll_5 ?_
  refine j_getG C in_X3 (by decide) cw_3 rfl 2 (by decide) mw_214 (fun _ h => h) rfl dX3_priceOfAll_6 ?_
  refine j_lsize C (by decide) mw_537 ⟨Nat.le_of_ble_eq_true rfl, Nat.le_of_ble_eq_true rfl⟩ (Nat.le_of_ble_eq_true rfl) dX3_priceOfAll_9 ⟨Nat.zero_le _, Nat.zero_le _⟩ ?_
  refine j_icmp_ge (tgt := 42) C (by decide) dX3_priceOfAll_14 (fun hc1 => ?_) (fun hc1 => ?_)
  · replace h := (if_pos hc1).symm.trans h
    refine j_iload_n C 1 rfl rfl dX3_priceOfAll_42 ?_
    obtain rfl := Option.some.inj h
    exact j_iret C rfl rfl (Nat.le_refl _) (Nat.le_refl _) dX3_priceOfAll_43
  · replace h := (if_neg hc1).symm.trans h
    refine j_iload_n C 1 rfl rfl dX3_priceOfAll_17 ?_
    refine j_aload_n C 0 rfl rfl dX3_priceOfAll_18 ?_
    refine j_getG C in_X3 (by decide) cw_3 rfl 2 (by decide) mw_214 (fun _ h => h) rfl dX3_priceOfAll_19 ?_
    refine j_iload_n C 2 rfl rfl dX3_priceOfAll_22 ?_
    obtain ⟨hg2, h⟩ := gd_some h
    refine j_wt (fun wt3 => ?_)
    refine j_lgetK (ek := 19) C (by decide) (by decide) hg2 mw_539 ⟨Nat.le_of_ble_eq_true rfl, Nat.le_of_ble_eq_true rfl⟩ (Nat.le_of_ble_eq_true rfl) dX3_priceOfAll_23 ⟨Nat.zero_le _, Nat.zero_le _⟩ ?_
    refine j_castS (q := (RX5, TX5, 6)) C mw_540 (by decide) (cw_19 (χ := χ) (wt_19 wt3 (by decide) (by decide) hg2)) rfl dX3_priceOfAll_28 ?_
    refine j_getG C in_X5 (by decide) (cw_19 (χ := χ) (wt_19 wt3 (by decide) (by decide) hg2)) rfl 4 (by decide) mw_658 (fun _ h => h) rfl dX3_priceOfAll_31 ?_
    refine j_iadd C dX3_priceOfAll_34 ?_
    refine j_istore_n (L' := [(1, .int (v1 + (gI χ 8 (gN χ 5 v2.toNatClampNeg)))), (0, .ref (ad 3 0)), (2, .int v2)]) C rfl (by decide) rfl dX3_priceOfAll_35 ?_
    refine j_iinc (v := v2 + (1 : Int32)) (L' := [(2, .int (v2 + (1 : Int32))), (1, .int (v1 + (gI χ 8 (gN χ 5 v2.toNatClampNeg)))), (0, .ref (ad 3 0))]) C 2 rfl rfl (by decide) rfl dX3_priceOfAll_36 ?_
    refine j_goto (tgt := 4) C (by decide) dX3_priceOfAll_39 ?_
    exact j_sub [2, 1, 0] rfl (ih (v1 + (gI χ 8 (gN χ 5 v2.toNatClampNeg))) (v2 + (1 : Int32)) h)
set_option maxRecDepth 100000 in
set_option maxHeartbeats 4000000 in
theorem t_X3_priceOfAll_0 {σ : Mem} {χ : Mem} {T : Nat → Mem} (C : Cx p s m args meth c cX3_priceOfAll 3 RX3 (some .int) COM g) {rr : Int32} (h : f_X3_priceOfAll_0 χ T = some rr) : JJ p l e rm_X3_priceOfAll s m args below meth c 3 g ad (MQ below (PoI g ad χ T σ rr) args s 0 0 (geB g)) χ T σ 0 0 [(0, .ref (ad 3 0))] 0 [] := by
  rw [f_X3_priceOfAll_0] at h
  refine j_iconst (v := 0) C (by decide) dX3_priceOfAll_0 ?_
  refine j_istore_n (L' := [(1, .int (0 : Int32)), (0, .ref (ad 3 0))]) C rfl (by decide) rfl dX3_priceOfAll_1 ?_
  refine j_iconst (v := 0) C (by decide) dX3_priceOfAll_2 ?_
  refine j_istore_n (L' := [(2, .int (0 : Int32)), (1, .int (0 : Int32)), (0, .ref (ad 3 0))]) C rfl (by decide) rfl dX3_priceOfAll_3 ?_
  exact j_sub [2, 1, 0] rfl (t_X3_priceOfAll_4 C FU (0 : Int32) (0 : Int32) h)
set_option maxRecDepth 100000 in
set_option maxHeartbeats 4000000 in
theorem c_X3_priceOfAll {l : Launch} {g : Gc} {ad : Nat → Nat → Nat} {χ : Mem} {T : Nat → Mem} {σ : Mem} {rr : Int32} (h : f_X3_priceOfAll χ T = some rr) : Met l yX3_priceOfAll (WS yX3_priceOfAll cX3_priceOfAll 3 (some .int)) rm_X3_priceOfAll (PreW g ad χ T σ [.ref (ad 3 0)]) (PoI g ad χ T σ rr) 0 0 (geB g) := by
  refine j_metW (by decide) (Nat.le_of_ble_eq_true rfl) fun p e s m below meth c C hname => ?_
  rw [f_X3_priceOfAll] at h
  exact j_sub [0] rfl (t_X3_priceOfAll_0 C h)
set_option maxRecDepth 100000 in
set_option maxHeartbeats 4000000 in
theorem t_X3_takenRod_0 {σ : Mem} {χ : Mem} {T : Nat → Mem} (C : Cx p s m args meth c cX3_takenRod 2 RX3 (some .int) COM g) {rr : Int32} (a1 : Int32) (h : f_X3_takenRod_0 χ T a1 = some rr) : JJ p l e rm_X3_takenRod s m args below meth c 2 g ad (MQ below (PoI g ad χ T σ rr) args s 0 0 (geB g)) χ T σ 0 0 [(0, .ref (ad 3 0)), (1, .int a1)] 0 [] := by
  rw [f_X3_takenRod_0] at h
  refine j_iload_n C 1 rfl rfl dX3_takenRod_0 ?_
  refine j_if_lt (tgt := 36) C (by decide) dX3_takenRod_1 (fun hc1 => ?_) (fun hc1 => ?_)
  · replace h := (if_pos hc1).symm.trans h
    refine j_iconst (v := -1) C (by decide) dX3_takenRod_36 ?_
    obtain rfl := Option.some.inj h
    exact j_iret C rfl rfl (Nat.le_refl _) (Nat.le_refl _) dX3_takenRod_37
  · replace h := (if_neg hc1).symm.trans h
    refine j_iload_n C 1 rfl rfl dX3_takenRod_4 ?_
    refine j_aload_n C 0 rfl rfl dX3_takenRod_5 ?_
    refine j_getG C in_X3 (by decide) cw_3 rfl 2 (by decide) mw_214 (fun _ h => h) rfl dX3_takenRod_6 ?_
    refine j_lsize C (by decide) mw_537 ⟨Nat.le_of_ble_eq_true rfl, Nat.le_of_ble_eq_true rfl⟩ (Nat.le_of_ble_eq_true rfl) dX3_takenRod_9 ⟨Nat.zero_le _, Nat.zero_le _⟩ ?_
    refine j_icmp_ge (tgt := 36) C (by decide) dX3_takenRod_14 (fun hc2 => ?_) (fun hc2 => ?_)
    · replace h := (if_pos hc2).symm.trans h
      refine j_iconst (v := -1) C (by decide) dX3_takenRod_36 ?_
      obtain rfl := Option.some.inj h
      exact j_iret C rfl rfl (Nat.le_refl _) (Nat.le_refl _) dX3_takenRod_37
    · replace h := (if_neg hc2).symm.trans h
      refine j_aload_n C 0 rfl rfl dX3_takenRod_17 ?_
      refine j_getG C in_X3 (by decide) cw_3 rfl 2 (by decide) mw_214 (fun _ h => h) rfl dX3_takenRod_18 ?_
      refine j_iload_n C 1 rfl rfl dX3_takenRod_21 ?_
      obtain ⟨hg3, h⟩ := gd_some h
      refine j_wt (fun wt4 => ?_)
      refine j_lgetK (ek := 19) C (by decide) (by decide) hg3 mw_539 ⟨Nat.le_of_ble_eq_true rfl, Nat.le_of_ble_eq_true rfl⟩ (Nat.le_of_ble_eq_true rfl) dX3_takenRod_22 ⟨Nat.zero_le _, Nat.zero_le _⟩ ?_
      refine j_castS (q := (RX5, TX5, 6)) C mw_540 (by decide) (cw_19 (χ := χ) (wt_19 wt4 (by decide) (by decide) hg3)) rfl dX3_takenRod_27 ?_
      refine j_getG C in_X5 (by decide) (cw_19 (χ := χ) (wt_19 wt4 (by decide) (by decide) hg3)) rfl 0 (by decide) mw_647 (fun _ h => h) rfl dX3_takenRod_30 ?_
      refine j_goto (tgt := 37) C (by decide) dX3_takenRod_33 ?_
      obtain rfl := Option.some.inj h
      exact j_iret C rfl rfl (Nat.le_refl _) (Nat.le_refl _) dX3_takenRod_37
set_option maxRecDepth 100000 in
set_option maxHeartbeats 4000000 in
theorem c_X3_takenRod {l : Launch} {g : Gc} {ad : Nat → Nat → Nat} {χ : Mem} {T : Nat → Mem} {σ : Mem} {a1 : Int32} {rr : Int32} (h : f_X3_takenRod χ T a1 = some rr) : Met l yX3_takenRod (WS yX3_takenRod cX3_takenRod 2 (some .int)) rm_X3_takenRod (PreW g ad χ T σ [.ref (ad 3 0), .int a1]) (PoI g ad χ T σ rr) 0 0 (geB g) := by
  refine j_metW (by decide) (Nat.le_of_ble_eq_true rfl) fun p e s m below meth c C hname => ?_
  rw [f_X3_takenRod] at h
  exact j_sub [0, 1] rfl (t_X3_takenRod_0 C a1 h)
set_option maxRecDepth 100000 in
set_option maxHeartbeats 4000000 in
theorem t_X10_isForce_0 {χ : Mem} {T : Nat → Mem} {σ : Mem} (C : Cx p s m args meth c cX10_isForce 1 RX10 (some .boolean) COM g) {rr : Int32} (a1 : Int32) (h : f_X10_isForce_0 a1 = some rr) : JJ p l e rm_X10_isForce s m args below meth c 1 g ad (MQ below (PoI g ad χ T σ rr) args s 0 0 (geB g)) χ T σ 0 0 [(0, .int a1)] 0 [] := by
  rw [f_X10_isForce_0] at h
  refine j_iload_n C 0 rfl rfl dX10_isForce_0 ?_
  refine j_bipush (v := -20) C (by decide) dX10_isForce_1 ?_
  refine j_icmp_lt (tgt := 16) C (by decide) dX10_isForce_3 (fun hc1 => ?_) (fun hc1 => ?_)
  · replace h := (if_pos hc1).symm.trans h
    refine j_iconst (v := 0) C (by decide) dX10_isForce_16 ?_
    obtain rfl := Option.some.inj h
    exact j_iret C rfl (bo_nar (Or.inl rfl)) (Nat.le_refl _) (Nat.le_refl _) dX10_isForce_17
  · replace h := (if_neg hc1).symm.trans h
    refine j_iload_n C 0 rfl rfl dX10_isForce_6 ?_
    refine j_bipush (v := 20) C (by decide) dX10_isForce_7 ?_
    refine j_icmp_gt (tgt := 16) C (by decide) dX10_isForce_9 (fun hc2 => ?_) (fun hc2 => ?_)
    · replace h := (if_pos hc2).symm.trans h
      refine j_iconst (v := 0) C (by decide) dX10_isForce_16 ?_
      obtain rfl := Option.some.inj h
      exact j_iret C rfl (bo_nar (Or.inl rfl)) (Nat.le_refl _) (Nat.le_refl _) dX10_isForce_17
    · replace h := (if_neg hc2).symm.trans h
      refine j_iconst (v := 1) C (by decide) dX10_isForce_12 ?_
      refine j_goto (tgt := 17) C (by decide) dX10_isForce_13 ?_
      obtain rfl := Option.some.inj h
      exact j_iret C rfl (bo_nar (Or.inr rfl)) (Nat.le_refl _) (Nat.le_refl _) dX10_isForce_17
set_option maxRecDepth 100000 in
set_option maxHeartbeats 4000000 in
theorem c_X10_isForce {l : Launch} {g : Gc} {ad : Nat → Nat → Nat} {χ : Mem} {T : Nat → Mem} {σ : Mem} {a1 : Int32} {rr : Int32} (h : f_X10_isForce a1 = some rr) : Met l yX10_isForce (WS yX10_isForce cX10_isForce 1 (some .boolean)) rm_X10_isForce (PreW g ad χ T σ [.int a1]) (PoI g ad χ T σ rr) 0 0 (geB g) := by
  refine j_metW (by decide) (Nat.le_of_ble_eq_true rfl) fun p e s m below meth c C hname => ?_
  rw [f_X10_isForce] at h
  exact j_sub [0] rfl (t_X10_isForce_0 C a1 h)
set_option maxRecDepth 100000 in
set_option maxHeartbeats 4000000 in
theorem t_X10_isPlace_0 {χ : Mem} {T : Nat → Mem} {σ : Mem} (C : Cx p s m args meth c cX10_isPlace 2 RX10 (some .boolean) COM g) {rr : Int32} (a1 : Int32) (a2 : Int32) (h : f_X10_isPlace_0 a1 a2 = some rr) : JJ p l e rm_X10_isPlace s m args below meth c 2 g ad (MQ below (PoI g ad χ T σ rr) args s 0 0 (geB g)) χ T σ 0 0 [(0, .int a1), (1, .int a2)] 0 [] := by
  rw [f_X10_isPlace_0] at h
  refine j_iload_n C 0 rfl rfl dX10_isPlace_0 ?_
  refine j_if_lt (tgt := 22) C (by decide) dX10_isPlace_1 (fun hc1 => ?_) (fun hc1 => ?_)
  · replace h := (if_pos hc1).symm.trans h
    refine j_iconst (v := 0) C (by decide) dX10_isPlace_22 ?_
    obtain rfl := Option.some.inj h
    exact j_iret C rfl (bo_nar (Or.inl rfl)) (Nat.le_refl _) (Nat.le_refl _) dX10_isPlace_23
  · replace h := (if_neg hc1).symm.trans h
    refine j_iload_n C 0 rfl rfl dX10_isPlace_4 ?_
    refine j_iconst (v := 5) C (by decide) dX10_isPlace_5 ?_
    refine j_icmp_gt (tgt := 22) C (by decide) dX10_isPlace_6 (fun hc2 => ?_) (fun hc2 => ?_)
    · replace h := (if_pos hc2).symm.trans h
      refine j_iconst (v := 0) C (by decide) dX10_isPlace_22 ?_
      obtain rfl := Option.some.inj h
      exact j_iret C rfl (bo_nar (Or.inl rfl)) (Nat.le_refl _) (Nat.le_refl _) dX10_isPlace_23
    · replace h := (if_neg hc2).symm.trans h
      refine j_iload_n C 1 rfl rfl dX10_isPlace_9 ?_
      refine j_if_lt (tgt := 22) C (by decide) dX10_isPlace_10 (fun hc3 => ?_) (fun hc3 => ?_)
      · replace h := (if_pos hc3).symm.trans h
        refine j_iconst (v := 0) C (by decide) dX10_isPlace_22 ?_
        obtain rfl := Option.some.inj h
        exact j_iret C rfl (bo_nar (Or.inl rfl)) (Nat.le_refl _) (Nat.le_refl _) dX10_isPlace_23
      · replace h := (if_neg hc3).symm.trans h
        refine j_iload_n C 1 rfl rfl dX10_isPlace_13 ?_
        refine j_iconst (v := 5) C (by decide) dX10_isPlace_14 ?_
        refine j_icmp_gt (tgt := 22) C (by decide) dX10_isPlace_15 (fun hc4 => ?_) (fun hc4 => ?_)
        · replace h := (if_pos hc4).symm.trans h
          refine j_iconst (v := 0) C (by decide) dX10_isPlace_22 ?_
          obtain rfl := Option.some.inj h
          exact j_iret C rfl (bo_nar (Or.inl rfl)) (Nat.le_refl _) (Nat.le_refl _) dX10_isPlace_23
        · replace h := (if_neg hc4).symm.trans h
          refine j_iconst (v := 1) C (by decide) dX10_isPlace_18 ?_
          refine j_goto (tgt := 23) C (by decide) dX10_isPlace_19 ?_
          obtain rfl := Option.some.inj h
          exact j_iret C rfl (bo_nar (Or.inr rfl)) (Nat.le_refl _) (Nat.le_refl _) dX10_isPlace_23
set_option maxRecDepth 100000 in
set_option maxHeartbeats 4000000 in
theorem c_X10_isPlace {l : Launch} {g : Gc} {ad : Nat → Nat → Nat} {χ : Mem} {T : Nat → Mem} {σ : Mem} {a1 : Int32} {a2 : Int32} {rr : Int32} (h : f_X10_isPlace a1 a2 = some rr) : Met l yX10_isPlace (WS yX10_isPlace cX10_isPlace 2 (some .boolean)) rm_X10_isPlace (PreW g ad χ T σ [.int a1, .int a2]) (PoI g ad χ T σ rr) 0 0 (geB g) := by
  refine j_metW (by decide) (Nat.le_of_ble_eq_true rfl) fun p e s m below meth c C hname => ?_
  rw [f_X10_isPlace] at h
  exact j_sub [0, 1] rfl (t_X10_isPlace_0 C a1 a2 h)
set_option maxRecDepth 100000 in
set_option maxHeartbeats 4000000 in
theorem t_X10_isPriceOf_0 {χ : Mem} {T : Nat → Mem} {σ : Mem} (C : Cx p s m args meth c cX10_isPriceOf 2 RX10 (some .boolean) COM g) {rr : Int32} (a1 : Int32) (a2 : Int32) (h : f_X10_isPriceOf_0 a1 a2 = some rr) : JJ p l e rm_X10_isPriceOf s m args below meth c 2 g ad (MQ below (PoI g ad χ T σ rr) args s 0 0 (geB g)) χ T σ 0 0 [(0, .int a1), (1, .int a2)] 0 [] := by
  rw [f_X10_isPriceOf_0] at h
  refine j_iload_n C 0 rfl rfl dX10_isPriceOf_0 ?_
  refine j_iconst (v := 3) C (by decide) dX10_isPriceOf_1 ?_
  refine j_icmp_ne (tgt := 25) C (by decide) dX10_isPriceOf_2 (fun hc1 => ?_) (fun hc1 => ?_)
  · replace h := (if_neg hc1).symm.trans h
    refine j_iload_n C 1 rfl rfl dX10_isPriceOf_25 ?_
    refine j_if_ne (tgt := 33) C (by decide) dX10_isPriceOf_26 (fun hc2 => ?_) (fun hc2 => ?_)
    · replace h := (if_neg hc2).symm.trans h
      refine j_iconst (v := 0) C (by decide) dX10_isPriceOf_33 ?_
      obtain rfl := Option.some.inj h
      exact j_iret C rfl (bo_nar (Or.inl rfl)) (Nat.le_refl _) (Nat.le_refl _) dX10_isPriceOf_34
    · replace h := (if_pos hc2).symm.trans h
      refine j_iconst (v := 1) C (by decide) dX10_isPriceOf_29 ?_
      refine j_goto (tgt := 34) C (by decide) dX10_isPriceOf_30 ?_
      obtain rfl := Option.some.inj h
      exact j_iret C rfl (bo_nar (Or.inr rfl)) (Nat.le_refl _) (Nat.le_refl _) dX10_isPriceOf_34
  · replace h := (if_pos hc1).symm.trans h
    refine j_iload_n C 1 rfl rfl dX10_isPriceOf_5 ?_
    refine j_iconst (v := 1) C (by decide) dX10_isPriceOf_6 ?_
    refine j_icmp_lt (tgt := 21) C (by decide) dX10_isPriceOf_7 (fun hc3 => ?_) (fun hc3 => ?_)
    · replace h := (if_pos hc3).symm.trans h
      refine j_iconst (v := 0) C (by decide) dX10_isPriceOf_21 ?_
      refine j_goto (tgt := 34) C (by decide) dX10_isPriceOf_22 ?_
      obtain rfl := Option.some.inj h
      exact j_iret C rfl (bo_nar (Or.inl rfl)) (Nat.le_refl _) (Nat.le_refl _) dX10_isPriceOf_34
    · replace h := (if_neg hc3).symm.trans h
      refine j_iload_n C 1 rfl rfl dX10_isPriceOf_10 ?_
      refine j_sipush (v := 1000) C (by decide) dX10_isPriceOf_11 ?_
      refine j_icmp_gt (tgt := 21) C (by decide) dX10_isPriceOf_14 (fun hc4 => ?_) (fun hc4 => ?_)
      · replace h := (if_pos hc4).symm.trans h
        refine j_iconst (v := 0) C (by decide) dX10_isPriceOf_21 ?_
        refine j_goto (tgt := 34) C (by decide) dX10_isPriceOf_22 ?_
        obtain rfl := Option.some.inj h
        exact j_iret C rfl (bo_nar (Or.inl rfl)) (Nat.le_refl _) (Nat.le_refl _) dX10_isPriceOf_34
      · replace h := (if_neg hc4).symm.trans h
        refine j_iconst (v := 1) C (by decide) dX10_isPriceOf_17 ?_
        refine j_goto (tgt := 34) C (by decide) dX10_isPriceOf_18 ?_
        obtain rfl := Option.some.inj h
        exact j_iret C rfl (bo_nar (Or.inr rfl)) (Nat.le_refl _) (Nat.le_refl _) dX10_isPriceOf_34
set_option maxRecDepth 100000 in
set_option maxHeartbeats 4000000 in
theorem c_X10_isPriceOf {l : Launch} {g : Gc} {ad : Nat → Nat → Nat} {χ : Mem} {T : Nat → Mem} {σ : Mem} {a1 : Int32} {a2 : Int32} {rr : Int32} (h : f_X10_isPriceOf a1 a2 = some rr) : Met l yX10_isPriceOf (WS yX10_isPriceOf cX10_isPriceOf 2 (some .boolean)) rm_X10_isPriceOf (PreW g ad χ T σ [.int a1, .int a2]) (PoI g ad χ T σ rr) 0 0 (geB g) := by
  refine j_metW (by decide) (Nat.le_of_ble_eq_true rfl) fun p e s m below meth c C hname => ?_
  rw [f_X10_isPriceOf] at h
  exact j_sub [0, 1] rfl (t_X10_isPriceOf_0 C a1 a2 h)
set_option maxRecDepth 100000 in
set_option maxHeartbeats 4000000 in
theorem t_X10_isTightAs_64 {σ : Mem} {χ : Mem} {T : Nat → Mem} (C : Cx p s m args meth c cX10_isTightAs 6 RX10 (some .boolean) COM g) {rr : Int32} {k2 : Int32 → Int32 → Option (Int32)} (hk2 : ∀ (v1 : Int32) (v2 : Int32) , k2 v1 v2 = some rr → JJ p l e rm_X10_isTightAs s m args below meth c 6 g ad (MQ below (PoI g ad χ T σ rr) args s 0 0 (geB g)) χ T σ 0 0 [(0, .ref (ad 0 0)), (1, .int v1), (2, .int v2)] 2 []) (v1 : Int32) (v2 : Int32) (v3 : Nat) (v4 : Int64) (hv3 : v3 < gN χ 8 1) (h : f_X10_isTightAs_64 χ T k2 v1 v2 v3 v4 = some rr) : JJ p l e rm_X10_isTightAs s m args below meth c 6 g ad (MQ below (PoI g ad χ T σ rr) args s 0 0 (geB g)) χ T σ 0 0 [(0, .ref (ad 0 0)), (1, .int v1), (2, .int v2), (3, .ref (ad 19 v3)), (4, .long v4)] 64 [] := by
  rw [f_X10_isTightAs_64] at h
  refine j_aload_n C 3 rfl rfl dX10_isTightAs_64 ?_
  refine j_getG C in_X5 (by decide) (cw_19 (χ := χ) hv3) rfl 1 (by decide) mw_649 (fun _ h => h) rfl dX10_isTightAs_65 ?_
  refine j_iconst (v := 2) C (by decide) dX10_isTightAs_68 ?_
  refine j_icmp_ne (tgt := 81) C (by decide) dX10_isTightAs_69 (fun hc1 => ?_) (fun hc1 => ?_)
  · replace h := (if_neg hc1).symm.trans h
    refine j_iinc (v := v2 + (1 : Int32)) (L' := [(2, .int (v2 + (1 : Int32))), (0, .ref (ad 0 0)), (1, .int v1), (3, .ref (ad 19 v3)), (4, .long v4)]) C 2 rfl rfl (by decide) rfl dX10_isTightAs_81 ?_
    refine j_goto (tgt := 2) C (by decide) dX10_isTightAs_84 ?_
    exact j_sub [1, 2, 0] rfl (hk2 v1 (v2 + (1 : Int32)) h)
  · replace h := (if_pos hc1).symm.trans h
    refine j_lload C 4 rfl dX10_isTightAs_72 ?_
    refine j_lconst (v := 0) C (by decide) dX10_isTightAs_74 ?_
    refine j_lcmp_lt (tgt := 81) C dX10_isTightAs_76 (by decide) dX10_isTightAs_75 (fun hc2 => ?_) (fun hc2 => ?_)
    · replace h := (if_pos hc2).symm.trans h
      refine j_iinc (v := v2 + (1 : Int32)) (L' := [(2, .int (v2 + (1 : Int32))), (0, .ref (ad 0 0)), (1, .int v1), (3, .ref (ad 19 v3)), (4, .long v4)]) C 2 rfl rfl (by decide) rfl dX10_isTightAs_81 ?_
      refine j_goto (tgt := 2) C (by decide) dX10_isTightAs_84 ?_
      exact j_sub [1, 2, 0] rfl (hk2 v1 (v2 + (1 : Int32)) h)
    · replace h := (if_neg hc2).symm.trans h
      refine j_iconst (v := 0) C (by decide) dX10_isTightAs_79 ?_
      obtain rfl := Option.some.inj h
      exact j_iret C rfl (bo_nar (Or.inl rfl)) (Nat.le_refl _) (Nat.le_refl _) dX10_isTightAs_80
set_option maxRecDepth 100000 in
set_option maxHeartbeats 4000000 in
theorem t_X10_isTightAs_2 {σ : Mem} {χ : Mem} {T : Nat → Mem} (C : Cx p s m args meth c cX10_isTightAs 6 RX10 (some .boolean) COM g) {rr : Int32} : ∀ (n : Nat) (v1 : Int32) (v2 : Int32) (h : f_X10_isTightAs_2 χ T n v1 v2 = some rr), JJ p l e rm_X10_isTightAs s m args below meth c 6 g ad (MQ below (PoI g ad χ T σ rr) args s 0 0 (geB g)) χ T σ 0 0 [(0, .ref (ad 0 0)), (1, .int v1), (2, .int v2)] 2 [] := by
  intro n
  induction n with
  | zero => intro  v1 v2  h; cases h
  | succ n ih =>
  intro  v1 v2  h
  rw [f_X10_isTightAs_2] at h
  refine j_iload_n C 2 rfl rfl dX10_isTightAs_2 ?_
  refine j_aload_n C 0 rfl rfl dX10_isTightAs_3 ?_
  refine j_getG C in_X10 (by decide) cw_0 rfl 0 (by decide) mw_268 (fun _ h => h) rfl dX10_isTightAs_4 ?_
  refine j_getG C in_X2 (by decide) cw_1 rfl 3 (by decide) mw_139 (fun _ h => h) rfl dX10_isTightAs_7 ?_
  refine j_lsize C (by decide) mw_326 ⟨Nat.le_of_ble_eq_true rfl, Nat.le_of_ble_eq_true rfl⟩ (Nat.le_of_ble_eq_true rfl) dX10_isTightAs_10 ⟨Nat.zero_le _, Nat.zero_le _⟩ ?_
  refine j_icmp_ge (tgt := 87) C (by decide) dX10_isTightAs_15 (fun hc1 => ?_) (fun hc1 => ?_)
  · replace h := (if_pos hc1).symm.trans h
    refine j_iconst (v := 1) C (by decide) dX10_isTightAs_87 ?_
    obtain rfl := Option.some.inj h
    exact j_iret C rfl (bo_nar (Or.inr rfl)) (Nat.le_refl _) (Nat.le_refl _) dX10_isTightAs_88
  · replace h := (if_neg hc1).symm.trans h
    refine j_aload_n C 0 rfl rfl dX10_isTightAs_18 ?_
    refine j_getG C in_X10 (by decide) cw_0 rfl 0 (by decide) mw_268 (fun _ h => h) rfl dX10_isTightAs_19 ?_
    refine j_getG C in_X2 (by decide) cw_1 rfl 3 (by decide) mw_139 (fun _ h => h) rfl dX10_isTightAs_22 ?_
    refine j_iload_n C 2 rfl rfl dX10_isTightAs_25 ?_
    obtain ⟨hg2, h⟩ := gd_some h
    refine j_wt (fun wt3 => ?_)
    refine j_lgetK (ek := 19) C (by decide) (by decide) hg2 mw_620 ⟨Nat.le_of_ble_eq_true rfl, Nat.le_of_ble_eq_true rfl⟩ (Nat.le_of_ble_eq_true rfl) dX10_isTightAs_26 ⟨Nat.zero_le _, Nat.zero_le _⟩ ?_
    refine j_castS (q := (RX5, TX5, 6)) C mw_640 (by decide) (cw_19 (χ := χ) (wt_19 wt3 (by decide) (by decide) hg2)) rfl dX10_isTightAs_31 ?_
    refine j_astore_n (L' := [(3, .ref (ad 19 (gN χ 3 v2.toNatClampNeg))), (0, .ref (ad 0 0)), (1, .int v1), (2, .int v2)]) C rfl (by decide) rfl dX10_isTightAs_34 ?_
    refine j_iload_n C 2 rfl rfl dX10_isTightAs_35 ?_
    refine j_i2l C dX10_isTightAs_36 ?_
    refine j_aload_n C 1 rfl rfl dX10_isTightAs_37 ?_
    refine j_getG C in_X10 (by decide) cw_0 rfl 1 (by decide) mw_269 (fun _ h => h) rfl dX10_isTightAs_38 ?_
    refine j_iconst (v := 0) C (by decide) dX10_isTightAs_41 ?_
    refine j_aload_n C 0 rfl rfl dX10_isTightAs_42 ?_
    obtain ⟨q4, hq4, h⟩ := bi_some h
    refine j_callVl (As := [.int (0 : Int32), .ref (ad 19 (gN χ 3 v2.toNatClampNeg))]) (rest := [.long v1.toInt64]) C (c_X0_stressNumber (wt_19 wt3 (by decide) (by decide) hg2) hq4) (cwV 2 C.ts (good_V mw_780 mw_726 mw_727 mw_68 mw_728) rfl rfl rfl (by decide +kernel) ⟨Nat.le_of_ble_eq_true rfl, Nat.le_of_ble_eq_true rfl⟩) (fun H hW => CW.rv C.k hW (by decide) cw_2 rfl) rfl rfl (Nat.le_of_ble_eq_true rfl) dX10_isTightAs_43 ⟨Nat.zero_le _, Nat.zero_le _⟩ ?_
    refine j_lmul C dX10_isTightAs_46 ?_
    refine j_lstore (L' := [(4, .long (v1.toInt64 * q4)), (3, .ref (ad 19 (gN χ 3 v2.toNatClampNeg))), (0, .ref (ad 0 0)), (1, .int v1), (2, .int v2)]) C (by decide) rfl dX10_isTightAs_47 ?_
    refine j_aload_n C 1 rfl rfl dX10_isTightAs_49 ?_
    refine j_getG C in_X5 (by decide) (cw_19 (χ := χ) (wt_19 wt3 (by decide) (by decide) hg2)) rfl 1 (by decide) mw_649 (fun _ h => h) rfl dX10_isTightAs_50 ?_
    refine j_iconst (v := 1) C (by decide) dX10_isTightAs_53 ?_
    refine j_icmp_ne (tgt := 64) C (by decide) dX10_isTightAs_54 (fun hc5 => ?_) (fun hc5 => ?_)
    · replace h := (if_neg hc5).symm.trans h
      exact j_sub [2, 3, 4, 1, 0] rfl (t_X10_isTightAs_64 C ih v1 v2 (gN χ 3 v2.toNatClampNeg) (v1.toInt64 * q4) (wt_19 wt3 (by decide) (by decide) hg2) h)
    · replace h := (if_pos hc5).symm.trans h
      refine j_lload C 0 rfl dX10_isTightAs_57 ?_
      refine j_lconst (v := 0) C (by decide) dX10_isTightAs_59 ?_
      refine j_lcmp_le (tgt := 79) C dX10_isTightAs_61 (by decide) dX10_isTightAs_60 (fun hc6 => ?_) (fun hc6 => ?_)
      · replace h := (if_pos hc6).symm.trans h
        refine j_iconst (v := 0) C (by decide) dX10_isTightAs_79 ?_
        obtain rfl := Option.some.inj h
        exact j_iret C rfl (bo_nar (Or.inl rfl)) (Nat.le_refl _) (Nat.le_refl _) dX10_isTightAs_80
      · replace h := (if_neg hc6).symm.trans h
        exact j_sub [2, 3, 4, 1, 0] rfl (t_X10_isTightAs_64 C ih v1 v2 (gN χ 3 v2.toNatClampNeg) (v1.toInt64 * q4) (wt_19 wt3 (by decide) (by decide) hg2) h)
set_option maxRecDepth 100000 in
set_option maxHeartbeats 4000000 in
theorem t_X10_isTightAs_0 {σ : Mem} {χ : Mem} {T : Nat → Mem} (C : Cx p s m args meth c cX10_isTightAs 6 RX10 (some .boolean) COM g) {rr : Int32} (a1 : Int32) (h : f_X10_isTightAs_0 χ T a1 = some rr) : JJ p l e rm_X10_isTightAs s m args below meth c 6 g ad (MQ below (PoI g ad χ T σ rr) args s 0 0 (geB g)) χ T σ 0 0 [(0, .ref (ad 0 0)), (1, .int a1)] 0 [] := by
  rw [f_X10_isTightAs_0] at h
  refine j_iconst (v := 0) C (by decide) dX10_isTightAs_0 ?_
  refine j_istore_n (L' := [(2, .int (0 : Int32)), (0, .ref (ad 0 0)), (1, .int a1)]) C rfl (by decide) rfl dX10_isTightAs_1 ?_
  exact j_sub [1, 2, 0] rfl (t_X10_isTightAs_2 C FU a1 (0 : Int32) h)
set_option maxRecDepth 100000 in
set_option maxHeartbeats 4000000 in
theorem c_X10_isTightAs {l : Launch} {g : Gc} {ad : Nat → Nat → Nat} {χ : Mem} {T : Nat → Mem} {σ : Mem} {a1 : Int32} {rr : Int32} (h : f_X10_isTightAs χ T a1 = some rr) : Met l yX10_isTightAs (WS yX10_isTightAs cX10_isTightAs 6 (some .boolean)) rm_X10_isTightAs (PreW g ad χ T σ [.ref (ad 0 0), .int a1]) (PoI g ad χ T σ rr) 0 0 (geB g) := by
  refine j_metW (by decide) (Nat.le_of_ble_eq_true rfl) fun p e s m below meth c C hname => ?_
  rw [f_X10_isTightAs] at h
  exact j_sub [0, 1] rfl (t_X10_isTightAs_0 C a1 h)
set_option maxRecDepth 100000 in
set_option maxHeartbeats 4000000 in
theorem t_X10_carry_0 {σ : Mem} {χ : Mem} {T : Nat → Mem} (C : Cx p s m args meth c cX10_carry 1 RX10 (some .int) COM g) {rr : Int32} (h : f_X10_carry_0 χ T = some rr) : JJ p l e rm_X10_carry s m args below meth c 1 g ad (MQ below (PoI g ad χ T σ rr) args s 0 0 (geB g)) χ T σ 0 0 [(0, .ref (ad 0 0))] 0 [] := by
  rw [f_X10_carry_0] at h
  refine j_aload_n C 0 rfl rfl dX10_carry_0 ?_
  refine j_getG C in_X10 (by decide) cw_0 rfl 1 (by decide) mw_269 (fun _ h => h) rfl dX10_carry_1 ?_
  obtain ⟨q1, hq1, h⟩ := bi_some h
  refine j_callVi (As := []) (rest := []) C (c_X0_isCarried hq1) (cwV 0 C.ts (good_V mw_808 mw_809 mw_810 mw_68 mw_811) rfl rfl rfl (by decide +kernel) ⟨Nat.le_of_ble_eq_true rfl, Nat.le_of_ble_eq_true rfl⟩) (fun H hW => CW.rv C.k hW (by decide) cw_2 rfl) rfl rfl (Nat.le_of_ble_eq_true rfl) dX10_carry_4 ⟨Nat.zero_le _, Nat.zero_le _⟩ ?_
  refine j_if_eq (tgt := 14) C (by decide) dX10_carry_7 (fun hc2 => ?_) (fun hc2 => ?_)
  · replace h := (if_pos hc2).symm.trans h
    refine j_iconst (v := 0) C (by decide) dX10_carry_14 ?_
    obtain rfl := Option.some.inj h
    exact j_iret C rfl rfl (Nat.le_refl _) (Nat.le_refl _) dX10_carry_15
  · replace h := (if_neg hc2).symm.trans h
    refine j_iconst (v := 1) C (by decide) dX10_carry_10 ?_
    refine j_goto (tgt := 15) C (by decide) dX10_carry_11 ?_
    obtain rfl := Option.some.inj h
    exact j_iret C rfl rfl (Nat.le_refl _) (Nat.le_refl _) dX10_carry_15
set_option maxRecDepth 100000 in
set_option maxHeartbeats 4000000 in
theorem c_X10_carry {l : Launch} {g : Gc} {ad : Nat → Nat → Nat} {χ : Mem} {T : Nat → Mem} {σ : Mem} {rr : Int32} (h : f_X10_carry χ T = some rr) : Met l yX10_carry (WS yX10_carry cX10_carry 1 (some .int)) rm_X10_carry (PreW g ad χ T σ [.ref (ad 0 0)]) (PoI g ad χ T σ rr) 0 0 (geB g) := by
  refine j_metW (by decide) (Nat.le_of_ble_eq_true rfl) fun p e s m below meth c C hname => ?_
  rw [f_X10_carry] at h
  exact j_sub [0] rfl (t_X10_carry_0 C h)
set_option maxRecDepth 100000 in
set_option maxHeartbeats 4000000 in
theorem t_X10_cheapest_0 {σ : Mem} {χ : Mem} {T : Nat → Mem} (C : Cx p s m args meth c cX10_cheapest 1 RX10 (some .int) COM g) {rr : Int32} (h : f_X10_cheapest_0 χ T = some rr) : JJ p l e rm_X10_cheapest s m args below meth c 1 g ad (MQ below (PoI g ad χ T σ rr) args s 0 0 (geB g)) χ T σ 0 0 [(0, .ref (ad 0 0))] 0 [] := by
  rw [f_X10_cheapest_0] at h
  refine j_aload_n C 0 rfl rfl dX10_cheapest_0 ?_
  refine j_getG C in_X10 (by decide) cw_0 rfl 2 (by decide) mw_270 (fun _ h => h) rfl dX10_cheapest_1 ?_
  obtain ⟨q1, hq1, h⟩ := bi_some h
  refine j_callVi (As := []) (rest := []) C (c_X3_holds hq1) (cwV 0 C.ts (good_V mw_879 mw_880 mw_881 mw_70 mw_882) rfl rfl rfl (by decide +kernel) ⟨Nat.le_of_ble_eq_true rfl, Nat.le_of_ble_eq_true rfl⟩) (fun H hW => CW.rv C.k hW (by decide) cw_3 rfl) rfl rfl (Nat.le_of_ble_eq_true rfl) dX10_cheapest_4 ⟨Nat.zero_le _, Nat.zero_le _⟩ ?_
  refine j_if_eq (tgt := 20) C (by decide) dX10_cheapest_7 (fun hc2 => ?_) (fun hc2 => ?_)
  · replace h := (if_pos hc2).symm.trans h
    refine j_iconst (v := -1) C (by decide) dX10_cheapest_20 ?_
    obtain rfl := Option.some.inj h
    exact j_iret C rfl rfl (Nat.le_refl _) (Nat.le_refl _) dX10_cheapest_21
  · replace h := (if_neg hc2).symm.trans h
    refine j_aload_n C 0 rfl rfl dX10_cheapest_10 ?_
    refine j_getG C in_X10 (by decide) cw_0 rfl 2 (by decide) mw_270 (fun _ h => h) rfl dX10_cheapest_11 ?_
    obtain ⟨q3, hq3, h⟩ := bi_some h
    refine j_callVi (As := []) (rest := []) C (c_X3_priceOfAll hq3) (cwV 0 C.ts (good_V mw_888 mw_889 mw_890 mw_70 mw_891) rfl rfl rfl (by decide +kernel) ⟨Nat.le_of_ble_eq_true rfl, Nat.le_of_ble_eq_true rfl⟩) (fun H hW => CW.rv C.k hW (by decide) cw_3 rfl) rfl rfl (Nat.le_of_ble_eq_true rfl) dX10_cheapest_14 ⟨Nat.zero_le _, Nat.zero_le _⟩ ?_
    refine j_goto (tgt := 21) C (by decide) dX10_cheapest_17 ?_
    obtain rfl := Option.some.inj h
    exact j_iret C rfl rfl (Nat.le_refl _) (Nat.le_refl _) dX10_cheapest_21
set_option maxRecDepth 100000 in
set_option maxHeartbeats 4000000 in
theorem c_X10_cheapest {l : Launch} {g : Gc} {ad : Nat → Nat → Nat} {χ : Mem} {T : Nat → Mem} {σ : Mem} {rr : Int32} (h : f_X10_cheapest χ T = some rr) : Met l yX10_cheapest (WS yX10_cheapest cX10_cheapest 1 (some .int)) rm_X10_cheapest (PreW g ad χ T σ [.ref (ad 0 0)]) (PoI g ad χ T σ rr) 0 0 (geB g) := by
  refine j_metW (by decide) (Nat.le_of_ble_eq_true rfl) fun p e s m below meth c C hname => ?_
  rw [f_X10_cheapest] at h
  exact j_sub [0] rfl (t_X10_cheapest_0 C h)
set_option maxRecDepth 100000 in
set_option maxHeartbeats 4000000 in
theorem t_X10_force_0 {σ : Mem} {χ : Mem} {T : Nat → Mem} (C : Cx p s m args meth c cX10_force 4 RX10 (some .long) COM g) {rr : Int64} (a1 : Int32) (a2 : Int32) (h : f_X10_force_0 χ T a1 a2 = some rr) : JJ p l e rm_X10_force s m args below meth c 4 g ad (MQ below (PoL g ad χ T σ rr) args s 0 0 (geB g)) χ T σ 0 0 [(0, .ref (ad 0 0)), (1, .int a1), (2, .int a2)] 0 [] := by
  rw [f_X10_force_0] at h
  refine j_aload_n C 0 rfl rfl dX10_force_0 ?_
  refine j_getG C in_X10 (by decide) cw_0 rfl 0 (by decide) mw_268 (fun _ h => h) rfl dX10_force_1 ?_
  refine j_iload_n C 1 rfl rfl dX10_force_4 ?_
  obtain ⟨q1, hq1, h⟩ := bi_some h
  refine j_callVi (As := [.int a1]) (rest := []) C (c_X2_isRod hq1) (cwV 1 C.ts (good_V mw_684 mw_685 mw_686 mw_64 mw_687) rfl rfl rfl (by decide +kernel) ⟨Nat.le_of_ble_eq_true rfl, Nat.le_of_ble_eq_true rfl⟩) (fun H hW => CW.rv C.k hW (by decide) cw_1 rfl) rfl rfl (Nat.le_of_ble_eq_true rfl) dX10_force_5 ⟨Nat.zero_le _, Nat.zero_le _⟩ ?_
  refine j_if_eq (tgt := 30) C (by decide) dX10_force_8 (fun hc2 => ?_) (fun hc2 => ?_)
  · replace h := (if_pos hc2).symm.trans h
    refine j_ldc2 (v := -4611686018427387904) C mw_767 dX10_force_30 ?_
    obtain rfl := Option.some.inj h
    exact j_lret C rfl (Nat.le_refl _) (Nat.le_refl _) dX10_force_33
  · replace h := (if_neg hc2).symm.trans h
    refine j_iload_n C 2 rfl rfl dX10_force_11 ?_
    refine j_if_lt (tgt := 30) C (by decide) dX10_force_12 (fun hc3 => ?_) (fun hc3 => ?_)
    · replace h := (if_pos hc3).symm.trans h
      refine j_ldc2 (v := -4611686018427387904) C mw_767 dX10_force_30 ?_
      obtain rfl := Option.some.inj h
      exact j_lret C rfl (Nat.le_refl _) (Nat.le_refl _) dX10_force_33
    · replace h := (if_neg hc3).symm.trans h
      refine j_iload_n C 2 rfl rfl dX10_force_15 ?_
      refine j_iconst (v := 1) C (by decide) dX10_force_16 ?_
      refine j_icmp_gt (tgt := 30) C (by decide) dX10_force_17 (fun hc4 => ?_) (fun hc4 => ?_)
      · replace h := (if_pos hc4).symm.trans h
        refine j_ldc2 (v := -4611686018427387904) C mw_767 dX10_force_30 ?_
        obtain rfl := Option.some.inj h
        exact j_lret C rfl (Nat.le_refl _) (Nat.le_refl _) dX10_force_33
      · replace h := (if_neg hc4).symm.trans h
        refine j_aload_n C 0 rfl rfl dX10_force_20 ?_
        refine j_getG C in_X10 (by decide) cw_0 rfl 1 (by decide) mw_269 (fun _ h => h) rfl dX10_force_21 ?_
        obtain ⟨q5, hq5, h⟩ := bi_some h
        refine j_callVi (As := []) (rest := []) C (c_X0_isCarried hq5) (cwV 0 C.ts (good_V mw_808 mw_809 mw_810 mw_68 mw_811) rfl rfl rfl (by decide +kernel) ⟨Nat.le_of_ble_eq_true rfl, Nat.le_of_ble_eq_true rfl⟩) (fun H hW => CW.rv C.k hW (by decide) cw_2 rfl) rfl rfl (Nat.le_of_ble_eq_true rfl) dX10_force_24 ⟨Nat.zero_le _, Nat.zero_le _⟩ ?_
        refine j_if_ne (tgt := 34) C (by decide) dX10_force_27 (fun hc6 => ?_) (fun hc6 => ?_)
        · replace h := (if_neg hc6).symm.trans h
          refine j_aload_n C 0 rfl rfl dX10_force_34 ?_
          refine j_getG C in_X10 (by decide) cw_0 rfl 0 (by decide) mw_268 (fun _ h => h) rfl dX10_force_35 ?_
          refine j_getG C in_X2 (by decide) cw_1 rfl 1 (by decide) mw_129 (fun _ h => h) rfl dX10_force_38 ?_
          refine j_iload_n C 1 rfl rfl dX10_force_41 ?_
          obtain ⟨hg7, h⟩ := gd_some h
          refine j_wt (fun wt8 => ?_)
          refine j_lgetK (ek := 19) C (by decide) (by decide) hg7 mw_620 ⟨Nat.le_of_ble_eq_true rfl, Nat.le_of_ble_eq_true rfl⟩ (Nat.le_of_ble_eq_true rfl) dX10_force_42 ⟨Nat.zero_le _, Nat.zero_le _⟩ ?_
          refine j_castS (q := (RX5, TX5, 6)) C mw_640 (by decide) (cw_19 (χ := χ) (wt_19 wt8 (by decide) (by decide) hg7)) rfl dX10_force_47 ?_
          refine j_astore_n (L' := [(3, .ref (ad 19 (gN χ 1 a1.toNatClampNeg))), (0, .ref (ad 0 0)), (1, .int a1), (2, .int a2)]) C rfl (by decide) rfl dX10_force_50 ?_
          refine j_iload_n C 3 rfl rfl dX10_force_51 ?_
          refine j_if_ne (tgt := 66) C (by decide) dX10_force_52 (fun hc9 => ?_) (fun hc9 => ?_)
          · replace h := (if_neg hc9).symm.trans h
            refine j_aload_n C 1 rfl rfl dX10_force_66 ?_
            refine j_getG C in_X10 (by decide) cw_0 rfl 1 (by decide) mw_269 (fun _ h => h) rfl dX10_force_67 ?_
            refine j_aload_n C 0 rfl rfl dX10_force_70 ?_
            obtain ⟨q10, hq10, h⟩ := bi_some h
            refine j_callVl (As := [.ref (ad 19 (gN χ 1 a1.toNatClampNeg))]) (rest := []) C (c_X0_forceBelow (wt_19 wt8 (by decide) (by decide) hg7) hq10) (cwV 1 C.ts (good_V mw_828 mw_829 mw_830 mw_68 mw_831) rfl rfl rfl (by decide +kernel) ⟨Nat.le_of_ble_eq_true rfl, Nat.le_of_ble_eq_true rfl⟩) (fun H hW => CW.rv C.k hW (by decide) cw_2 rfl) rfl rfl (Nat.le_of_ble_eq_true rfl) dX10_force_71 ⟨Nat.zero_le _, Nat.zero_le _⟩ ?_
            obtain rfl := Option.some.inj h
            exact j_lret C rfl (Nat.le_refl _) (Nat.le_refl _) dX10_force_74
          · replace h := (if_pos hc9).symm.trans h
            refine j_aload_n C 1 rfl rfl dX10_force_55 ?_
            refine j_getG C in_X10 (by decide) cw_0 rfl 1 (by decide) mw_269 (fun _ h => h) rfl dX10_force_56 ?_
            refine j_aload_n C 0 rfl rfl dX10_force_59 ?_
            obtain ⟨q11, hq11, h⟩ := bi_some h
            refine j_callVl (As := [.ref (ad 19 (gN χ 1 a1.toNatClampNeg))]) (rest := []) C (c_X0_forceAbove (wt_19 wt8 (by decide) (by decide) hg7) hq11) (cwV 1 C.ts (good_V mw_820 mw_821 mw_822 mw_68 mw_823) rfl rfl rfl (by decide +kernel) ⟨Nat.le_of_ble_eq_true rfl, Nat.le_of_ble_eq_true rfl⟩) (fun H hW => CW.rv C.k hW (by decide) cw_2 rfl) rfl rfl (Nat.le_of_ble_eq_true rfl) dX10_force_60 ⟨Nat.zero_le _, Nat.zero_le _⟩ ?_
            refine j_goto (tgt := 74) C (by decide) dX10_force_63 ?_
            obtain rfl := Option.some.inj h
            exact j_lret C rfl (Nat.le_refl _) (Nat.le_refl _) dX10_force_74
        · replace h := (if_pos hc6).symm.trans h
          refine j_ldc2 (v := -4611686018427387904) C mw_767 dX10_force_30 ?_
          obtain rfl := Option.some.inj h
          exact j_lret C rfl (Nat.le_refl _) (Nat.le_refl _) dX10_force_33
set_option maxRecDepth 100000 in
set_option maxHeartbeats 4000000 in
theorem c_X10_force {l : Launch} {g : Gc} {ad : Nat → Nat → Nat} {χ : Mem} {T : Nat → Mem} {σ : Mem} {a1 : Int32} {a2 : Int32} {rr : Int64} (h : f_X10_force χ T a1 a2 = some rr) : Met l yX10_force (WS yX10_force cX10_force 4 (some .long)) rm_X10_force (PreW g ad χ T σ [.ref (ad 0 0), .int a1, .int a2]) (PoL g ad χ T σ rr) 0 0 (geB g) := by
  refine j_metW (by decide) (Nat.le_of_ble_eq_true rfl) fun p e s m below meth c C hname => ?_
  rw [f_X10_force] at h
  exact j_sub [0, 1, 2] rfl (t_X10_force_0 C a1 a2 h)
set_option maxRecDepth 100000 in
set_option maxHeartbeats 4000000 in
theorem t_X10_gives_2 {σ : Mem} {χ : Mem} {T : Nat → Mem} (C : Cx p s m args meth c cX10_gives 2 RX10 (some .int) COM g) {rr : Int32} : ∀ (n : Nat) (v1 : Int32) (h : f_X10_gives_2 χ T n v1 = some rr), JJ p l e rm_X10_gives s m args below meth c 2 g ad (MQ below (PoI g ad χ T σ rr) args s 0 0 (geB g)) χ T σ 0 0 [(0, .ref (ad 0 0)), (1, .int v1)] 2 [] := by
  intro n
  induction n with
  | zero => intro  v1  h; cases h
  | succ n ih =>
  intro  v1  h
  rw [f_X10_gives_2] at h
  refine j_iload_n C 1 rfl rfl dX10_gives_2 ?_
  refine j_aload_n C 0 rfl rfl dX10_gives_3 ?_
  refine j_getG C in_X10 (by decide) cw_0 rfl 1 (by decide) mw_269 (fun _ h => h) rfl dX10_gives_4 ?_
  obtain ⟨q1, hq1, h⟩ := bi_some h
  refine j_callVi (As := []) (rest := [.int v1]) C (c_X0_motionCount hq1) (cwV 0 C.ts (good_V mw_696 mw_697 mw_698 mw_68 mw_699) rfl rfl rfl (by decide +kernel) ⟨Nat.le_of_ble_eq_true rfl, Nat.le_of_ble_eq_true rfl⟩) (fun H hW => CW.rv C.k hW (by decide) cw_2 rfl) rfl rfl (Nat.le_of_ble_eq_true rfl) dX10_gives_7 ⟨Nat.zero_le _, Nat.zero_le _⟩ ?_
  refine j_icmp_ge (tgt := 34) C (by decide) dX10_gives_10 (fun hc2 => ?_) (fun hc2 => ?_)
  · replace h := (if_pos hc2).symm.trans h
    refine j_iconst (v := -1) C (by decide) dX10_gives_34 ?_
    obtain rfl := Option.some.inj h
    exact j_iret C rfl rfl (Nat.le_refl _) (Nat.le_refl _) dX10_gives_35
  · replace h := (if_neg hc2).symm.trans h
    refine j_aload_n C 0 rfl rfl dX10_gives_13 ?_
    refine j_getG C in_X10 (by decide) cw_0 rfl 1 (by decide) mw_269 (fun _ h => h) rfl dX10_gives_14 ?_
    refine j_iload_n C 1 rfl rfl dX10_gives_17 ?_
    obtain ⟨q3, hq3, h⟩ := bi_some h
    refine j_callVl (As := [.int v1]) (rest := []) C (c_X0_workOf hq3) (cwV 1 C.ts (good_V mw_840 mw_841 mw_842 mw_68 mw_843) rfl rfl rfl (by decide +kernel) ⟨Nat.le_of_ble_eq_true rfl, Nat.le_of_ble_eq_true rfl⟩) (fun H hW => CW.rv C.k hW (by decide) cw_2 rfl) rfl rfl (Nat.le_of_ble_eq_true rfl) dX10_gives_18 ⟨Nat.zero_le _, Nat.zero_le _⟩ ?_
    refine j_lconst (v := 0) C (by decide) dX10_gives_21 ?_
    refine j_lcmp_eq (tgt := 28) C dX10_gives_23 (by decide) dX10_gives_22 (fun hc4 => ?_) (fun hc4 => ?_)
    · replace h := (if_pos hc4).symm.trans h
      refine j_iinc (v := v1 + (1 : Int32)) (L' := [(1, .int (v1 + (1 : Int32))), (0, .ref (ad 0 0))]) C 1 rfl rfl (by decide) rfl dX10_gives_28 ?_
      refine j_goto (tgt := 2) C (by decide) dX10_gives_31 ?_
      exact j_sub [1, 0] rfl (ih (v1 + (1 : Int32)) h)
    · replace h := (if_neg hc4).symm.trans h
      refine j_iload_n C 1 rfl rfl dX10_gives_26 ?_
      obtain rfl := Option.some.inj h
      exact j_iret C rfl rfl (Nat.le_refl _) (Nat.le_refl _) dX10_gives_27
set_option maxRecDepth 100000 in
set_option maxHeartbeats 4000000 in
theorem t_X10_gives_0 {σ : Mem} {χ : Mem} {T : Nat → Mem} (C : Cx p s m args meth c cX10_gives 2 RX10 (some .int) COM g) {rr : Int32} (h : f_X10_gives_0 χ T = some rr) : JJ p l e rm_X10_gives s m args below meth c 2 g ad (MQ below (PoI g ad χ T σ rr) args s 0 0 (geB g)) χ T σ 0 0 [(0, .ref (ad 0 0))] 0 [] := by
  rw [f_X10_gives_0] at h
  refine j_iconst (v := 0) C (by decide) dX10_gives_0 ?_
  refine j_istore_n (L' := [(1, .int (0 : Int32)), (0, .ref (ad 0 0))]) C rfl (by decide) rfl dX10_gives_1 ?_
  exact j_sub [1, 0] rfl (t_X10_gives_2 C FU (0 : Int32) h)
set_option maxRecDepth 100000 in
set_option maxHeartbeats 4000000 in
theorem c_X10_gives {l : Launch} {g : Gc} {ad : Nat → Nat → Nat} {χ : Mem} {T : Nat → Mem} {σ : Mem} {rr : Int32} (h : f_X10_gives χ T = some rr) : Met l yX10_gives (WS yX10_gives cX10_gives 2 (some .int)) rm_X10_gives (PreW g ad χ T σ [.ref (ad 0 0)]) (PoI g ad χ T σ rr) 0 0 (geB g) := by
  refine j_metW (by decide) (Nat.le_of_ble_eq_true rfl) fun p e s m below meth c C hname => ?_
  rw [f_X10_gives] at h
  exact j_sub [0] rfl (t_X10_gives_0 C h)
set_option maxRecDepth 100000 in
set_option maxHeartbeats 4000000 in
theorem t_X10_pinTold_0 {σ : Mem} {χ : Mem} {T : Nat → Mem} (C : Cx p s m args meth c cX10_pinTold 4 RX10 (some .int) COM g) {rr : Int32} (a1 : Int32) (a2 : Int32) (h : f_X10_pinTold_0 χ T a1 a2 = some rr) : JJ p l e rm_X10_pinTold s m args below meth c 4 g ad (MQ below (PoI g ad χ T σ rr) args s 0 0 (geB g)) χ T σ 0 0 [(0, .ref (ad 0 0)), (1, .int a1), (2, .int a2)] 0 [] := by
  rw [f_X10_pinTold_0] at h
  refine j_aload_n C 0 rfl rfl dX10_pinTold_0 ?_
  refine j_getG C in_X10 (by decide) cw_0 rfl 0 (by decide) mw_268 (fun _ h => h) rfl dX10_pinTold_1 ?_
  refine j_iload_n C 1 rfl rfl dX10_pinTold_4 ?_
  obtain ⟨q1, hq1, h⟩ := bi_some h
  refine j_callVi (As := [.int a1]) (rest := []) C (c_X2_isPin hq1) (cwV 1 C.ts (good_V mw_615 mw_616 mw_617 mw_64 mw_618) rfl rfl rfl (by decide +kernel) ⟨Nat.le_of_ble_eq_true rfl, Nat.le_of_ble_eq_true rfl⟩) (fun H hW => CW.rv C.k hW (by decide) cw_1 rfl) rfl rfl (Nat.le_of_ble_eq_true rfl) dX10_pinTold_5 ⟨Nat.zero_le _, Nat.zero_le _⟩ ?_
  refine j_if_ne (tgt := 14) C (by decide) dX10_pinTold_8 (fun hc2 => ?_) (fun hc2 => ?_)
  · replace h := (if_neg hc2).symm.trans h
    refine j_aload_n C 0 rfl rfl dX10_pinTold_14 ?_
    refine j_getG C in_X10 (by decide) cw_0 rfl 0 (by decide) mw_268 (fun _ h => h) rfl dX10_pinTold_15 ?_
    refine j_getG C in_X2 (by decide) cw_1 rfl 0 (by decide) mw_125 (fun _ h => h) rfl dX10_pinTold_18 ?_
    refine j_iload_n C 1 rfl rfl dX10_pinTold_21 ?_
    obtain ⟨hg3, h⟩ := gd_some h
    refine j_wt (fun wt4 => ?_)
    refine j_lgetK (ek := 18) C (by decide) (by decide) hg3 mw_620 ⟨Nat.le_of_ble_eq_true rfl, Nat.le_of_ble_eq_true rfl⟩ (Nat.le_of_ble_eq_true rfl) dX10_pinTold_22 ⟨Nat.zero_le _, Nat.zero_le _⟩ ?_
    refine j_castS (q := (RX4, TX4, 6)) C mw_327 (by decide) (cw_18 (χ := χ) (wt_18 wt4 (by decide) (by decide) hg3)) rfl dX10_pinTold_27 ?_
    refine j_astore_n (L' := [(3, .ref (ad 18 (gN χ 0 a1.toNatClampNeg))), (0, .ref (ad 0 0)), (1, .int a1), (2, .int a2)]) C rfl (by decide) rfl dX10_pinTold_30 ?_
    refine j_iload_n C 3 rfl rfl dX10_pinTold_31 ?_
    by_cases hs5 : a2.toInt < 0 ∨ 5 < a2.toInt
    · replace h := (if_pos hs5).symm.trans h
      refine j_tableOut (tgt := 114) C hs5 (by decide) dX10_pinTold_32 ?_
      refine j_bipush (v := -2) C (by decide) dX10_pinTold_114 ?_
      obtain rfl := Option.some.inj h
      exact j_iret C rfl rfl (Nat.le_refl _) (Nat.le_refl _) dX10_pinTold_116
    · replace h := (if_neg hs5).symm.trans h
      by_cases hx6 : a2 = (0 : Int32)
      · replace h := (if_pos hx6).symm.trans h
        refine j_tableIn (off := 40) (tgt := 72) C (fun q => hs5 (Or.inl q)) (fun q => hs5 (Or.inr q)) (by rw [hx6]; rfl) (by decide) dX10_pinTold_32 ?_
        refine j_aload_n C 0 rfl rfl dX10_pinTold_72 ?_
        refine j_getG C in_X4 (by decide) (cw_18 (χ := χ) (wt_18 wt4 (by decide) (by decide) hg3)) rfl 1 (by decide) mw_338 (fun _ h => h) rfl dX10_pinTold_73 ?_
        obtain rfl := Option.some.inj h
        exact j_iret C rfl rfl (Nat.le_refl _) (Nat.le_refl _) dX10_pinTold_76
      · replace h := (if_neg hx6).symm.trans h
        by_cases hx7 : a2 = (1 : Int32)
        · replace h := (if_pos hx7).symm.trans h
          refine j_tableIn (off := 45) (tgt := 77) C (fun q => hs5 (Or.inl q)) (fun q => hs5 (Or.inr q)) (by rw [hx7]; rfl) (by decide) dX10_pinTold_32 ?_
          refine j_aload_n C 0 rfl rfl dX10_pinTold_77 ?_
          refine j_getG C in_X4 (by decide) (cw_18 (χ := χ) (wt_18 wt4 (by decide) (by decide) hg3)) rfl 2 (by decide) mw_342 (fun _ h => h) rfl dX10_pinTold_78 ?_
          obtain rfl := Option.some.inj h
          exact j_iret C rfl rfl (Nat.le_refl _) (Nat.le_refl _) dX10_pinTold_81
        · replace h := (if_neg hx7).symm.trans h
          by_cases hx8 : a2 = (2 : Int32)
          · replace h := (if_pos hx8).symm.trans h
            refine j_tableIn (off := 50) (tgt := 82) C (fun q => hs5 (Or.inl q)) (fun q => hs5 (Or.inr q)) (by rw [hx8]; rfl) (by decide) dX10_pinTold_32 ?_
            refine j_aload_n C 0 rfl rfl dX10_pinTold_82 ?_
            refine j_getG C in_X4 (by decide) (cw_18 (χ := χ) (wt_18 wt4 (by decide) (by decide) hg3)) rfl 3 (by decide) mw_346 (fun _ h => h) rfl dX10_pinTold_83 ?_
            refine j_if_eq (tgt := 93) C (by decide) dX10_pinTold_86 (fun hc9 => ?_) (fun hc9 => ?_)
            · replace h := (if_pos hc9).symm.trans h
              refine j_iconst (v := 0) C (by decide) dX10_pinTold_93 ?_
              obtain rfl := Option.some.inj h
              exact j_iret C rfl rfl (Nat.le_refl _) (Nat.le_refl _) dX10_pinTold_94
            · replace h := (if_neg hc9).symm.trans h
              refine j_iconst (v := 1) C (by decide) dX10_pinTold_89 ?_
              refine j_goto (tgt := 94) C (by decide) dX10_pinTold_90 ?_
              obtain rfl := Option.some.inj h
              exact j_iret C rfl rfl (Nat.le_refl _) (Nat.le_refl _) dX10_pinTold_94
          · replace h := (if_neg hx8).symm.trans h
            by_cases hx10 : a2 = (3 : Int32)
            · replace h := (if_pos hx10).symm.trans h
              refine j_tableIn (off := 63) (tgt := 95) C (fun q => hs5 (Or.inl q)) (fun q => hs5 (Or.inr q)) (by rw [hx10]; rfl) (by decide) dX10_pinTold_32 ?_
              refine j_aload_n C 1 rfl rfl dX10_pinTold_95 ?_
              refine j_getG C in_X10 (by decide) cw_0 rfl 0 (by decide) mw_268 (fun _ h => h) rfl dX10_pinTold_96 ?_
              refine j_aload_n C 0 rfl rfl dX10_pinTold_99 ?_
              obtain ⟨q11, hq11, h⟩ := bi_some h
              refine j_callVi (As := [.ref (ad 18 (gN χ 0 a1.toNatClampNeg))]) (rest := []) C (c_X2_rodsInAt (wt_18 wt4 (by decide) (by decide) hg3) hq11) (cwV 1 C.ts (good_V mw_745 mw_746 mw_747 mw_64 mw_748) rfl rfl rfl (by decide +kernel) ⟨Nat.le_of_ble_eq_true rfl, Nat.le_of_ble_eq_true rfl⟩) (fun H hW => CW.rv C.k hW (by decide) cw_1 rfl) rfl rfl (Nat.le_of_ble_eq_true rfl) dX10_pinTold_100 ⟨Nat.zero_le _, Nat.zero_le _⟩ ?_
              obtain rfl := Option.some.inj h
              exact j_iret C rfl rfl (Nat.le_refl _) (Nat.le_refl _) dX10_pinTold_103
            · replace h := (if_neg hx10).symm.trans h
              by_cases hx12 : a2 = (4 : Int32)
              · replace h := (if_pos hx12).symm.trans h
                refine j_tableIn (off := 72) (tgt := 104) C (fun q => hs5 (Or.inl q)) (fun q => hs5 (Or.inr q)) (by rw [hx12]; rfl) (by decide) dX10_pinTold_32 ?_
                refine j_aload_n C 0 rfl rfl dX10_pinTold_104 ?_
                refine j_getG C in_X4 (by decide) (cw_18 (χ := χ) (wt_18 wt4 (by decide) (by decide) hg3)) rfl 4 (by decide) mw_348 (fun _ h => h) rfl dX10_pinTold_105 ?_
                obtain rfl := Option.some.inj h
                exact j_iret C rfl rfl (Nat.le_refl _) (Nat.le_refl _) dX10_pinTold_108
              · replace h := (if_neg hx12).symm.trans h
                by_cases hx13 : a2 = (5 : Int32)
                · replace h := (if_pos hx13).symm.trans h
                  refine j_tableIn (off := 77) (tgt := 109) C (fun q => hs5 (Or.inl q)) (fun q => hs5 (Or.inr q)) (by rw [hx13]; rfl) (by decide) dX10_pinTold_32 ?_
                  refine j_aload_n C 0 rfl rfl dX10_pinTold_109 ?_
                  refine j_getG C in_X4 (by decide) (cw_18 (χ := χ) (wt_18 wt4 (by decide) (by decide) hg3)) rfl 5 (by decide) mw_351 (fun _ h => h) rfl dX10_pinTold_110 ?_
                  obtain rfl := Option.some.inj h
                  exact j_iret C rfl rfl (Nat.le_refl _) (Nat.le_refl _) dX10_pinTold_113
                · replace h := (if_neg hx13).symm.trans h
                  cases h
  · replace h := (if_pos hc2).symm.trans h
    refine j_bipush (v := -2) C (by decide) dX10_pinTold_11 ?_
    obtain rfl := Option.some.inj h
    exact j_iret C rfl rfl (Nat.le_refl _) (Nat.le_refl _) dX10_pinTold_13
set_option maxRecDepth 100000 in
set_option maxHeartbeats 4000000 in
theorem c_X10_pinTold {l : Launch} {g : Gc} {ad : Nat → Nat → Nat} {χ : Mem} {T : Nat → Mem} {σ : Mem} {a1 : Int32} {a2 : Int32} {rr : Int32} (h : f_X10_pinTold χ T a1 a2 = some rr) : Met l yX10_pinTold (WS yX10_pinTold cX10_pinTold 4 (some .int)) rm_X10_pinTold (PreW g ad χ T σ [.ref (ad 0 0), .int a1, .int a2]) (PoI g ad χ T σ rr) 0 0 (geB g) := by
  refine j_metW (by decide) (Nat.le_of_ble_eq_true rfl) fun p e s m below meth c C hname => ?_
  rw [f_X10_pinTold] at h
  exact j_sub [0, 1, 2] rfl (t_X10_pinTold_0 C a1 a2 h)
set_option maxRecDepth 100000 in
set_option maxHeartbeats 4000000 in
theorem t_X10_plan_0 {σ : Mem} {χ : Mem} {T : Nat → Mem} (C : Cx p s m args meth c cX10_plan 2 RX10 (some .int) COM g) {rr : Int32} (a1 : Int32) (h : f_X10_plan_0 χ T a1 = some rr) : JJ p l e rm_X10_plan s m args below meth c 2 g ad (MQ below (PoI g ad χ T σ rr) args s 0 0 (geB g)) χ T σ 0 0 [(0, .ref (ad 0 0)), (1, .int a1)] 0 [] := by
  rw [f_X10_plan_0] at h
  refine j_aload_n C 0 rfl rfl dX10_plan_0 ?_
  refine j_getG C in_X10 (by decide) cw_0 rfl 2 (by decide) mw_270 (fun _ h => h) rfl dX10_plan_1 ?_
  refine j_iload_n C 1 rfl rfl dX10_plan_4 ?_
  obtain ⟨q1, hq1, h⟩ := bi_some h
  refine j_callVi (As := [.int a1]) (rest := []) C (c_X3_takenRod hq1) (cwV 1 C.ts (good_V mw_871 mw_872 mw_873 mw_70 mw_874) rfl rfl rfl (by decide +kernel) ⟨Nat.le_of_ble_eq_true rfl, Nat.le_of_ble_eq_true rfl⟩) (fun H hW => CW.rv C.k hW (by decide) cw_3 rfl) rfl rfl (Nat.le_of_ble_eq_true rfl) dX10_plan_5 ⟨Nat.zero_le _, Nat.zero_le _⟩ ?_
  obtain rfl := Option.some.inj h
  exact j_iret C rfl rfl (Nat.le_refl _) (Nat.le_refl _) dX10_plan_8
set_option maxRecDepth 100000 in
set_option maxHeartbeats 4000000 in
theorem c_X10_plan {l : Launch} {g : Gc} {ad : Nat → Nat → Nat} {χ : Mem} {T : Nat → Mem} {σ : Mem} {a1 : Int32} {rr : Int32} (h : f_X10_plan χ T a1 = some rr) : Met l yX10_plan (WS yX10_plan cX10_plan 2 (some .int)) rm_X10_plan (PreW g ad χ T σ [.ref (ad 0 0), .int a1]) (PoI g ad χ T σ rr) 0 0 (geB g) := by
  refine j_metW (by decide) (Nat.le_of_ble_eq_true rfl) fun p e s m below meth c C hname => ?_
  rw [f_X10_plan] at h
  exact j_sub [0, 1] rfl (t_X10_plan_0 C a1 h)
set_option maxRecDepth 100000 in
set_option maxHeartbeats 4000000 in
theorem t_X10_stiff_0 {σ : Mem} {χ : Mem} {T : Nat → Mem} (C : Cx p s m args meth c cX10_stiff 1 RX10 (some .int) COM g) {rr : Int32} (h : f_X10_stiff_0 χ T = some rr) : JJ p l e rm_X10_stiff s m args below meth c 1 g ad (MQ below (PoI g ad χ T σ rr) args s 0 0 (geB g)) χ T σ 0 0 [(0, .ref (ad 0 0))] 0 [] := by
  rw [f_X10_stiff_0] at h
  refine j_aload_n C 0 rfl rfl dX10_stiff_0 ?_
  refine j_getG C in_X10 (by decide) cw_0 rfl 1 (by decide) mw_269 (fun _ h => h) rfl dX10_stiff_1 ?_
  obtain ⟨q1, hq1, h⟩ := bi_some h
  refine j_callVi (As := []) (rest := []) C (c_X0_motionCount hq1) (cwV 0 C.ts (good_V mw_696 mw_697 mw_698 mw_68 mw_699) rfl rfl rfl (by decide +kernel) ⟨Nat.le_of_ble_eq_true rfl, Nat.le_of_ble_eq_true rfl⟩) (fun H hW => CW.rv C.k hW (by decide) cw_2 rfl) rfl rfl (Nat.le_of_ble_eq_true rfl) dX10_stiff_4 ⟨Nat.zero_le _, Nat.zero_le _⟩ ?_
  refine j_aload_n C 0 rfl rfl dX10_stiff_7 ?_
  refine j_getG C in_X10 (by decide) cw_0 rfl 0 (by decide) mw_268 (fun _ h => h) rfl dX10_stiff_8 ?_
  obtain ⟨q2, hq2, h⟩ := bi_some h
  refine j_callVi (As := []) (rest := [.int q1]) C (c_X2_planeMotions hq2) (cwV 0 C.ts (good_V mw_785 mw_786 mw_787 mw_64 mw_788) rfl rfl rfl (by decide +kernel) ⟨Nat.le_of_ble_eq_true rfl, Nat.le_of_ble_eq_true rfl⟩) (fun H hW => CW.rv C.k hW (by decide) cw_1 rfl) rfl rfl (Nat.le_of_ble_eq_true rfl) dX10_stiff_11 ⟨Nat.zero_le _, Nat.zero_le _⟩ ?_
  refine j_icmp_ne (tgt := 21) C (by decide) dX10_stiff_14 (fun hc3 => ?_) (fun hc3 => ?_)
  · replace h := (if_neg hc3).symm.trans h
    refine j_iconst (v := 0) C (by decide) dX10_stiff_21 ?_
    obtain rfl := Option.some.inj h
    exact j_iret C rfl rfl (Nat.le_refl _) (Nat.le_refl _) dX10_stiff_22
  · replace h := (if_pos hc3).symm.trans h
    refine j_iconst (v := 1) C (by decide) dX10_stiff_17 ?_
    refine j_goto (tgt := 22) C (by decide) dX10_stiff_18 ?_
    obtain rfl := Option.some.inj h
    exact j_iret C rfl rfl (Nat.le_refl _) (Nat.le_refl _) dX10_stiff_22
set_option maxRecDepth 100000 in
set_option maxHeartbeats 4000000 in
theorem c_X10_stiff {l : Launch} {g : Gc} {ad : Nat → Nat → Nat} {χ : Mem} {T : Nat → Mem} {σ : Mem} {rr : Int32} (h : f_X10_stiff χ T = some rr) : Met l yX10_stiff (WS yX10_stiff cX10_stiff 1 (some .int)) rm_X10_stiff (PreW g ad χ T σ [.ref (ad 0 0)]) (PoI g ad χ T σ rr) 0 0 (geB g) := by
  refine j_metW (by decide) (Nat.le_of_ble_eq_true rfl) fun p e s m below meth c C hname => ?_
  rw [f_X10_stiff] at h
  exact j_sub [0] rfl (t_X10_stiff_0 C h)
set_option maxRecDepth 100000 in
set_option maxHeartbeats 4000000 in
theorem t_X10_tight_0 {σ : Mem} {χ : Mem} {T : Nat → Mem} (C : Cx p s m args meth c cX10_tight 1 RX10 (some .int) COM g) {rr : Int32} (h : f_X10_tight_0 χ T = some rr) : JJ p l e rm_X10_tight s m args below meth c 1 g ad (MQ below (PoI g ad χ T σ rr) args s 0 0 (geB g)) χ T σ 0 0 [(0, .ref (ad 0 0))] 0 [] := by
  rw [f_X10_tight_0] at h
  refine j_aload_n C 0 rfl rfl dX10_tight_0 ?_
  refine j_getG C in_X10 (by decide) cw_0 rfl 1 (by decide) mw_269 (fun _ h => h) rfl dX10_tight_1 ?_
  obtain ⟨q1, hq1, h⟩ := bi_some h
  refine j_callVi (As := []) (rest := []) C (c_X0_stressCount hq1) (cwV 0 C.ts (good_V mw_704 mw_705 mw_706 mw_68 mw_707) rfl rfl rfl (by decide +kernel) ⟨Nat.le_of_ble_eq_true rfl, Nat.le_of_ble_eq_true rfl⟩) (fun H hW => CW.rv C.k hW (by decide) cw_2 rfl) rfl rfl (Nat.le_of_ble_eq_true rfl) dX10_tight_4 ⟨Nat.zero_le _, Nat.zero_le _⟩ ?_
  refine j_iconst (v := 1) C (by decide) dX10_tight_7 ?_
  refine j_icmp_eq (tgt := 13) C (by decide) dX10_tight_8 (fun hc2 => ?_) (fun hc2 => ?_)
  · replace h := (if_pos hc2).symm.trans h
    refine j_aload_n C 0 rfl rfl dX10_tight_13 ?_
    refine j_iconst (v := 1) C (by decide) dX10_tight_14 ?_
    obtain ⟨q3, hq3, h⟩ := bi_some h
    refine j_callVi (As := [.int (1 : Int32)]) (rest := []) C (c_X10_isTightAs hq3) (cwV 1 C.ts (good_V mw_793 mw_795 mw_21 mw_63 mw_796) rfl rfl rfl (by decide +kernel) ⟨Nat.le_of_ble_eq_true rfl, Nat.le_of_ble_eq_true rfl⟩) (fun H hW => CW.rv C.k hW (by decide) cw_0 rfl) rfl rfl (Nat.le_of_ble_eq_true rfl) dX10_tight_15 ⟨Nat.zero_le _, Nat.zero_le _⟩ ?_
    refine j_if_ne (tgt := 29) C (by decide) dX10_tight_18 (fun hc4 => ?_) (fun hc4 => ?_)
    · replace h := (if_neg hc4).symm.trans h
      refine j_iconst (v := 1) C (by decide) dX10_tight_29 ?_
      refine j_goto (tgt := 34) C (by decide) dX10_tight_30 ?_
      obtain rfl := Option.some.inj h
      exact j_iret C rfl rfl (Nat.le_refl _) (Nat.le_refl _) dX10_tight_34
    · replace h := (if_pos hc4).symm.trans h
      refine j_aload_n C 0 rfl rfl dX10_tight_21 ?_
      refine j_iconst (v := -1) C (by decide) dX10_tight_22 ?_
      obtain ⟨q5, hq5, h⟩ := bi_some h
      refine j_callVi (As := [.int (-1 : Int32)]) (rest := []) C (c_X10_isTightAs hq5) (cwV 1 C.ts (good_V mw_793 mw_795 mw_21 mw_63 mw_796) rfl rfl rfl (by decide +kernel) ⟨Nat.le_of_ble_eq_true rfl, Nat.le_of_ble_eq_true rfl⟩) (fun H hW => CW.rv C.k hW (by decide) cw_0 rfl) rfl rfl (Nat.le_of_ble_eq_true rfl) dX10_tight_23 ⟨Nat.zero_le _, Nat.zero_le _⟩ ?_
      refine j_if_eq (tgt := 33) C (by decide) dX10_tight_26 (fun hc6 => ?_) (fun hc6 => ?_)
      · replace h := (if_pos hc6).symm.trans h
        refine j_iconst (v := 0) C (by decide) dX10_tight_33 ?_
        obtain rfl := Option.some.inj h
        exact j_iret C rfl rfl (Nat.le_refl _) (Nat.le_refl _) dX10_tight_34
      · replace h := (if_neg hc6).symm.trans h
        refine j_iconst (v := 1) C (by decide) dX10_tight_29 ?_
        refine j_goto (tgt := 34) C (by decide) dX10_tight_30 ?_
        obtain rfl := Option.some.inj h
        exact j_iret C rfl rfl (Nat.le_refl _) (Nat.le_refl _) dX10_tight_34
  · replace h := (if_neg hc2).symm.trans h
    refine j_iconst (v := -1) C (by decide) dX10_tight_11 ?_
    obtain rfl := Option.some.inj h
    exact j_iret C rfl rfl (Nat.le_refl _) (Nat.le_refl _) dX10_tight_12
set_option maxRecDepth 100000 in
set_option maxHeartbeats 4000000 in
theorem c_X10_tight {l : Launch} {g : Gc} {ad : Nat → Nat → Nat} {χ : Mem} {T : Nat → Mem} {σ : Mem} {rr : Int32} (h : f_X10_tight χ T = some rr) : Met l yX10_tight (WS yX10_tight cX10_tight 1 (some .int)) rm_X10_tight (PreW g ad χ T σ [.ref (ad 0 0)]) (PoI g ad χ T σ rr) 0 0 (geB g) := by
  refine j_metW (by decide) (Nat.le_of_ble_eq_true rfl) fun p e s m below meth c C hname => ?_
  rw [f_X10_tight] at h
  exact j_sub [0] rfl (t_X10_tight_0 C h)
set_option maxRecDepth 100000 in
set_option maxHeartbeats 4000000 in
theorem t_X9_done_0 {σ : Mem} (C : Cx p s m args meth c cX9_done 2 RX9 (some .int) COM g) {rr : (Mem × (Nat → Mem)) × Int32} (χ : Mem) (T : Nat → Mem) (a1 : Int32) (h : f_X9_done_0 χ T a1 = some rr) : JJ p l e rm_X9_done s m args below meth c 2 g ad (MQ below (PoI g ad rr.1.1 rr.1.2 σ rr.2) args s 0 0 (geB g)) χ T σ 0 0 [(0, .ref (ad 5 0)), (1, .int a1)] 0 [] := by
  rw [f_X9_done_0] at h
  refine j_aload_n C 0 rfl rfl dX9_done_0 ?_
  refine j_iconst (v := 0) C (by decide) dX9_done_1 ?_
  refine j_putI C in_X9 tyX9_ok nmX9 rfl 3 (by decide) (by decide) (po_Trays_status (0 : Int32)) mw_258 (fun _ h => h) rfl (tyX9_ok 3 (by decide)) (Nat.le_of_ble_eq_true rfl) dX9_done_2 ?_
  refine j_iload_n C 1 rfl rfl dX9_done_5 ?_
  obtain rfl := Option.some.inj h
  exact j_iret C rfl rfl (Nat.le_refl _) (Nat.le_refl _) dX9_done_6
set_option maxRecDepth 100000 in
set_option maxHeartbeats 4000000 in
theorem c_X9_done {l : Launch} {g : Gc} {ad : Nat → Nat → Nat} {χ : Mem} {T : Nat → Mem} {σ : Mem} {a1 : Int32} {rr : (Mem × (Nat → Mem)) × Int32} (h : f_X9_done χ T a1 = some rr) : Met l yX9_done (WS yX9_done cX9_done 2 (some .int)) rm_X9_done (PreW g ad χ T σ [.ref (ad 5 0), .int a1]) (PoI g ad rr.1.1 rr.1.2 σ rr.2) 0 0 (geB g) := by
  refine j_metW (by decide) (Nat.le_of_ble_eq_true rfl) fun p e s m below meth c C hname => ?_
  rw [f_X9_done] at h
  exact j_sub [0, 1] rfl (t_X9_done_0 C χ T a1 h)
set_option maxRecDepth 100000 in
set_option maxHeartbeats 4000000 in
theorem t_X9_isTray_0 {χ : Mem} {T : Nat → Mem} {σ : Mem} (C : Cx p s m args meth c cX9_isTray 1 RX9 (some .boolean) COM g) {rr : Int32} (a1 : Int32) (h : f_X9_isTray_0 a1 = some rr) : JJ p l e rm_X9_isTray s m args below meth c 1 g ad (MQ below (PoI g ad χ T σ rr) args s 0 0 (geB g)) χ T σ 0 0 [(0, .int a1)] 0 [] := by
  rw [f_X9_isTray_0] at h
  refine j_iload_n C 0 rfl rfl dX9_isTray_0 ?_
  refine j_if_lt (tgt := 14) C (by decide) dX9_isTray_1 (fun hc1 => ?_) (fun hc1 => ?_)
  · replace h := (if_pos hc1).symm.trans h
    refine j_iconst (v := 0) C (by decide) dX9_isTray_14 ?_
    obtain rfl := Option.some.inj h
    exact j_iret C rfl (bo_nar (Or.inl rfl)) (Nat.le_refl _) (Nat.le_refl _) dX9_isTray_15
  · replace h := (if_neg hc1).symm.trans h
    refine j_iload_n C 0 rfl rfl dX9_isTray_4 ?_
    refine j_bipush (v := 6) C (by decide) dX9_isTray_5 ?_
    refine j_icmp_ge (tgt := 14) C (by decide) dX9_isTray_7 (fun hc2 => ?_) (fun hc2 => ?_)
    · replace h := (if_pos hc2).symm.trans h
      refine j_iconst (v := 0) C (by decide) dX9_isTray_14 ?_
      obtain rfl := Option.some.inj h
      exact j_iret C rfl (bo_nar (Or.inl rfl)) (Nat.le_refl _) (Nat.le_refl _) dX9_isTray_15
    · replace h := (if_neg hc2).symm.trans h
      refine j_iconst (v := 1) C (by decide) dX9_isTray_10 ?_
      refine j_goto (tgt := 15) C (by decide) dX9_isTray_11 ?_
      obtain rfl := Option.some.inj h
      exact j_iret C rfl (bo_nar (Or.inr rfl)) (Nat.le_refl _) (Nat.le_refl _) dX9_isTray_15
set_option maxRecDepth 100000 in
set_option maxHeartbeats 4000000 in
theorem c_X9_isTray {l : Launch} {g : Gc} {ad : Nat → Nat → Nat} {χ : Mem} {T : Nat → Mem} {σ : Mem} {a1 : Int32} {rr : Int32} (h : f_X9_isTray a1 = some rr) : Met l yX9_isTray (WS yX9_isTray cX9_isTray 1 (some .boolean)) rm_X9_isTray (PreW g ad χ T σ [.int a1]) (PoI g ad χ T σ rr) 0 0 (geB g) := by
  refine j_metW (by decide) (Nat.le_of_ble_eq_true rfl) fun p e s m below meth c C hname => ?_
  rw [f_X9_isTray] at h
  exact j_sub [0] rfl (t_X9_isTray_0 C a1 h)
set_option maxRecDepth 100000 in
set_option maxHeartbeats 4000000 in
theorem t_X9_latestStatus_0 {σ : Mem} {χ : Mem} {T : Nat → Mem} (C : Cx p s m args meth c cX9_latestStatus 1 RX9 (some .int) COM g) {rr : Int32} (h : f_X9_latestStatus_0 χ T = some rr) : JJ p l e rm_X9_latestStatus s m args below meth c 1 g ad (MQ below (PoI g ad χ T σ rr) args s 0 0 (geB g)) χ T σ 0 0 [(0, .ref (ad 5 0))] 0 [] := by
  rw [f_X9_latestStatus_0] at h
  refine j_aload_n C 0 rfl rfl dX9_latestStatus_0 ?_
  refine j_getG C in_X9 (by decide) cw_5 rfl 3 (by decide) mw_258 (fun _ h => h) rfl dX9_latestStatus_1 ?_
  obtain rfl := Option.some.inj h
  exact j_iret C rfl rfl (Nat.le_refl _) (Nat.le_refl _) dX9_latestStatus_4
set_option maxRecDepth 100000 in
set_option maxHeartbeats 4000000 in
theorem c_X9_latestStatus {l : Launch} {g : Gc} {ad : Nat → Nat → Nat} {χ : Mem} {T : Nat → Mem} {σ : Mem} {rr : Int32} (h : f_X9_latestStatus χ T = some rr) : Met l yX9_latestStatus (WS yX9_latestStatus cX9_latestStatus 1 (some .int)) rm_X9_latestStatus (PreW g ad χ T σ [.ref (ad 5 0)]) (PoI g ad χ T σ rr) 0 0 (geB g) := by
  refine j_metW (by decide) (Nat.le_of_ble_eq_true rfl) fun p e s m below meth c C hname => ?_
  rw [f_X9_latestStatus] at h
  exact j_sub [0] rfl (t_X9_latestStatus_0 C h)
set_option maxRecDepth 100000 in
set_option maxHeartbeats 4000000 in
theorem t_X9_refuse_0 {σ : Mem} (C : Cx p s m args meth c cX9_refuse 2 RX9 (some .int) COM g) {rr : (Mem × (Nat → Mem)) × Int32} (χ : Mem) (T : Nat → Mem) (a1 : Int32) (h : f_X9_refuse_0 χ T a1 = some rr) : JJ p l e rm_X9_refuse s m args below meth c 2 g ad (MQ below (PoI g ad rr.1.1 rr.1.2 σ rr.2) args s 0 0 (geB g)) χ T σ 0 0 [(0, .ref (ad 5 0)), (1, .int a1)] 0 [] := by
  rw [f_X9_refuse_0] at h
  refine j_aload_n C 0 rfl rfl dX9_refuse_0 ?_
  refine j_iload_n C 1 rfl rfl dX9_refuse_1 ?_
  refine j_putI C in_X9 tyX9_ok nmX9 rfl 3 (by decide) (by decide) (po_Trays_status a1) mw_258 (fun _ h => h) rfl (tyX9_ok 3 (by decide)) (Nat.le_of_ble_eq_true rfl) dX9_refuse_2 ?_
  refine j_iconst (v := -1) C (by decide) dX9_refuse_5 ?_
  obtain rfl := Option.some.inj h
  exact j_iret C rfl rfl (Nat.le_refl _) (Nat.le_refl _) dX9_refuse_6
set_option maxRecDepth 100000 in
set_option maxHeartbeats 4000000 in
theorem c_X9_refuse {l : Launch} {g : Gc} {ad : Nat → Nat → Nat} {χ : Mem} {T : Nat → Mem} {σ : Mem} {a1 : Int32} {rr : (Mem × (Nat → Mem)) × Int32} (h : f_X9_refuse χ T a1 = some rr) : Met l yX9_refuse (WS yX9_refuse cX9_refuse 2 (some .int)) rm_X9_refuse (PreW g ad χ T σ [.ref (ad 5 0), .int a1]) (PoI g ad rr.1.1 rr.1.2 σ rr.2) 0 0 (geB g) := by
  refine j_metW (by decide) (Nat.le_of_ble_eq_true rfl) fun p e s m below meth c C hname => ?_
  rw [f_X9_refuse] at h
  exact j_sub [0, 1] rfl (t_X9_refuse_0 C χ T a1 h)
set_option maxRecDepth 100000 in
set_option maxHeartbeats 4000000 in
theorem t_X0_isMotion_0 {σ : Mem} {χ : Mem} {T : Nat → Mem} (C : Cx p s m args meth c cX0_isMotion 2 RX0 (some .boolean) COM g) {rr : Int32} (a1 : Int32) (h : f_X0_isMotion_0 χ T a1 = some rr) : JJ p l e rm_X0_isMotion s m args below meth c 2 g ad (MQ below (PoI g ad χ T σ rr) args s 0 0 (geB g)) χ T σ 0 0 [(0, .ref (ad 2 0)), (1, .int a1)] 0 [] := by
  rw [f_X0_isMotion_0] at h
  refine j_iload_n C 1 rfl rfl dX0_isMotion_0 ?_
  refine j_if_lt (tgt := 16) C (by decide) dX0_isMotion_1 (fun hc1 => ?_) (fun hc1 => ?_)
  · replace h := (if_pos hc1).symm.trans h
    refine j_iconst (v := 0) C (by decide) dX0_isMotion_16 ?_
    obtain rfl := Option.some.inj h
    exact j_iret C rfl (bo_nar (Or.inl rfl)) (Nat.le_refl _) (Nat.le_refl _) dX0_isMotion_17
  · replace h := (if_neg hc1).symm.trans h
    refine j_iload_n C 1 rfl rfl dX0_isMotion_4 ?_
    refine j_aload_n C 0 rfl rfl dX0_isMotion_5 ?_
    obtain ⟨q2, hq2, h⟩ := bi_some h
    refine j_callVi (As := []) (rest := [.int a1]) C (c_X0_motionCount hq2) (cwV 0 C.ts (good_V mw_766 mw_697 mw_698 mw_68 mw_699) rfl rfl rfl (by decide +kernel) ⟨Nat.le_of_ble_eq_true rfl, Nat.le_of_ble_eq_true rfl⟩) (fun H hW => CW.rv C.k hW (by decide) cw_2 rfl) rfl rfl (Nat.le_of_ble_eq_true rfl) dX0_isMotion_6 ⟨Nat.zero_le _, Nat.zero_le _⟩ ?_
    refine j_icmp_ge (tgt := 16) C (by decide) dX0_isMotion_9 (fun hc3 => ?_) (fun hc3 => ?_)
    · replace h := (if_pos hc3).symm.trans h
      refine j_iconst (v := 0) C (by decide) dX0_isMotion_16 ?_
      obtain rfl := Option.some.inj h
      exact j_iret C rfl (bo_nar (Or.inl rfl)) (Nat.le_refl _) (Nat.le_refl _) dX0_isMotion_17
    · replace h := (if_neg hc3).symm.trans h
      refine j_iconst (v := 1) C (by decide) dX0_isMotion_12 ?_
      refine j_goto (tgt := 17) C (by decide) dX0_isMotion_13 ?_
      obtain rfl := Option.some.inj h
      exact j_iret C rfl (bo_nar (Or.inr rfl)) (Nat.le_refl _) (Nat.le_refl _) dX0_isMotion_17
set_option maxRecDepth 100000 in
set_option maxHeartbeats 4000000 in
theorem c_X0_isMotion {l : Launch} {g : Gc} {ad : Nat → Nat → Nat} {χ : Mem} {T : Nat → Mem} {σ : Mem} {a1 : Int32} {rr : Int32} (h : f_X0_isMotion χ T a1 = some rr) : Met l yX0_isMotion (WS yX0_isMotion cX0_isMotion 2 (some .boolean)) rm_X0_isMotion (PreW g ad χ T σ [.ref (ad 2 0), .int a1]) (PoI g ad χ T σ rr) 0 0 (geB g) := by
  refine j_metW (by decide) (Nat.le_of_ble_eq_true rfl) fun p e s m below meth c C hname => ?_
  rw [f_X0_isMotion] at h
  exact j_sub [0, 1] rfl (t_X0_isMotion_0 C a1 h)
set_option maxRecDepth 100000 in
set_option maxHeartbeats 4000000 in
theorem t_X0_isStress_0 {σ : Mem} {χ : Mem} {T : Nat → Mem} (C : Cx p s m args meth c cX0_isStress 2 RX0 (some .boolean) COM g) {rr : Int32} (a1 : Int32) (h : f_X0_isStress_0 χ T a1 = some rr) : JJ p l e rm_X0_isStress s m args below meth c 2 g ad (MQ below (PoI g ad χ T σ rr) args s 0 0 (geB g)) χ T σ 0 0 [(0, .ref (ad 2 0)), (1, .int a1)] 0 [] := by
  rw [f_X0_isStress_0] at h
  refine j_iload_n C 1 rfl rfl dX0_isStress_0 ?_
  refine j_if_lt (tgt := 16) C (by decide) dX0_isStress_1 (fun hc1 => ?_) (fun hc1 => ?_)
  · replace h := (if_pos hc1).symm.trans h
    refine j_iconst (v := 0) C (by decide) dX0_isStress_16 ?_
    obtain rfl := Option.some.inj h
    exact j_iret C rfl (bo_nar (Or.inl rfl)) (Nat.le_refl _) (Nat.le_refl _) dX0_isStress_17
  · replace h := (if_neg hc1).symm.trans h
    refine j_iload_n C 1 rfl rfl dX0_isStress_4 ?_
    refine j_aload_n C 0 rfl rfl dX0_isStress_5 ?_
    obtain ⟨q2, hq2, h⟩ := bi_some h
    refine j_callVi (As := []) (rest := [.int a1]) C (c_X0_stressCount hq2) (cwV 0 C.ts (good_V mw_724 mw_705 mw_706 mw_68 mw_707) rfl rfl rfl (by decide +kernel) ⟨Nat.le_of_ble_eq_true rfl, Nat.le_of_ble_eq_true rfl⟩) (fun H hW => CW.rv C.k hW (by decide) cw_2 rfl) rfl rfl (Nat.le_of_ble_eq_true rfl) dX0_isStress_6 ⟨Nat.zero_le _, Nat.zero_le _⟩ ?_
    refine j_icmp_ge (tgt := 16) C (by decide) dX0_isStress_9 (fun hc3 => ?_) (fun hc3 => ?_)
    · replace h := (if_pos hc3).symm.trans h
      refine j_iconst (v := 0) C (by decide) dX0_isStress_16 ?_
      obtain rfl := Option.some.inj h
      exact j_iret C rfl (bo_nar (Or.inl rfl)) (Nat.le_refl _) (Nat.le_refl _) dX0_isStress_17
    · replace h := (if_neg hc3).symm.trans h
      refine j_iconst (v := 1) C (by decide) dX0_isStress_12 ?_
      refine j_goto (tgt := 17) C (by decide) dX0_isStress_13 ?_
      obtain rfl := Option.some.inj h
      exact j_iret C rfl (bo_nar (Or.inr rfl)) (Nat.le_refl _) (Nat.le_refl _) dX0_isStress_17
set_option maxRecDepth 100000 in
set_option maxHeartbeats 4000000 in
theorem c_X0_isStress {l : Launch} {g : Gc} {ad : Nat → Nat → Nat} {χ : Mem} {T : Nat → Mem} {σ : Mem} {a1 : Int32} {rr : Int32} (h : f_X0_isStress χ T a1 = some rr) : Met l yX0_isStress (WS yX0_isStress cX0_isStress 2 (some .boolean)) rm_X0_isStress (PreW g ad χ T σ [.ref (ad 2 0), .int a1]) (PoI g ad χ T σ rr) 0 0 (geB g) := by
  refine j_metW (by decide) (Nat.le_of_ble_eq_true rfl) fun p e s m below meth c C hname => ?_
  rw [f_X0_isStress] at h
  exact j_sub [0, 1] rfl (t_X0_isStress_0 C a1 h)
set_option maxRecDepth 100000 in
set_option maxHeartbeats 4000000 in
theorem t_X0_isNeeded_2 {σ : Mem} {χ : Mem} {T : Nat → Mem} (C : Cx p s m args meth c cX0_isNeeded 3 RX0 (some .boolean) COM g) {rr : Int32} : ∀ (n : Nat) (v1 : Nat) (v2 : Int32) (hv1 : v1 < gN χ 8 1) (h : f_X0_isNeeded_2 χ T n v1 v2 = some rr), JJ p l e rm_X0_isNeeded s m args below meth c 3 g ad (MQ below (PoI g ad χ T σ rr) args s 0 0 (geB g)) χ T σ 0 0 [(0, .ref (ad 2 0)), (1, .ref (ad 19 v1)), (2, .int v2)] 2 [] := by
  intro n
  induction n with
  | zero => intro  v1 v2 hv1 h; cases h
  | succ n ih =>
  intro  v1 v2 hv1 h
  rw [f_X0_isNeeded_2] at h
  refine j_iload_n C 2 rfl rfl dX0_isNeeded_2 ?_
  refine j_aload_n C 0 rfl rfl dX0_isNeeded_3 ?_
  obtain ⟨q1, hq1, h⟩ := bi_some h
  refine j_callVi (As := []) (rest := [.int v2]) C (c_X0_stressCount hq1) (cwV 0 C.ts (good_V mw_724 mw_705 mw_706 mw_68 mw_707) rfl rfl rfl (by decide +kernel) ⟨Nat.le_of_ble_eq_true rfl, Nat.le_of_ble_eq_true rfl⟩) (fun H hW => CW.rv C.k hW (by decide) cw_2 rfl) rfl rfl (Nat.le_of_ble_eq_true rfl) dX0_isNeeded_4 ⟨Nat.zero_le _, Nat.zero_le _⟩ ?_
  refine j_icmp_ge (tgt := 29) C (by decide) dX0_isNeeded_7 (fun hc2 => ?_) (fun hc2 => ?_)
  · replace h := (if_pos hc2).symm.trans h
    refine j_aload_n C 1 rfl rfl dX0_isNeeded_29 ?_
    refine j_getG C in_X5 (by decide) (cw_19 (χ := χ) hv1) rfl 5 (by decide) mw_664 (fun _ h => h) rfl dX0_isNeeded_30 ?_
    obtain ⟨hg3, h⟩ := gd_some h
    obtain rfl := Option.some.inj h
    exact j_iret C rfl (bo_nar hg3) (Nat.le_refl _) (Nat.le_refl _) dX0_isNeeded_33
  · replace h := (if_neg hc2).symm.trans h
    refine j_aload_n C 0 rfl rfl dX0_isNeeded_10 ?_
    refine j_iload_n C 2 rfl rfl dX0_isNeeded_11 ?_
    refine j_aload_n C 1 rfl rfl dX0_isNeeded_12 ?_
    obtain ⟨q4, hq4, h⟩ := bi_some h
    refine j_callVl (As := [.int v2, .ref (ad 19 v1)]) (rest := []) C (c_X0_stressNumber hv1 hq4) (cwV 2 C.ts (good_V mw_725 mw_726 mw_727 mw_68 mw_728) rfl rfl rfl (by decide +kernel) ⟨Nat.le_of_ble_eq_true rfl, Nat.le_of_ble_eq_true rfl⟩) (fun H hW => CW.rv C.k hW (by decide) cw_2 rfl) rfl rfl (Nat.le_of_ble_eq_true rfl) dX0_isNeeded_13 ⟨Nat.zero_le _, Nat.zero_le _⟩ ?_
    refine j_lconst (v := 0) C (by decide) dX0_isNeeded_16 ?_
    refine j_lcmp_eq (tgt := 23) C dX0_isNeeded_18 (by decide) dX0_isNeeded_17 (fun hc5 => ?_) (fun hc5 => ?_)
    · replace h := (if_pos hc5).symm.trans h
      refine j_iinc (v := v2 + (1 : Int32)) (L' := [(2, .int (v2 + (1 : Int32))), (0, .ref (ad 2 0)), (1, .ref (ad 19 v1))]) C 2 rfl rfl (by decide) rfl dX0_isNeeded_23 ?_
      refine j_goto (tgt := 2) C (by decide) dX0_isNeeded_26 ?_
      exact j_sub [1, 2, 0] rfl (ih v1 (v2 + (1 : Int32)) hv1 h)
    · replace h := (if_neg hc5).symm.trans h
      refine j_iconst (v := 0) C (by decide) dX0_isNeeded_21 ?_
      obtain rfl := Option.some.inj h
      exact j_iret C rfl (bo_nar (Or.inl rfl)) (Nat.le_refl _) (Nat.le_refl _) dX0_isNeeded_22
set_option maxRecDepth 100000 in
set_option maxHeartbeats 4000000 in
theorem t_X0_isNeeded_0 {σ : Mem} {χ : Mem} {T : Nat → Mem} (C : Cx p s m args meth c cX0_isNeeded 3 RX0 (some .boolean) COM g) {rr : Int32} (a1 : Nat) (ha1 : a1 < gN χ 8 1) (h : f_X0_isNeeded_0 χ T a1 = some rr) : JJ p l e rm_X0_isNeeded s m args below meth c 3 g ad (MQ below (PoI g ad χ T σ rr) args s 0 0 (geB g)) χ T σ 0 0 [(0, .ref (ad 2 0)), (1, .ref (ad 19 a1))] 0 [] := by
  rw [f_X0_isNeeded_0] at h
  refine j_iconst (v := 0) C (by decide) dX0_isNeeded_0 ?_
  refine j_istore_n (L' := [(2, .int (0 : Int32)), (0, .ref (ad 2 0)), (1, .ref (ad 19 a1))]) C rfl (by decide) rfl dX0_isNeeded_1 ?_
  exact j_sub [1, 2, 0] rfl (t_X0_isNeeded_2 C FU a1 (0 : Int32) ha1 h)
set_option maxRecDepth 100000 in
set_option maxHeartbeats 4000000 in
theorem c_X0_isNeeded {l : Launch} {g : Gc} {ad : Nat → Nat → Nat} {χ : Mem} {T : Nat → Mem} {σ : Mem} {a1 : Nat} (ha1 : a1 < gN χ 8 1) {rr : Int32} (h : f_X0_isNeeded χ T a1 = some rr) : Met l yX0_isNeeded (WS yX0_isNeeded cX0_isNeeded 3 (some .boolean)) rm_X0_isNeeded (PreW g ad χ T σ [.ref (ad 2 0), .ref (ad 19 a1)]) (PoI g ad χ T σ rr) 0 0 (geB g) := by
  refine j_metW (by decide) (Nat.le_of_ble_eq_true rfl) fun p e s m below meth c C hname => ?_
  rw [f_X0_isNeeded] at h
  exact j_sub [0, 1] rfl (t_X0_isNeeded_0 C a1 ha1 h)
set_option maxRecDepth 100000 in
set_option maxHeartbeats 4000000 in
theorem t_X1_isBody_0 {T : Nat → Mem} {σ : Mem} {χ : Mem} (C : Cx p s m args meth c cX1_isBody 2 RX1 (some .boolean) COM g) {rr : Int32} (a1 : Int32) (h : f_X1_isBody_0 χ a1 = some rr) : JJ p l e rm_X1_isBody s m args below meth c 2 g ad (MQ below (PoI g ad χ T σ rr) args s 0 0 (geB g)) χ T σ 0 0 [(0, .ref (ad 4 0)), (1, .int a1)] 0 [] := by
  rw [f_X1_isBody_0] at h
  refine j_iload_n C 1 rfl rfl dX1_isBody_0 ?_
  refine j_if_lt (tgt := 16) C (by decide) dX1_isBody_1 (fun hc1 => ?_) (fun hc1 => ?_)
  · replace h := (if_pos hc1).symm.trans h
    refine j_iconst (v := 0) C (by decide) dX1_isBody_16 ?_
    obtain rfl := Option.some.inj h
    exact j_iret C rfl (bo_nar (Or.inl rfl)) (Nat.le_refl _) (Nat.le_refl _) dX1_isBody_17
  · replace h := (if_neg hc1).symm.trans h
    refine j_iload_n C 1 rfl rfl dX1_isBody_4 ?_
    refine j_aload_n C 0 rfl rfl dX1_isBody_5 ?_
    obtain ⟨q2, hq2, h⟩ := bi_some h
    refine j_callVi (As := []) (rest := [.int a1]) C (c_X1_bodyCount hq2) (cwV 0 C.ts (good_V mw_861 mw_709 mw_710 mw_71 mw_711) rfl rfl rfl (by decide +kernel) ⟨Nat.le_of_ble_eq_true rfl, Nat.le_of_ble_eq_true rfl⟩) (fun H hW => CW.rv C.k hW (by decide) cw_4 rfl) rfl rfl (Nat.le_of_ble_eq_true rfl) dX1_isBody_6 ⟨Nat.zero_le _, Nat.zero_le _⟩ ?_
    refine j_icmp_ge (tgt := 16) C (by decide) dX1_isBody_9 (fun hc3 => ?_) (fun hc3 => ?_)
    · replace h := (if_pos hc3).symm.trans h
      refine j_iconst (v := 0) C (by decide) dX1_isBody_16 ?_
      obtain rfl := Option.some.inj h
      exact j_iret C rfl (bo_nar (Or.inl rfl)) (Nat.le_refl _) (Nat.le_refl _) dX1_isBody_17
    · replace h := (if_neg hc3).symm.trans h
      refine j_iconst (v := 1) C (by decide) dX1_isBody_12 ?_
      refine j_goto (tgt := 17) C (by decide) dX1_isBody_13 ?_
      obtain rfl := Option.some.inj h
      exact j_iret C rfl (bo_nar (Or.inr rfl)) (Nat.le_refl _) (Nat.le_refl _) dX1_isBody_17
set_option maxRecDepth 100000 in
set_option maxHeartbeats 4000000 in
theorem c_X1_isBody {l : Launch} {g : Gc} {ad : Nat → Nat → Nat} {χ : Mem} {T : Nat → Mem} {σ : Mem} {a1 : Int32} {rr : Int32} (h : f_X1_isBody χ a1 = some rr) : Met l yX1_isBody (WS yX1_isBody cX1_isBody 2 (some .boolean)) rm_X1_isBody (PreW g ad χ T σ [.ref (ad 4 0), .int a1]) (PoI g ad χ T σ rr) 0 0 (geB g) := by
  refine j_metW (by decide) (Nat.le_of_ble_eq_true rfl) fun p e s m below meth c C hname => ?_
  rw [f_X1_isBody] at h
  exact j_sub [0, 1] rfl (t_X1_isBody_0 C a1 h)
set_option maxRecDepth 100000 in
set_option maxHeartbeats 4000000 in
theorem t_X1_areAllOne_0 {T : Nat → Mem} {σ : Mem} {χ : Mem} (C : Cx p s m args meth c cX1_areAllOne 2 RX1 (some .boolean) COM g) {rr : Int32} (h : f_X1_areAllOne_0 χ = some rr) : JJ p l e rm_X1_areAllOne s m args below meth c 2 g ad (MQ below (PoI g ad χ T σ rr) args s 0 0 (geB g)) χ T σ 0 0 [(0, .ref (ad 4 0))] 0 [] := by
  rw [f_X1_areAllOne_0] at h
  refine j_aload_n C 0 rfl rfl dX1_areAllOne_0 ?_
  refine j_getG C in_X1 (by decide) cw_4 rfl 0 (by decide) mw_231 (fun _ h => h) rfl dX1_areAllOne_1 ?_
  refine j_getG C in_X2 (by decide) cw_1 rfl 0 (by decide) mw_126 (fun _ h => h) rfl dX1_areAllOne_4 ?_
  refine j_lsize C (by decide) mw_573 ⟨Nat.le_of_ble_eq_true rfl, Nat.le_of_ble_eq_true rfl⟩ (Nat.le_of_ble_eq_true rfl) dX1_areAllOne_7 ⟨Nat.zero_le _, Nat.zero_le _⟩ ?_
  refine j_istore_n (L' := [(1, .int (gI χ 14 0)), (0, .ref (ad 4 0))]) C rfl (by decide) rfl dX1_areAllOne_12 ?_
  refine j_iload_n C 0 rfl rfl dX1_areAllOne_13 ?_
  refine j_iconst (v := 2) C (by decide) dX1_areAllOne_14 ?_
  refine j_icmp_lt (tgt := 33) C (by decide) dX1_areAllOne_15 (fun hc1 => ?_) (fun hc1 => ?_)
  · replace h := (if_pos hc1).symm.trans h
    refine j_iconst (v := 0) C (by decide) dX1_areAllOne_33 ?_
    obtain rfl := Option.some.inj h
    exact j_iret C rfl (bo_nar (Or.inl rfl)) (Nat.le_refl _) (Nat.le_refl _) dX1_areAllOne_34
  · replace h := (if_neg hc1).symm.trans h
    refine j_aload_n C 1 rfl rfl dX1_areAllOne_18 ?_
    refine j_getG C in_X1 (by decide) cw_4 rfl 4 (by decide) mw_235 (fun _ h => h) rfl dX1_areAllOne_19 ?_
    refine j_iload_n C 0 rfl rfl dX1_areAllOne_22 ?_
    obtain ⟨q2, hq2, h⟩ := bi_some h
    refine j_callSi (As := [.int (gI χ 14 0)]) (rest := [.int (gI χ 11 0)]) C (c_X1_mostRods hq2) (va_cwS 1 C.ts (good_S mw_600 mw_601 mw_71 mw_602) rfl rfl rfl (by decide +kernel) ⟨Nat.le_of_ble_eq_true rfl, Nat.le_of_ble_eq_true rfl⟩) rfl rfl (Nat.le_of_ble_eq_true rfl) dX1_areAllOne_23 ⟨Nat.zero_le _, Nat.zero_le _⟩ ?_
    refine j_icmp_ne (tgt := 33) C (by decide) dX1_areAllOne_26 (fun hc3 => ?_) (fun hc3 => ?_)
    · replace h := (if_neg hc3).symm.trans h
      refine j_iconst (v := 0) C (by decide) dX1_areAllOne_33 ?_
      obtain rfl := Option.some.inj h
      exact j_iret C rfl (bo_nar (Or.inl rfl)) (Nat.le_refl _) (Nat.le_refl _) dX1_areAllOne_34
    · replace h := (if_pos hc3).symm.trans h
      refine j_iconst (v := 1) C (by decide) dX1_areAllOne_29 ?_
      refine j_goto (tgt := 34) C (by decide) dX1_areAllOne_30 ?_
      obtain rfl := Option.some.inj h
      exact j_iret C rfl (bo_nar (Or.inr rfl)) (Nat.le_refl _) (Nat.le_refl _) dX1_areAllOne_34
set_option maxRecDepth 100000 in
set_option maxHeartbeats 4000000 in
theorem c_X1_areAllOne {l : Launch} {g : Gc} {ad : Nat → Nat → Nat} {χ : Mem} {T : Nat → Mem} {σ : Mem} {rr : Int32} (h : f_X1_areAllOne χ = some rr) : Met l yX1_areAllOne (WS yX1_areAllOne cX1_areAllOne 2 (some .boolean)) rm_X1_areAllOne (PreW g ad χ T σ [.ref (ad 4 0)]) (PoI g ad χ T σ rr) 0 0 (geB g) := by
  refine j_metW (by decide) (Nat.le_of_ble_eq_true rfl) fun p e s m below meth c C hname => ?_
  rw [f_X1_areAllOne] at h
  exact j_sub [0] rfl (t_X1_areAllOne_0 C h)
set_option maxRecDepth 100000 in
set_option maxHeartbeats 4000000 in
theorem t_X10_could_0 {σ : Mem} {χ : Mem} {T : Nat → Mem} (C : Cx p s m args meth c cX10_could 1 RX10 (some .int) COM g) {rr : Int32} (h : f_X10_could_0 χ T = some rr) : JJ p l e rm_X10_could s m args below meth c 1 g ad (MQ below (PoI g ad χ T σ rr) args s 0 0 (geB g)) χ T σ 0 0 [(0, .ref (ad 0 0))] 0 [] := by
  rw [f_X10_could_0] at h
  refine j_aload_n C 0 rfl rfl dX10_could_0 ?_
  refine j_getG C in_X10 (by decide) cw_0 rfl 3 (by decide) mw_271 (fun _ h => h) rfl dX10_could_1 ?_
  obtain ⟨q1, hq1, h⟩ := bi_some h
  refine j_callVi (As := []) (rest := []) C (c_X1_areAllOne hq1) (cwV 0 C.ts (good_V mw_849 mw_850 mw_851 mw_71 mw_852) rfl rfl rfl (by decide +kernel) ⟨Nat.le_of_ble_eq_true rfl, Nat.le_of_ble_eq_true rfl⟩) (fun H hW => CW.rv C.k hW (by decide) cw_4 rfl) rfl rfl (Nat.le_of_ble_eq_true rfl) dX10_could_4 ⟨Nat.zero_le _, Nat.zero_le _⟩ ?_
  refine j_if_eq (tgt := 14) C (by decide) dX10_could_7 (fun hc2 => ?_) (fun hc2 => ?_)
  · replace h := (if_pos hc2).symm.trans h
    refine j_iconst (v := 0) C (by decide) dX10_could_14 ?_
    obtain rfl := Option.some.inj h
    exact j_iret C rfl rfl (Nat.le_refl _) (Nat.le_refl _) dX10_could_15
  · replace h := (if_neg hc2).symm.trans h
    refine j_iconst (v := 1) C (by decide) dX10_could_10 ?_
    refine j_goto (tgt := 15) C (by decide) dX10_could_11 ?_
    obtain rfl := Option.some.inj h
    exact j_iret C rfl rfl (Nat.le_refl _) (Nat.le_refl _) dX10_could_15
set_option maxRecDepth 100000 in
set_option maxHeartbeats 4000000 in
theorem c_X10_could {l : Launch} {g : Gc} {ad : Nat → Nat → Nat} {χ : Mem} {T : Nat → Mem} {σ : Mem} {rr : Int32} (h : f_X10_could χ T = some rr) : Met l yX10_could (WS yX10_could cX10_could 1 (some .int)) rm_X10_could (PreW g ad χ T σ [.ref (ad 0 0)]) (PoI g ad χ T σ rr) 0 0 (geB g) := by
  refine j_metW (by decide) (Nat.le_of_ble_eq_true rfl) fun p e s m below meth c C hname => ?_
  rw [f_X10_could] at h
  exact j_sub [0] rfl (t_X10_could_0 C h)
set_option maxRecDepth 100000 in
set_option maxHeartbeats 4000000 in
theorem t_X10_motion_0 {σ : Mem} {χ : Mem} {T : Nat → Mem} (C : Cx p s m args meth c cX10_motion 4 RX10 (some .long) COM g) {rr : Int64} (a1 : Int32) (a2 : Int32) (a3 : Int32) (h : f_X10_motion_0 χ T a1 a2 a3 = some rr) : JJ p l e rm_X10_motion s m args below meth c 4 g ad (MQ below (PoL g ad χ T σ rr) args s 0 0 (geB g)) χ T σ 0 0 [(0, .ref (ad 0 0)), (1, .int a1), (2, .int a2), (3, .int a3)] 0 [] := by
  rw [f_X10_motion_0] at h
  refine j_aload_n C 0 rfl rfl dX10_motion_0 ?_
  refine j_getG C in_X10 (by decide) cw_0 rfl 0 (by decide) mw_268 (fun _ h => h) rfl dX10_motion_1 ?_
  refine j_iload_n C 2 rfl rfl dX10_motion_4 ?_
  obtain ⟨q1, hq1, h⟩ := bi_some h
  refine j_callVi (As := [.int a2]) (rest := []) C (c_X2_isPin hq1) (cwV 1 C.ts (good_V mw_615 mw_616 mw_617 mw_64 mw_618) rfl rfl rfl (by decide +kernel) ⟨Nat.le_of_ble_eq_true rfl, Nat.le_of_ble_eq_true rfl⟩) (fun H hW => CW.rv C.k hW (by decide) cw_1 rfl) rfl rfl (Nat.le_of_ble_eq_true rfl) dX10_motion_5 ⟨Nat.zero_le _, Nat.zero_le _⟩ ?_
  refine j_if_eq (tgt := 31) C (by decide) dX10_motion_8 (fun hc2 => ?_) (fun hc2 => ?_)
  · replace h := (if_pos hc2).symm.trans h
    refine j_ldc2 (v := -4611686018427387904) C mw_767 dX10_motion_31 ?_
    obtain rfl := Option.some.inj h
    exact j_lret C rfl (Nat.le_refl _) (Nat.le_refl _) dX10_motion_34
  · replace h := (if_neg hc2).symm.trans h
    refine j_iload_n C 3 rfl rfl dX10_motion_11 ?_
    refine j_if_lt (tgt := 31) C (by decide) dX10_motion_12 (fun hc3 => ?_) (fun hc3 => ?_)
    · replace h := (if_pos hc3).symm.trans h
      refine j_ldc2 (v := -4611686018427387904) C mw_767 dX10_motion_31 ?_
      obtain rfl := Option.some.inj h
      exact j_lret C rfl (Nat.le_refl _) (Nat.le_refl _) dX10_motion_34
    · replace h := (if_neg hc3).symm.trans h
      refine j_iload_n C 3 rfl rfl dX10_motion_15 ?_
      refine j_iconst (v := 1) C (by decide) dX10_motion_16 ?_
      refine j_icmp_gt (tgt := 31) C (by decide) dX10_motion_17 (fun hc4 => ?_) (fun hc4 => ?_)
      · replace h := (if_pos hc4).symm.trans h
        refine j_ldc2 (v := -4611686018427387904) C mw_767 dX10_motion_31 ?_
        obtain rfl := Option.some.inj h
        exact j_lret C rfl (Nat.le_refl _) (Nat.le_refl _) dX10_motion_34
      · replace h := (if_neg hc4).symm.trans h
        refine j_aload_n C 0 rfl rfl dX10_motion_20 ?_
        refine j_getG C in_X10 (by decide) cw_0 rfl 1 (by decide) mw_269 (fun _ h => h) rfl dX10_motion_21 ?_
        refine j_iload_n C 1 rfl rfl dX10_motion_24 ?_
        obtain ⟨q5, hq5, h⟩ := bi_some h
        refine j_callVi (As := [.int a1]) (rest := []) C (c_X0_isMotion hq5) (cwV 1 C.ts (good_V mw_762 mw_763 mw_764 mw_68 mw_765) rfl rfl rfl (by decide +kernel) ⟨Nat.le_of_ble_eq_true rfl, Nat.le_of_ble_eq_true rfl⟩) (fun H hW => CW.rv C.k hW (by decide) cw_2 rfl) rfl rfl (Nat.le_of_ble_eq_true rfl) dX10_motion_25 ⟨Nat.zero_le _, Nat.zero_le _⟩ ?_
        refine j_if_ne (tgt := 35) C (by decide) dX10_motion_28 (fun hc6 => ?_) (fun hc6 => ?_)
        · replace h := (if_neg hc6).symm.trans h
          refine j_aload_n C 0 rfl rfl dX10_motion_35 ?_
          refine j_getG C in_X10 (by decide) cw_0 rfl 1 (by decide) mw_269 (fun _ h => h) rfl dX10_motion_36 ?_
          refine j_iload_n C 1 rfl rfl dX10_motion_39 ?_
          refine j_aload_n C 0 rfl rfl dX10_motion_40 ?_
          refine j_getG C in_X10 (by decide) cw_0 rfl 0 (by decide) mw_268 (fun _ h => h) rfl dX10_motion_41 ?_
          refine j_getG C in_X2 (by decide) cw_1 rfl 0 (by decide) mw_125 (fun _ h => h) rfl dX10_motion_44 ?_
          refine j_iload_n C 2 rfl rfl dX10_motion_47 ?_
          obtain ⟨hg7, h⟩ := gd_some h
          refine j_wt (fun wt8 => ?_)
          refine j_lgetK (ek := 18) C (by decide) (by decide) hg7 mw_620 ⟨Nat.le_of_ble_eq_true rfl, Nat.le_of_ble_eq_true rfl⟩ (Nat.le_of_ble_eq_true rfl) dX10_motion_48 ⟨Nat.zero_le _, Nat.zero_le _⟩ ?_
          refine j_castS (q := (RX4, TX4, 6)) C mw_327 (by decide) (cw_18 (χ := χ) (wt_18 wt8 (by decide) (by decide) hg7)) rfl dX10_motion_53 ?_
          refine j_iload_n C 3 rfl rfl dX10_motion_56 ?_
          obtain ⟨q9, hq9, h⟩ := bi_some h
          refine j_callVl (As := [.int a1, .ref (ad 18 (gN χ 0 a2.toNatClampNeg)), .int a3]) (rest := []) C (c_X0_motionNumber (wt_18 wt8 (by decide) (by decide) hg7) hq9) (cwV 3 C.ts (good_V mw_768 mw_769 mw_770 mw_68 mw_771) rfl rfl rfl (by decide +kernel) ⟨Nat.le_of_ble_eq_true rfl, Nat.le_of_ble_eq_true rfl⟩) (fun H hW => CW.rv C.k hW (by decide) cw_2 rfl) rfl rfl (Nat.le_of_ble_eq_true rfl) dX10_motion_57 ⟨Nat.zero_le _, Nat.zero_le _⟩ ?_
          obtain rfl := Option.some.inj h
          exact j_lret C rfl (Nat.le_refl _) (Nat.le_refl _) dX10_motion_60
        · replace h := (if_pos hc6).symm.trans h
          refine j_ldc2 (v := -4611686018427387904) C mw_767 dX10_motion_31 ?_
          obtain rfl := Option.some.inj h
          exact j_lret C rfl (Nat.le_refl _) (Nat.le_refl _) dX10_motion_34
set_option maxRecDepth 100000 in
set_option maxHeartbeats 4000000 in
theorem c_X10_motion {l : Launch} {g : Gc} {ad : Nat → Nat → Nat} {χ : Mem} {T : Nat → Mem} {σ : Mem} {a1 : Int32} {a2 : Int32} {a3 : Int32} {rr : Int64} (h : f_X10_motion χ T a1 a2 a3 = some rr) : Met l yX10_motion (WS yX10_motion cX10_motion 4 (some .long)) rm_X10_motion (PreW g ad χ T σ [.ref (ad 0 0), .int a1, .int a2, .int a3]) (PoL g ad χ T σ rr) 0 0 (geB g) := by
  refine j_metW (by decide) (Nat.le_of_ble_eq_true rfl) fun p e s m below meth c C hname => ?_
  rw [f_X10_motion] at h
  exact j_sub [0, 1, 2, 3] rfl (t_X10_motion_0 C a1 a2 a3 h)
set_option maxRecDepth 100000 in
set_option maxHeartbeats 4000000 in
theorem t_X10_neededCount_4 {σ : Mem} {χ : Mem} {T : Nat → Mem} (C : Cx p s m args meth c cX10_neededCount 3 RX10 (some .int) COM g) {rr : Int32} : ∀ (n : Nat) (v1 : Int32) (v2 : Int32) (h : f_X10_neededCount_4 χ T n v1 v2 = some rr), JJ p l e rm_X10_neededCount s m args below meth c 3 g ad (MQ below (PoI g ad χ T σ rr) args s 0 0 (geB g)) χ T σ 0 0 [(0, .ref (ad 0 0)), (1, .int v1), (2, .int v2)] 4 [] := by
  intro n
  induction n with
  | zero => intro  v1 v2  h; cases h
  | succ n ih =>
  intro  v1 v2  h
  rw [f_X10_neededCount_4] at h
  refine j_iload_n C 2 rfl rfl dX10_neededCount_4 ?_
  refine j_aload_n C 0 rfl rfl dX10_neededCount_5 ?_
  refine j_getG C in_X10 (by decide) cw_0 rfl 0 (by decide) mw_268 (fun _ h => h) rfl dX10_neededCount_6 ?_
  refine j_getG C in_X2 (by decide) cw_1 rfl 3 (by decide) mw_139 (fun _ h => h) rfl dX10_neededCount_9 ?_
  refine j_lsize C (by decide) mw_326 ⟨Nat.le_of_ble_eq_true rfl, Nat.le_of_ble_eq_true rfl⟩ (Nat.le_of_ble_eq_true rfl) dX10_neededCount_12 ⟨Nat.zero_le _, Nat.zero_le _⟩ ?_
  refine j_icmp_ge (tgt := 55) C (by decide) dX10_neededCount_17 (fun hc1 => ?_) (fun hc1 => ?_)
  · replace h := (if_pos hc1).symm.trans h
    refine j_iload_n C 1 rfl rfl dX10_neededCount_55 ?_
    obtain rfl := Option.some.inj h
    exact j_iret C rfl rfl (Nat.le_refl _) (Nat.le_refl _) dX10_neededCount_56
  · replace h := (if_neg hc1).symm.trans h
    refine j_aload_n C 0 rfl rfl dX10_neededCount_20 ?_
    refine j_getG C in_X10 (by decide) cw_0 rfl 1 (by decide) mw_269 (fun _ h => h) rfl dX10_neededCount_21 ?_
    refine j_aload_n C 0 rfl rfl dX10_neededCount_24 ?_
    refine j_getG C in_X10 (by decide) cw_0 rfl 0 (by decide) mw_268 (fun _ h => h) rfl dX10_neededCount_25 ?_
    refine j_getG C in_X2 (by decide) cw_1 rfl 3 (by decide) mw_139 (fun _ h => h) rfl dX10_neededCount_28 ?_
    refine j_iload_n C 2 rfl rfl dX10_neededCount_31 ?_
    obtain ⟨hg2, h⟩ := gd_some h
    refine j_wt (fun wt3 => ?_)
    refine j_lgetK (ek := 19) C (by decide) (by decide) hg2 mw_620 ⟨Nat.le_of_ble_eq_true rfl, Nat.le_of_ble_eq_true rfl⟩ (Nat.le_of_ble_eq_true rfl) dX10_neededCount_32 ⟨Nat.zero_le _, Nat.zero_le _⟩ ?_
    refine j_castS (q := (RX5, TX5, 6)) C mw_640 (by decide) (cw_19 (χ := χ) (wt_19 wt3 (by decide) (by decide) hg2)) rfl dX10_neededCount_37 ?_
    obtain ⟨q4, hq4, h⟩ := bi_some h
    refine j_callVi (As := [.ref (ad 19 (gN χ 3 v2.toNatClampNeg))]) (rest := []) C (c_X0_isNeeded (wt_19 wt3 (by decide) (by decide) hg2) hq4) (cwV 1 C.ts (good_V mw_720 mw_721 mw_722 mw_68 mw_723) rfl rfl rfl (by decide +kernel) ⟨Nat.le_of_ble_eq_true rfl, Nat.le_of_ble_eq_true rfl⟩) (fun H hW => CW.rv C.k hW (by decide) cw_2 rfl) rfl rfl (Nat.le_of_ble_eq_true rfl) dX10_neededCount_40 ⟨Nat.zero_le _, Nat.zero_le _⟩ ?_
    refine j_if_eq (tgt := 49) C (by decide) dX10_neededCount_43 (fun hc5 => ?_) (fun hc5 => ?_)
    · replace h := (if_pos hc5).symm.trans h
      refine j_iinc (v := v2 + (1 : Int32)) (L' := [(2, .int (v2 + (1 : Int32))), (0, .ref (ad 0 0)), (1, .int v1)]) C 2 rfl rfl (by decide) rfl dX10_neededCount_49 ?_
      refine j_goto (tgt := 4) C (by decide) dX10_neededCount_52 ?_
      exact j_sub [1, 2, 0] rfl (ih v1 (v2 + (1 : Int32)) h)
    · replace h := (if_neg hc5).symm.trans h
      refine j_iinc (v := v1 + (1 : Int32)) (L' := [(1, .int (v1 + (1 : Int32))), (0, .ref (ad 0 0)), (2, .int v2)]) C 1 rfl rfl (by decide) rfl dX10_neededCount_46 ?_
      refine j_iinc (v := v2 + (1 : Int32)) (L' := [(2, .int (v2 + (1 : Int32))), (1, .int (v1 + (1 : Int32))), (0, .ref (ad 0 0))]) C 2 rfl rfl (by decide) rfl dX10_neededCount_49 ?_
      refine j_goto (tgt := 4) C (by decide) dX10_neededCount_52 ?_
      exact j_sub [2, 1, 0] rfl (ih (v1 + (1 : Int32)) (v2 + (1 : Int32)) h)
set_option maxRecDepth 100000 in
set_option maxHeartbeats 4000000 in
theorem t_X10_neededCount_0 {σ : Mem} {χ : Mem} {T : Nat → Mem} (C : Cx p s m args meth c cX10_neededCount 3 RX10 (some .int) COM g) {rr : Int32} (h : f_X10_neededCount_0 χ T = some rr) : JJ p l e rm_X10_neededCount s m args below meth c 3 g ad (MQ below (PoI g ad χ T σ rr) args s 0 0 (geB g)) χ T σ 0 0 [(0, .ref (ad 0 0))] 0 [] := by
  rw [f_X10_neededCount_0] at h
  refine j_iconst (v := 0) C (by decide) dX10_neededCount_0 ?_
  refine j_istore_n (L' := [(1, .int (0 : Int32)), (0, .ref (ad 0 0))]) C rfl (by decide) rfl dX10_neededCount_1 ?_
  refine j_iconst (v := 0) C (by decide) dX10_neededCount_2 ?_
  refine j_istore_n (L' := [(2, .int (0 : Int32)), (1, .int (0 : Int32)), (0, .ref (ad 0 0))]) C rfl (by decide) rfl dX10_neededCount_3 ?_
  exact j_sub [2, 1, 0] rfl (t_X10_neededCount_4 C FU (0 : Int32) (0 : Int32) h)
set_option maxRecDepth 100000 in
set_option maxHeartbeats 4000000 in
theorem c_X10_neededCount {l : Launch} {g : Gc} {ad : Nat → Nat → Nat} {χ : Mem} {T : Nat → Mem} {σ : Mem} {rr : Int32} (h : f_X10_neededCount χ T = some rr) : Met l yX10_neededCount (WS yX10_neededCount cX10_neededCount 3 (some .int)) rm_X10_neededCount (PreW g ad χ T σ [.ref (ad 0 0)]) (PoI g ad χ T σ rr) 0 0 (geB g) := by
  refine j_metW (by decide) (Nat.le_of_ble_eq_true rfl) fun p e s m below meth c C hname => ?_
  rw [f_X10_neededCount] at h
  exact j_sub [0] rfl (t_X10_neededCount_0 C h)
set_option maxRecDepth 100000 in
set_option maxHeartbeats 4000000 in
theorem t_X10_rodTold_0 {σ : Mem} {χ : Mem} {T : Nat → Mem} (C : Cx p s m args meth c cX10_rodTold 4 RX10 (some .int) COM g) {rr : Int32} (a1 : Int32) (a2 : Int32) (h : f_X10_rodTold_0 χ T a1 a2 = some rr) : JJ p l e rm_X10_rodTold s m args below meth c 4 g ad (MQ below (PoI g ad χ T σ rr) args s 0 0 (geB g)) χ T σ 0 0 [(0, .ref (ad 0 0)), (1, .int a1), (2, .int a2)] 0 [] := by
  rw [f_X10_rodTold_0] at h
  refine j_aload_n C 0 rfl rfl dX10_rodTold_0 ?_
  refine j_getG C in_X10 (by decide) cw_0 rfl 0 (by decide) mw_268 (fun _ h => h) rfl dX10_rodTold_1 ?_
  refine j_iload_n C 1 rfl rfl dX10_rodTold_4 ?_
  obtain ⟨q1, hq1, h⟩ := bi_some h
  refine j_callVi (As := [.int a1]) (rest := []) C (c_X2_isRod hq1) (cwV 1 C.ts (good_V mw_684 mw_685 mw_686 mw_64 mw_687) rfl rfl rfl (by decide +kernel) ⟨Nat.le_of_ble_eq_true rfl, Nat.le_of_ble_eq_true rfl⟩) (fun H hW => CW.rv C.k hW (by decide) cw_1 rfl) rfl rfl (Nat.le_of_ble_eq_true rfl) dX10_rodTold_5 ⟨Nat.zero_le _, Nat.zero_le _⟩ ?_
  refine j_if_ne (tgt := 14) C (by decide) dX10_rodTold_8 (fun hc2 => ?_) (fun hc2 => ?_)
  · replace h := (if_neg hc2).symm.trans h
    refine j_aload_n C 0 rfl rfl dX10_rodTold_14 ?_
    refine j_getG C in_X10 (by decide) cw_0 rfl 0 (by decide) mw_268 (fun _ h => h) rfl dX10_rodTold_15 ?_
    refine j_getG C in_X2 (by decide) cw_1 rfl 1 (by decide) mw_129 (fun _ h => h) rfl dX10_rodTold_18 ?_
    refine j_iload_n C 1 rfl rfl dX10_rodTold_21 ?_
    obtain ⟨hg3, h⟩ := gd_some h
    refine j_wt (fun wt4 => ?_)
    refine j_lgetK (ek := 19) C (by decide) (by decide) hg3 mw_620 ⟨Nat.le_of_ble_eq_true rfl, Nat.le_of_ble_eq_true rfl⟩ (Nat.le_of_ble_eq_true rfl) dX10_rodTold_22 ⟨Nat.zero_le _, Nat.zero_le _⟩ ?_
    refine j_castS (q := (RX5, TX5, 6)) C mw_640 (by decide) (cw_19 (χ := χ) (wt_19 wt4 (by decide) (by decide) hg3)) rfl dX10_rodTold_27 ?_
    refine j_astore_n (L' := [(3, .ref (ad 19 (gN χ 1 a1.toNatClampNeg))), (0, .ref (ad 0 0)), (1, .int a1), (2, .int a2)]) C rfl (by decide) rfl dX10_rodTold_30 ?_
    refine j_iload_n C 3 rfl rfl dX10_rodTold_31 ?_
    by_cases hs5 : a2.toInt < 0 ∨ 6 < a2.toInt
    · replace h := (if_pos hs5).symm.trans h
      refine j_tableOut (tgt := 141) C hs5 (by decide) dX10_rodTold_32 ?_
      refine j_bipush (v := -2) C (by decide) dX10_rodTold_141 ?_
      obtain rfl := Option.some.inj h
      exact j_iret C rfl rfl (Nat.le_refl _) (Nat.le_refl _) dX10_rodTold_143
    · replace h := (if_neg hs5).symm.trans h
      by_cases hx6 : a2 = (0 : Int32)
      · replace h := (if_pos hx6).symm.trans h
        refine j_tableIn (off := 44) (tgt := 76) C (fun q => hs5 (Or.inl q)) (fun q => hs5 (Or.inr q)) (by rw [hx6]; rfl) (by decide) dX10_rodTold_32 ?_
        refine j_aload_n C 0 rfl rfl dX10_rodTold_76 ?_
        refine j_getG C in_X5 (by decide) (cw_19 (χ := χ) (wt_19 wt4 (by decide) (by decide) hg3)) rfl 1 (by decide) mw_649 (fun _ h => h) rfl dX10_rodTold_77 ?_
        obtain rfl := Option.some.inj h
        exact j_iret C rfl rfl (Nat.le_refl _) (Nat.le_refl _) dX10_rodTold_80
      · replace h := (if_neg hx6).symm.trans h
        by_cases hx7 : a2 = (1 : Int32)
        · replace h := (if_pos hx7).symm.trans h
          refine j_tableIn (off := 49) (tgt := 81) C (fun q => hs5 (Or.inl q)) (fun q => hs5 (Or.inr q)) (by rw [hx7]; rfl) (by decide) dX10_rodTold_32 ?_
          refine j_aload_n C 0 rfl rfl dX10_rodTold_81 ?_
          refine j_getG C in_X5 (by decide) (cw_19 (χ := χ) (wt_19 wt4 (by decide) (by decide) hg3)) rfl 2 (by decide) mw_651 (fun _ h => h) rfl dX10_rodTold_82 ?_
          refine j_wt (fun wt8 => ?_)
          refine j_getG C in_X4 (by decide) (cw_18 (χ := χ) (wt8.2.1 _ (wt_19 wt4 (by decide) (by decide) hg3)).1) rfl 0 (by decide) mw_334 (fun _ h => h) rfl dX10_rodTold_85 ?_
          obtain rfl := Option.some.inj h
          exact j_iret C rfl rfl (Nat.le_refl _) (Nat.le_refl _) dX10_rodTold_88
        · replace h := (if_neg hx7).symm.trans h
          by_cases hx9 : a2 = (2 : Int32)
          · replace h := (if_pos hx9).symm.trans h
            refine j_tableIn (off := 57) (tgt := 89) C (fun q => hs5 (Or.inl q)) (fun q => hs5 (Or.inr q)) (by rw [hx9]; rfl) (by decide) dX10_rodTold_32 ?_
            refine j_aload_n C 0 rfl rfl dX10_rodTold_89 ?_
            refine j_getG C in_X5 (by decide) (cw_19 (χ := χ) (wt_19 wt4 (by decide) (by decide) hg3)) rfl 3 (by decide) mw_655 (fun _ h => h) rfl dX10_rodTold_90 ?_
            refine j_wt (fun wt10 => ?_)
            refine j_getG C in_X4 (by decide) (cw_18 (χ := χ) (wt10.2.1 _ (wt_19 wt4 (by decide) (by decide) hg3)).2) rfl 0 (by decide) mw_334 (fun _ h => h) rfl dX10_rodTold_93 ?_
            obtain rfl := Option.some.inj h
            exact j_iret C rfl rfl (Nat.le_refl _) (Nat.le_refl _) dX10_rodTold_96
          · replace h := (if_neg hx9).symm.trans h
            by_cases hx11 : a2 = (3 : Int32)
            · replace h := (if_pos hx11).symm.trans h
              refine j_tableIn (off := 65) (tgt := 97) C (fun q => hs5 (Or.inl q)) (fun q => hs5 (Or.inr q)) (by rw [hx11]; rfl) (by decide) dX10_rodTold_32 ?_
              refine j_aload_n C 0 rfl rfl dX10_rodTold_97 ?_
              refine j_getG C in_X5 (by decide) (cw_19 (χ := χ) (wt_19 wt4 (by decide) (by decide) hg3)) rfl 4 (by decide) mw_660 (fun _ h => h) rfl dX10_rodTold_98 ?_
              obtain rfl := Option.some.inj h
              exact j_iret C rfl rfl (Nat.le_refl _) (Nat.le_refl _) dX10_rodTold_101
            · replace h := (if_neg hx11).symm.trans h
              by_cases hx12 : a2 = (4 : Int32)
              · replace h := (if_pos hx12).symm.trans h
                refine j_tableIn (off := 70) (tgt := 102) C (fun q => hs5 (Or.inl q)) (fun q => hs5 (Or.inr q)) (by rw [hx12]; rfl) (by decide) dX10_rodTold_32 ?_
                refine j_aload_n C 0 rfl rfl dX10_rodTold_102 ?_
                refine j_getG C in_X5 (by decide) (cw_19 (χ := χ) (wt_19 wt4 (by decide) (by decide) hg3)) rfl 5 (by decide) mw_663 (fun _ h => h) rfl dX10_rodTold_103 ?_
                refine j_if_eq (tgt := 113) C (by decide) dX10_rodTold_106 (fun hc13 => ?_) (fun hc13 => ?_)
                · replace h := (if_pos hc13).symm.trans h
                  refine j_iconst (v := 0) C (by decide) dX10_rodTold_113 ?_
                  obtain rfl := Option.some.inj h
                  exact j_iret C rfl rfl (Nat.le_refl _) (Nat.le_refl _) dX10_rodTold_114
                · replace h := (if_neg hc13).symm.trans h
                  refine j_iconst (v := 1) C (by decide) dX10_rodTold_109 ?_
                  refine j_goto (tgt := 114) C (by decide) dX10_rodTold_110 ?_
                  obtain rfl := Option.some.inj h
                  exact j_iret C rfl rfl (Nat.le_refl _) (Nat.le_refl _) dX10_rodTold_114
              · replace h := (if_neg hx12).symm.trans h
                by_cases hx14 : a2 = (5 : Int32)
                · replace h := (if_pos hx14).symm.trans h
                  refine j_tableIn (off := 83) (tgt := 115) C (fun q => hs5 (Or.inl q)) (fun q => hs5 (Or.inr q)) (by rw [hx14]; rfl) (by decide) dX10_rodTold_32 ?_
                  refine j_aload_n C 1 rfl rfl dX10_rodTold_115 ?_
                  refine j_getG C in_X10 (by decide) cw_0 rfl 1 (by decide) mw_269 (fun _ h => h) rfl dX10_rodTold_116 ?_
                  refine j_aload_n C 0 rfl rfl dX10_rodTold_119 ?_
                  obtain ⟨q15, hq15, h⟩ := bi_some h
                  refine j_callVi (As := [.ref (ad 19 (gN χ 1 a1.toNatClampNeg))]) (rest := []) C (c_X0_isNeeded (wt_19 wt4 (by decide) (by decide) hg3) hq15) (cwV 1 C.ts (good_V mw_720 mw_721 mw_722 mw_68 mw_723) rfl rfl rfl (by decide +kernel) ⟨Nat.le_of_ble_eq_true rfl, Nat.le_of_ble_eq_true rfl⟩) (fun H hW => CW.rv C.k hW (by decide) cw_2 rfl) rfl rfl (Nat.le_of_ble_eq_true rfl) dX10_rodTold_120 ⟨Nat.zero_le _, Nat.zero_le _⟩ ?_
                  refine j_if_eq (tgt := 130) C (by decide) dX10_rodTold_123 (fun hc16 => ?_) (fun hc16 => ?_)
                  · replace h := (if_pos hc16).symm.trans h
                    refine j_iconst (v := 0) C (by decide) dX10_rodTold_130 ?_
                    obtain rfl := Option.some.inj h
                    exact j_iret C rfl rfl (Nat.le_refl _) (Nat.le_refl _) dX10_rodTold_131
                  · replace h := (if_neg hc16).symm.trans h
                    refine j_iconst (v := 1) C (by decide) dX10_rodTold_126 ?_
                    refine j_goto (tgt := 131) C (by decide) dX10_rodTold_127 ?_
                    obtain rfl := Option.some.inj h
                    exact j_iret C rfl rfl (Nat.le_refl _) (Nat.le_refl _) dX10_rodTold_131
                · replace h := (if_neg hx14).symm.trans h
                  by_cases hx17 : a2 = (6 : Int32)
                  · replace h := (if_pos hx17).symm.trans h
                    refine j_tableIn (off := 100) (tgt := 132) C (fun q => hs5 (Or.inl q)) (fun q => hs5 (Or.inr q)) (by rw [hx17]; rfl) (by decide) dX10_rodTold_32 ?_
                    refine j_aload_n C 1 rfl rfl dX10_rodTold_132 ?_
                    refine j_getG C in_X10 (by decide) cw_0 rfl 3 (by decide) mw_271 (fun _ h => h) rfl dX10_rodTold_133 ?_
                    refine j_aload_n C 0 rfl rfl dX10_rodTold_136 ?_
                    obtain ⟨q18, hq18, h⟩ := bi_some h
                    refine j_callVi (As := [.ref (ad 19 (gN χ 1 a1.toNatClampNeg))]) (rest := []) C (c_X1_leastBodyOf (wt_19 wt4 (by decide) (by decide) hg3) hq18) (cwV 1 C.ts (good_V mw_754 mw_755 mw_756 mw_71 mw_757) rfl rfl rfl (by decide +kernel) ⟨Nat.le_of_ble_eq_true rfl, Nat.le_of_ble_eq_true rfl⟩) (fun H hW => CW.rv C.k hW (by decide) cw_4 rfl) rfl rfl (Nat.le_of_ble_eq_true rfl) dX10_rodTold_137 ⟨Nat.zero_le _, Nat.zero_le _⟩ ?_
                    obtain rfl := Option.some.inj h
                    exact j_iret C rfl rfl (Nat.le_refl _) (Nat.le_refl _) dX10_rodTold_140
                  · replace h := (if_neg hx17).symm.trans h
                    cases h
  · replace h := (if_pos hc2).symm.trans h
    refine j_bipush (v := -2) C (by decide) dX10_rodTold_11 ?_
    obtain rfl := Option.some.inj h
    exact j_iret C rfl rfl (Nat.le_refl _) (Nat.le_refl _) dX10_rodTold_13
set_option maxRecDepth 100000 in
set_option maxHeartbeats 4000000 in
theorem c_X10_rodTold {l : Launch} {g : Gc} {ad : Nat → Nat → Nat} {χ : Mem} {T : Nat → Mem} {σ : Mem} {a1 : Int32} {a2 : Int32} {rr : Int32} (h : f_X10_rodTold χ T a1 a2 = some rr) : Met l yX10_rodTold (WS yX10_rodTold cX10_rodTold 4 (some .int)) rm_X10_rodTold (PreW g ad χ T σ [.ref (ad 0 0), .int a1, .int a2]) (PoI g ad χ T σ rr) 0 0 (geB g) := by
  refine j_metW (by decide) (Nat.le_of_ble_eq_true rfl) fun p e s m below meth c C hname => ?_
  rw [f_X10_rodTold] at h
  exact j_sub [0, 1, 2] rfl (t_X10_rodTold_0 C a1 a2 h)
set_option maxRecDepth 100000 in
set_option maxHeartbeats 4000000 in
theorem t_X10_status_0 {σ : Mem} {χ : Mem} {T : Nat → Mem} (C : Cx p s m args meth c cX10_status 1 RX10 (some .int) COM g) {rr : Int32} (h : f_X10_status_0 χ T = some rr) : JJ p l e rm_X10_status s m args below meth c 1 g ad (MQ below (PoI g ad χ T σ rr) args s 0 0 (geB g)) χ T σ 0 0 [(0, .ref (ad 0 0))] 0 [] := by
  rw [f_X10_status_0] at h
  refine j_aload_n C 0 rfl rfl dX10_status_0 ?_
  refine j_getG C in_X10 (by decide) cw_0 rfl 4 (by decide) mw_272 (fun _ h => h) rfl dX10_status_1 ?_
  obtain ⟨q1, hq1, h⟩ := bi_some h
  refine j_callVi (As := []) (rest := []) C (c_X9_latestStatus hq1) (cwV 0 C.ts (good_V mw_995 mw_996 mw_997 mw_72 mw_998) rfl rfl rfl (by decide +kernel) ⟨Nat.le_of_ble_eq_true rfl, Nat.le_of_ble_eq_true rfl⟩) (fun H hW => CW.rv C.k hW (by decide) cw_5 rfl) rfl rfl (Nat.le_of_ble_eq_true rfl) dX10_status_4 ⟨Nat.zero_le _, Nat.zero_le _⟩ ?_
  obtain rfl := Option.some.inj h
  exact j_iret C rfl rfl (Nat.le_refl _) (Nat.le_refl _) dX10_status_7
set_option maxRecDepth 100000 in
set_option maxHeartbeats 4000000 in
theorem c_X10_status {l : Launch} {g : Gc} {ad : Nat → Nat → Nat} {χ : Mem} {T : Nat → Mem} {σ : Mem} {rr : Int32} (h : f_X10_status χ T = some rr) : Met l yX10_status (WS yX10_status cX10_status 1 (some .int)) rm_X10_status (PreW g ad χ T σ [.ref (ad 0 0)]) (PoI g ad χ T σ rr) 0 0 (geB g) := by
  refine j_metW (by decide) (Nat.le_of_ble_eq_true rfl) fun p e s m below meth c C hname => ?_
  rw [f_X10_status] at h
  exact j_sub [0] rfl (t_X10_status_0 C h)
set_option maxRecDepth 100000 in
set_option maxHeartbeats 4000000 in
theorem t_X10_stress_0 {σ : Mem} {χ : Mem} {T : Nat → Mem} (C : Cx p s m args meth c cX10_stress 3 RX10 (some .long) COM g) {rr : Int64} (a1 : Int32) (a2 : Int32) (h : f_X10_stress_0 χ T a1 a2 = some rr) : JJ p l e rm_X10_stress s m args below meth c 3 g ad (MQ below (PoL g ad χ T σ rr) args s 0 0 (geB g)) χ T σ 0 0 [(0, .ref (ad 0 0)), (1, .int a1), (2, .int a2)] 0 [] := by
  rw [f_X10_stress_0] at h
  refine j_aload_n C 0 rfl rfl dX10_stress_0 ?_
  refine j_getG C in_X10 (by decide) cw_0 rfl 0 (by decide) mw_268 (fun _ h => h) rfl dX10_stress_1 ?_
  refine j_iload_n C 2 rfl rfl dX10_stress_4 ?_
  obtain ⟨q1, hq1, h⟩ := bi_some h
  refine j_callVi (As := [.int a2]) (rest := []) C (c_X2_isRod hq1) (cwV 1 C.ts (good_V mw_684 mw_685 mw_686 mw_64 mw_687) rfl rfl rfl (by decide +kernel) ⟨Nat.le_of_ble_eq_true rfl, Nat.le_of_ble_eq_true rfl⟩) (fun H hW => CW.rv C.k hW (by decide) cw_1 rfl) rfl rfl (Nat.le_of_ble_eq_true rfl) dX10_stress_5 ⟨Nat.zero_le _, Nat.zero_le _⟩ ?_
  refine j_if_eq (tgt := 22) C (by decide) dX10_stress_8 (fun hc2 => ?_) (fun hc2 => ?_)
  · replace h := (if_pos hc2).symm.trans h
    refine j_ldc2 (v := -4611686018427387904) C mw_767 dX10_stress_22 ?_
    obtain rfl := Option.some.inj h
    exact j_lret C rfl (Nat.le_refl _) (Nat.le_refl _) dX10_stress_25
  · replace h := (if_neg hc2).symm.trans h
    refine j_aload_n C 0 rfl rfl dX10_stress_11 ?_
    refine j_getG C in_X10 (by decide) cw_0 rfl 1 (by decide) mw_269 (fun _ h => h) rfl dX10_stress_12 ?_
    refine j_iload_n C 1 rfl rfl dX10_stress_15 ?_
    obtain ⟨q3, hq3, h⟩ := bi_some h
    refine j_callVi (As := [.int a1]) (rest := []) C (c_X0_isStress hq3) (cwV 1 C.ts (good_V mw_776 mw_777 mw_778 mw_68 mw_779) rfl rfl rfl (by decide +kernel) ⟨Nat.le_of_ble_eq_true rfl, Nat.le_of_ble_eq_true rfl⟩) (fun H hW => CW.rv C.k hW (by decide) cw_2 rfl) rfl rfl (Nat.le_of_ble_eq_true rfl) dX10_stress_16 ⟨Nat.zero_le _, Nat.zero_le _⟩ ?_
    refine j_if_ne (tgt := 26) C (by decide) dX10_stress_19 (fun hc4 => ?_) (fun hc4 => ?_)
    · replace h := (if_neg hc4).symm.trans h
      refine j_aload_n C 0 rfl rfl dX10_stress_26 ?_
      refine j_getG C in_X10 (by decide) cw_0 rfl 1 (by decide) mw_269 (fun _ h => h) rfl dX10_stress_27 ?_
      refine j_iload_n C 1 rfl rfl dX10_stress_30 ?_
      refine j_aload_n C 0 rfl rfl dX10_stress_31 ?_
      refine j_getG C in_X10 (by decide) cw_0 rfl 0 (by decide) mw_268 (fun _ h => h) rfl dX10_stress_32 ?_
      refine j_getG C in_X2 (by decide) cw_1 rfl 1 (by decide) mw_129 (fun _ h => h) rfl dX10_stress_35 ?_
      refine j_iload_n C 2 rfl rfl dX10_stress_38 ?_
      obtain ⟨hg5, h⟩ := gd_some h
      refine j_wt (fun wt6 => ?_)
      refine j_lgetK (ek := 19) C (by decide) (by decide) hg5 mw_620 ⟨Nat.le_of_ble_eq_true rfl, Nat.le_of_ble_eq_true rfl⟩ (Nat.le_of_ble_eq_true rfl) dX10_stress_39 ⟨Nat.zero_le _, Nat.zero_le _⟩ ?_
      refine j_castS (q := (RX5, TX5, 6)) C mw_640 (by decide) (cw_19 (χ := χ) (wt_19 wt6 (by decide) (by decide) hg5)) rfl dX10_stress_44 ?_
      obtain ⟨q7, hq7, h⟩ := bi_some h
      refine j_callVl (As := [.int a1, .ref (ad 19 (gN χ 1 a2.toNatClampNeg))]) (rest := []) C (c_X0_stressNumber (wt_19 wt6 (by decide) (by decide) hg5) hq7) (cwV 2 C.ts (good_V mw_780 mw_726 mw_727 mw_68 mw_728) rfl rfl rfl (by decide +kernel) ⟨Nat.le_of_ble_eq_true rfl, Nat.le_of_ble_eq_true rfl⟩) (fun H hW => CW.rv C.k hW (by decide) cw_2 rfl) rfl rfl (Nat.le_of_ble_eq_true rfl) dX10_stress_47 ⟨Nat.zero_le _, Nat.zero_le _⟩ ?_
      obtain rfl := Option.some.inj h
      exact j_lret C rfl (Nat.le_refl _) (Nat.le_refl _) dX10_stress_50
    · replace h := (if_pos hc4).symm.trans h
      refine j_ldc2 (v := -4611686018427387904) C mw_767 dX10_stress_22 ?_
      obtain rfl := Option.some.inj h
      exact j_lret C rfl (Nat.le_refl _) (Nat.le_refl _) dX10_stress_25
set_option maxRecDepth 100000 in
set_option maxHeartbeats 4000000 in
theorem c_X10_stress {l : Launch} {g : Gc} {ad : Nat → Nat → Nat} {χ : Mem} {T : Nat → Mem} {σ : Mem} {a1 : Int32} {a2 : Int32} {rr : Int64} (h : f_X10_stress χ T a1 a2 = some rr) : Met l yX10_stress (WS yX10_stress cX10_stress 3 (some .long)) rm_X10_stress (PreW g ad χ T σ [.ref (ad 0 0), .int a1, .int a2]) (PoL g ad χ T σ rr) 0 0 (geB g) := by
  refine j_metW (by decide) (Nat.le_of_ble_eq_true rfl) fun p e s m below meth c C hname => ?_
  rw [f_X10_stress] at h
  exact j_sub [0, 1, 2] rfl (t_X10_stress_0 C a1 a2 h)
set_option maxRecDepth 100000 in
set_option maxHeartbeats 4000000 in
theorem t_X1_pinOf_5 {T : Nat → Mem} {σ : Mem} {χ : Mem} (C : Cx p s m args meth c cX1_pinOf 5 RX1 (some .int) COM g) {rr : Int32} : ∀ (n : Nat) (v1 : Int32) (v3 : Int32) (v4 : Int32) (h : f_X1_pinOf_5 χ n v1 v3 v4 = some rr), JJ p l e rm_X1_pinOf s m args below meth c 5 g ad (MQ below (PoI g ad χ T σ rr) args s 0 0 (geB g)) χ T σ 0 0 [(0, .ref (ad 4 0)), (1, .int v1), (3, .int v3), (4, .int v4)] 5 [] := by
  intro n
  induction n with
  | zero => intro  v1 v3 v4  h; cases h
  | succ n ih =>
  intro  v1 v3 v4  h
  rw [f_X1_pinOf_5] at h
  refine j_iload C 3 rfl dX1_pinOf_5 ?_
  refine j_bipush (v := 6) C (by decide) dX1_pinOf_7 ?_
  refine j_icmp_ge (tgt := 53) C (by decide) dX1_pinOf_9 (fun hc1 => ?_) (fun hc1 => ?_)
  · replace h := (if_pos hc1).symm.trans h
    refine j_iconst (v := -1) C (by decide) dX1_pinOf_53 ?_
    obtain rfl := Option.some.inj h
    exact j_iret C rfl rfl (Nat.le_refl _) (Nat.le_refl _) dX1_pinOf_54
  · replace h := (if_neg hc1).symm.trans h
    refine j_aload_n C 0 rfl rfl dX1_pinOf_12 ?_
    refine j_iload_n C 1 rfl rfl dX1_pinOf_13 ?_
    obtain ⟨q2, hq2, h⟩ := bi_some h
    refine j_callVi (As := [.int v1]) (rest := []) C (c_X1_isBody hq2) (cwV 1 C.ts (good_V mw_866 mw_858 mw_859 mw_71 mw_860) rfl rfl rfl (by decide +kernel) ⟨Nat.le_of_ble_eq_true rfl, Nat.le_of_ble_eq_true rfl⟩) (fun H hW => CW.rv C.k hW (by decide) cw_4 rfl) rfl rfl (Nat.le_of_ble_eq_true rfl) dX1_pinOf_14 ⟨Nat.zero_le _, Nat.zero_le _⟩ ?_
    refine j_if_eq (tgt := 53) C (by decide) dX1_pinOf_17 (fun hc3 => ?_) (fun hc3 => ?_)
    · replace h := (if_pos hc3).symm.trans h
      refine j_iconst (v := -1) C (by decide) dX1_pinOf_53 ?_
      obtain rfl := Option.some.inj h
      exact j_iret C rfl rfl (Nat.le_refl _) (Nat.le_refl _) dX1_pinOf_54
    · replace h := (if_neg hc3).symm.trans h
      refine j_aload_n C 0 rfl rfl dX1_pinOf_20 ?_
      refine j_getG C in_X1 (by decide) cw_4 rfl 2 (by decide) mw_233 (fun _ h => h) rfl dX1_pinOf_21 ?_
      refine j_iload_n C 1 rfl rfl dX1_pinOf_24 ?_
      obtain ⟨hg4, h⟩ := gd_some h
      refine j_iald C (by decide) cw_7 hg4 dX1_pinOf_25 ?_
      refine j_iload C 3 rfl dX1_pinOf_26 ?_
      obtain ⟨q5, hq5, h⟩ := bi_some h
      refine j_callSi (As := [.int v4]) (rest := [.int (gI χ 13 v1.toNatClampNeg)]) C (c_X1_bitOf hq5) (va_cwS 1 C.ts (good_S mw_580 mw_581 mw_71 mw_582) rfl rfl rfl (by decide +kernel) ⟨Nat.le_of_ble_eq_true rfl, Nat.le_of_ble_eq_true rfl⟩) rfl rfl (Nat.le_of_ble_eq_true rfl) dX1_pinOf_28 ⟨Nat.zero_le _, Nat.zero_le _⟩ ?_
      obtain ⟨q6, hq6, h⟩ := bi_some h
      refine j_callSi (As := [.int (gI χ 13 v1.toNatClampNeg), .int q5]) (rest := []) C (c_X1_holds hq6) (va_cwS 2 C.ts (good_S mw_587 mw_588 mw_71 mw_589) rfl rfl rfl (by decide +kernel) ⟨Nat.le_of_ble_eq_true rfl, Nat.le_of_ble_eq_true rfl⟩) rfl rfl (Nat.le_of_ble_eq_true rfl) dX1_pinOf_31 ⟨Nat.zero_le _, Nat.zero_le _⟩ ?_
      refine j_if_eq (tgt := 47) C (by decide) dX1_pinOf_34 (fun hc7 => ?_) (fun hc7 => ?_)
      · replace h := (if_pos hc7).symm.trans h
        refine j_iinc (v := v4 + (1 : Int32)) (L' := [(4, .int (v4 + (1 : Int32))), (0, .ref (ad 4 0)), (1, .int v1), (3, .int v3)]) C 3 rfl rfl (by decide) rfl dX1_pinOf_47 ?_
        refine j_goto (tgt := 5) C (by decide) dX1_pinOf_50 ?_
        exact j_sub [1, 2, 3, 0] rfl (ih v1 v3 (v4 + (1 : Int32)) h)
      · replace h := (if_neg hc7).symm.trans h
        refine j_iload_n C 2 rfl rfl dX1_pinOf_37 ?_
        refine j_if_ne (tgt := 44) C (by decide) dX1_pinOf_38 (fun hc8 => ?_) (fun hc8 => ?_)
        · replace h := (if_neg hc8).symm.trans h
          refine j_iinc (v := v3 + (-1 : Int32)) (L' := [(3, .int (v3 + (-1 : Int32))), (0, .ref (ad 4 0)), (1, .int v1), (4, .int v4)]) C 2 rfl (congrArg (fun z => v3 + z) (by decide)) (by decide) rfl dX1_pinOf_44 ?_
          refine j_iinc (v := v4 + (1 : Int32)) (L' := [(4, .int (v4 + (1 : Int32))), (3, .int (v3 + (-1 : Int32))), (0, .ref (ad 4 0)), (1, .int v1)]) C 3 rfl rfl (by decide) rfl dX1_pinOf_47 ?_
          refine j_goto (tgt := 5) C (by decide) dX1_pinOf_50 ?_
          exact j_sub [2, 3, 1, 0] rfl (ih v1 (v3 + (-1 : Int32)) (v4 + (1 : Int32)) h)
        · replace h := (if_pos hc8).symm.trans h
          refine j_iload C 3 rfl dX1_pinOf_41 ?_
          obtain rfl := Option.some.inj h
          exact j_iret C rfl rfl (Nat.le_refl _) (Nat.le_refl _) dX1_pinOf_43
set_option maxRecDepth 100000 in
set_option maxHeartbeats 4000000 in
theorem t_X1_pinOf_0 {T : Nat → Mem} {σ : Mem} {χ : Mem} (C : Cx p s m args meth c cX1_pinOf 5 RX1 (some .int) COM g) {rr : Int32} (a1 : Int32) (a2 : Int32) (h : f_X1_pinOf_0 χ a1 a2 = some rr) : JJ p l e rm_X1_pinOf s m args below meth c 5 g ad (MQ below (PoI g ad χ T σ rr) args s 0 0 (geB g)) χ T σ 0 0 [(0, .ref (ad 4 0)), (1, .int a1), (2, .int a2)] 0 [] := by
  rw [f_X1_pinOf_0] at h
  refine j_iload_n C 2 rfl rfl dX1_pinOf_0 ?_
  refine j_istore_n (L' := [(3, .int a2), (0, .ref (ad 4 0)), (1, .int a1), (2, .int a2)]) C rfl (by decide) rfl dX1_pinOf_1 ?_
  refine j_iconst (v := 0) C (by decide) dX1_pinOf_2 ?_
  refine j_istore (L' := [(4, .int (0 : Int32)), (3, .int a2), (0, .ref (ad 4 0)), (1, .int a1), (2, .int a2)]) C (by decide) rfl dX1_pinOf_3 ?_
  exact j_sub [2, 3, 1, 0] rfl (t_X1_pinOf_5 C FU a1 a2 (0 : Int32) h)
set_option maxRecDepth 100000 in
set_option maxHeartbeats 4000000 in
theorem c_X1_pinOf {l : Launch} {g : Gc} {ad : Nat → Nat → Nat} {χ : Mem} {T : Nat → Mem} {σ : Mem} {a1 : Int32} {a2 : Int32} {rr : Int32} (h : f_X1_pinOf χ a1 a2 = some rr) : Met l yX1_pinOf (WS yX1_pinOf cX1_pinOf 5 (some .int)) rm_X1_pinOf (PreW g ad χ T σ [.ref (ad 4 0), .int a1, .int a2]) (PoI g ad χ T σ rr) 0 0 (geB g) := by
  refine j_metW (by decide) (Nat.le_of_ble_eq_true rfl) fun p e s m below meth c C hname => ?_
  rw [f_X1_pinOf] at h
  exact j_sub [0, 1, 2] rfl (t_X1_pinOf_0 C a1 a2 h)
set_option maxRecDepth 100000 in
set_option maxHeartbeats 4000000 in
theorem t_X10_count_0 {σ : Mem} {χ : Mem} {T : Nat → Mem} (C : Cx p s m args meth c cX10_count 2 RX10 (some .int) COM g) {rr : Int32} (a1 : Int32) (h : f_X10_count_0 χ T a1 = some rr) : JJ p l e rm_X10_count s m args below meth c 2 g ad (MQ below (PoI g ad χ T σ rr) args s 0 0 (geB g)) χ T σ 0 0 [(0, .ref (ad 0 0)), (1, .int a1)] 0 [] := by
  rw [f_X10_count_0] at h
  refine j_iload_n C 1 rfl rfl dX10_count_0 ?_
  by_cases hs1 : a1.toInt < 0 ∨ 9 < a1.toInt
  · replace h := (if_pos hs1).symm.trans h
    refine j_tableOut (tgt := 168) C hs1 (by decide) dX10_count_1 ?_
    refine j_bipush (v := -2) C (by decide) dX10_count_168 ?_
    obtain rfl := Option.some.inj h
    exact j_iret C rfl rfl (Nat.le_refl _) (Nat.le_refl _) dX10_count_170
  · replace h := (if_neg hs1).symm.trans h
    by_cases hx2 : a1 = (0 : Int32)
    · replace h := (if_pos hx2).symm.trans h
      refine j_tableIn (off := 55) (tgt := 56) C (fun q => hs1 (Or.inl q)) (fun q => hs1 (Or.inr q)) (by rw [hx2]; rfl) (by decide) dX10_count_1 ?_
      refine j_aload_n C 0 rfl rfl dX10_count_56 ?_
      refine j_getG C in_X10 (by decide) cw_0 rfl 0 (by decide) mw_268 (fun _ h => h) rfl dX10_count_57 ?_
      refine j_getG C in_X2 (by decide) cw_1 rfl 0 (by decide) mw_125 (fun _ h => h) rfl dX10_count_60 ?_
      refine j_lsize C (by decide) mw_326 ⟨Nat.le_of_ble_eq_true rfl, Nat.le_of_ble_eq_true rfl⟩ (Nat.le_of_ble_eq_true rfl) dX10_count_63 ⟨Nat.zero_le _, Nat.zero_le _⟩ ?_
      obtain rfl := Option.some.inj h
      exact j_iret C rfl rfl (Nat.le_refl _) (Nat.le_refl _) dX10_count_68
    · replace h := (if_neg hx2).symm.trans h
      by_cases hx3 : a1 = (1 : Int32)
      · replace h := (if_pos hx3).symm.trans h
        refine j_tableIn (off := 68) (tgt := 69) C (fun q => hs1 (Or.inl q)) (fun q => hs1 (Or.inr q)) (by rw [hx3]; rfl) (by decide) dX10_count_1 ?_
        refine j_aload_n C 0 rfl rfl dX10_count_69 ?_
        refine j_getG C in_X10 (by decide) cw_0 rfl 0 (by decide) mw_268 (fun _ h => h) rfl dX10_count_70 ?_
        refine j_getG C in_X2 (by decide) cw_1 rfl 2 (by decide) mw_135 (fun _ h => h) rfl dX10_count_73 ?_
        refine j_lsize C (by decide) mw_326 ⟨Nat.le_of_ble_eq_true rfl, Nat.le_of_ble_eq_true rfl⟩ (Nat.le_of_ble_eq_true rfl) dX10_count_76 ⟨Nat.zero_le _, Nat.zero_le _⟩ ?_
        obtain rfl := Option.some.inj h
        exact j_iret C rfl rfl (Nat.le_refl _) (Nat.le_refl _) dX10_count_81
      · replace h := (if_neg hx3).symm.trans h
        by_cases hx4 : a1 = (2 : Int32)
        · replace h := (if_pos hx4).symm.trans h
          refine j_tableIn (off := 81) (tgt := 82) C (fun q => hs1 (Or.inl q)) (fun q => hs1 (Or.inr q)) (by rw [hx4]; rfl) (by decide) dX10_count_1 ?_
          refine j_aload_n C 0 rfl rfl dX10_count_82 ?_
          refine j_getG C in_X10 (by decide) cw_0 rfl 0 (by decide) mw_268 (fun _ h => h) rfl dX10_count_83 ?_
          refine j_getG C in_X2 (by decide) cw_1 rfl 1 (by decide) mw_129 (fun _ h => h) rfl dX10_count_86 ?_
          refine j_lsize C (by decide) mw_326 ⟨Nat.le_of_ble_eq_true rfl, Nat.le_of_ble_eq_true rfl⟩ (Nat.le_of_ble_eq_true rfl) dX10_count_89 ⟨Nat.zero_le _, Nat.zero_le _⟩ ?_
          obtain rfl := Option.some.inj h
          exact j_iret C rfl rfl (Nat.le_refl _) (Nat.le_refl _) dX10_count_94
        · replace h := (if_neg hx4).symm.trans h
          by_cases hx5 : a1 = (3 : Int32)
          · replace h := (if_pos hx5).symm.trans h
            refine j_tableIn (off := 94) (tgt := 95) C (fun q => hs1 (Or.inl q)) (fun q => hs1 (Or.inr q)) (by rw [hx5]; rfl) (by decide) dX10_count_1 ?_
            refine j_aload_n C 0 rfl rfl dX10_count_95 ?_
            refine j_getG C in_X10 (by decide) cw_0 rfl 0 (by decide) mw_268 (fun _ h => h) rfl dX10_count_96 ?_
            refine j_getG C in_X2 (by decide) cw_1 rfl 3 (by decide) mw_139 (fun _ h => h) rfl dX10_count_99 ?_
            refine j_lsize C (by decide) mw_326 ⟨Nat.le_of_ble_eq_true rfl, Nat.le_of_ble_eq_true rfl⟩ (Nat.le_of_ble_eq_true rfl) dX10_count_102 ⟨Nat.zero_le _, Nat.zero_le _⟩ ?_
            obtain rfl := Option.some.inj h
            exact j_iret C rfl rfl (Nat.le_refl _) (Nat.le_refl _) dX10_count_107
          · replace h := (if_neg hx5).symm.trans h
            by_cases hx6 : a1 = (4 : Int32)
            · replace h := (if_pos hx6).symm.trans h
              refine j_tableIn (off := 107) (tgt := 108) C (fun q => hs1 (Or.inl q)) (fun q => hs1 (Or.inr q)) (by rw [hx6]; rfl) (by decide) dX10_count_1 ?_
              refine j_aload_n C 0 rfl rfl dX10_count_108 ?_
              refine j_getG C in_X10 (by decide) cw_0 rfl 1 (by decide) mw_269 (fun _ h => h) rfl dX10_count_109 ?_
              obtain ⟨q7, hq7, h⟩ := bi_some h
              refine j_callVi (As := []) (rest := []) C (c_X0_motionCount hq7) (cwV 0 C.ts (good_V mw_696 mw_697 mw_698 mw_68 mw_699) rfl rfl rfl (by decide +kernel) ⟨Nat.le_of_ble_eq_true rfl, Nat.le_of_ble_eq_true rfl⟩) (fun H hW => CW.rv C.k hW (by decide) cw_2 rfl) rfl rfl (Nat.le_of_ble_eq_true rfl) dX10_count_112 ⟨Nat.zero_le _, Nat.zero_le _⟩ ?_
              obtain rfl := Option.some.inj h
              exact j_iret C rfl rfl (Nat.le_refl _) (Nat.le_refl _) dX10_count_115
            · replace h := (if_neg hx6).symm.trans h
              by_cases hx8 : a1 = (5 : Int32)
              · replace h := (if_pos hx8).symm.trans h
                refine j_tableIn (off := 115) (tgt := 116) C (fun q => hs1 (Or.inl q)) (fun q => hs1 (Or.inr q)) (by rw [hx8]; rfl) (by decide) dX10_count_1 ?_
                refine j_aload_n C 0 rfl rfl dX10_count_116 ?_
                refine j_getG C in_X10 (by decide) cw_0 rfl 1 (by decide) mw_269 (fun _ h => h) rfl dX10_count_117 ?_
                obtain ⟨q9, hq9, h⟩ := bi_some h
                refine j_callVi (As := []) (rest := []) C (c_X0_stressCount hq9) (cwV 0 C.ts (good_V mw_704 mw_705 mw_706 mw_68 mw_707) rfl rfl rfl (by decide +kernel) ⟨Nat.le_of_ble_eq_true rfl, Nat.le_of_ble_eq_true rfl⟩) (fun H hW => CW.rv C.k hW (by decide) cw_2 rfl) rfl rfl (Nat.le_of_ble_eq_true rfl) dX10_count_120 ⟨Nat.zero_le _, Nat.zero_le _⟩ ?_
                obtain rfl := Option.some.inj h
                exact j_iret C rfl rfl (Nat.le_refl _) (Nat.le_refl _) dX10_count_123
              · replace h := (if_neg hx8).symm.trans h
                by_cases hx10 : a1 = (6 : Int32)
                · replace h := (if_pos hx10).symm.trans h
                  refine j_tableIn (off := 123) (tgt := 124) C (fun q => hs1 (Or.inl q)) (fun q => hs1 (Or.inr q)) (by rw [hx10]; rfl) (by decide) dX10_count_1 ?_
                  refine j_iconst (v := 2) C (by decide) dX10_count_124 ?_
                  refine j_aload_n C 0 rfl rfl dX10_count_125 ?_
                  refine j_getG C in_X10 (by decide) cw_0 rfl 0 (by decide) mw_268 (fun _ h => h) rfl dX10_count_126 ?_
                  refine j_getG C in_X2 (by decide) cw_1 rfl 2 (by decide) mw_135 (fun _ h => h) rfl dX10_count_129 ?_
                  refine j_lsize C (by decide) mw_326 ⟨Nat.le_of_ble_eq_true rfl, Nat.le_of_ble_eq_true rfl⟩ (Nat.le_of_ble_eq_true rfl) dX10_count_132 ⟨Nat.zero_le _, Nat.zero_le _⟩ ?_
                  refine j_imul C dX10_count_137 ?_
                  refine j_aload_n C 0 rfl rfl dX10_count_138 ?_
                  refine j_getG C in_X10 (by decide) cw_0 rfl 1 (by decide) mw_269 (fun _ h => h) rfl dX10_count_139 ?_
                  obtain ⟨q11, hq11, h⟩ := bi_some h
                  refine j_callVi (As := []) (rest := [.int ((2 : Int32) * (gI χ 14 2))]) C (c_X0_motionCount hq11) (cwV 0 C.ts (good_V mw_696 mw_697 mw_698 mw_68 mw_699) rfl rfl rfl (by decide +kernel) ⟨Nat.le_of_ble_eq_true rfl, Nat.le_of_ble_eq_true rfl⟩) (fun H hW => CW.rv C.k hW (by decide) cw_2 rfl) rfl rfl (Nat.le_of_ble_eq_true rfl) dX10_count_142 ⟨Nat.zero_le _, Nat.zero_le _⟩ ?_
                  refine j_isub C dX10_count_145 ?_
                  obtain rfl := Option.some.inj h
                  exact j_iret C rfl rfl (Nat.le_refl _) (Nat.le_refl _) dX10_count_146
                · replace h := (if_neg hx10).symm.trans h
                  by_cases hx12 : a1 = (7 : Int32)
                  · replace h := (if_pos hx12).symm.trans h
                    refine j_tableIn (off := 146) (tgt := 147) C (fun q => hs1 (Or.inl q)) (fun q => hs1 (Or.inr q)) (by rw [hx12]; rfl) (by decide) dX10_count_1 ?_
                    refine j_aload_n C 0 rfl rfl dX10_count_147 ?_
                    refine j_getG C in_X10 (by decide) cw_0 rfl 3 (by decide) mw_271 (fun _ h => h) rfl dX10_count_148 ?_
                    obtain ⟨q13, hq13, h⟩ := bi_some h
                    refine j_callVi (As := []) (rest := []) C (c_X1_bodyCount hq13) (cwV 0 C.ts (good_V mw_708 mw_709 mw_710 mw_71 mw_711) rfl rfl rfl (by decide +kernel) ⟨Nat.le_of_ble_eq_true rfl, Nat.le_of_ble_eq_true rfl⟩) (fun H hW => CW.rv C.k hW (by decide) cw_4 rfl) rfl rfl (Nat.le_of_ble_eq_true rfl) dX10_count_151 ⟨Nat.zero_le _, Nat.zero_le _⟩ ?_
                    obtain rfl := Option.some.inj h
                    exact j_iret C rfl rfl (Nat.le_refl _) (Nat.le_refl _) dX10_count_154
                  · replace h := (if_neg hx12).symm.trans h
                    by_cases hx14 : a1 = (8 : Int32)
                    · replace h := (if_pos hx14).symm.trans h
                      refine j_tableIn (off := 154) (tgt := 155) C (fun q => hs1 (Or.inl q)) (fun q => hs1 (Or.inr q)) (by rw [hx14]; rfl) (by decide) dX10_count_1 ?_
                      refine j_aload_n C 0 rfl rfl dX10_count_155 ?_
                      refine j_getG C in_X10 (by decide) cw_0 rfl 3 (by decide) mw_271 (fun _ h => h) rfl dX10_count_156 ?_
                      obtain ⟨q15, hq15, h⟩ := bi_some h
                      refine j_callVi (As := []) (rest := []) C (c_X1_surplus hq15) (cwV 0 C.ts (good_V mw_712 mw_713 mw_714 mw_71 mw_715) rfl rfl rfl (by decide +kernel) ⟨Nat.le_of_ble_eq_true rfl, Nat.le_of_ble_eq_true rfl⟩) (fun H hW => CW.rv C.k hW (by decide) cw_4 rfl) rfl rfl (Nat.le_of_ble_eq_true rfl) dX10_count_159 ⟨Nat.zero_le _, Nat.zero_le _⟩ ?_
                      obtain rfl := Option.some.inj h
                      exact j_iret C rfl rfl (Nat.le_refl _) (Nat.le_refl _) dX10_count_162
                    · replace h := (if_neg hx14).symm.trans h
                      by_cases hx16 : a1 = (9 : Int32)
                      · replace h := (if_pos hx16).symm.trans h
                        refine j_tableIn (off := 162) (tgt := 163) C (fun q => hs1 (Or.inl q)) (fun q => hs1 (Or.inr q)) (by rw [hx16]; rfl) (by decide) dX10_count_1 ?_
                        refine j_aload_n C 0 rfl rfl dX10_count_163 ?_
                        obtain ⟨q17, hq17, h⟩ := bi_some h
                        refine j_callVi (As := []) (rest := []) C (c_X10_neededCount hq17) (cwV 0 C.ts (good_V mw_716 mw_718 mw_19 mw_63 mw_719) rfl rfl rfl (by decide +kernel) ⟨Nat.le_of_ble_eq_true rfl, Nat.le_of_ble_eq_true rfl⟩) (fun H hW => CW.rv C.k hW (by decide) cw_0 rfl) rfl rfl (Nat.le_of_ble_eq_true rfl) dX10_count_164 ⟨Nat.zero_le _, Nat.zero_le _⟩ ?_
                        obtain rfl := Option.some.inj h
                        exact j_iret C rfl rfl (Nat.le_refl _) (Nat.le_refl _) dX10_count_167
                      · replace h := (if_neg hx16).symm.trans h
                        cases h
set_option maxRecDepth 100000 in
set_option maxHeartbeats 4000000 in
theorem c_X10_count {l : Launch} {g : Gc} {ad : Nat → Nat → Nat} {χ : Mem} {T : Nat → Mem} {σ : Mem} {a1 : Int32} {rr : Int32} (h : f_X10_count χ T a1 = some rr) : Met l yX10_count (WS yX10_count cX10_count 2 (some .int)) rm_X10_count (PreW g ad χ T σ [.ref (ad 0 0), .int a1]) (PoI g ad χ T σ rr) 0 0 (geB g) := by
  refine j_metW (by decide) (Nat.le_of_ble_eq_true rfl) fun p e s m below meth c C hname => ?_
  rw [f_X10_count] at h
  exact j_sub [0, 1] rfl (t_X10_count_0 C a1 h)
set_option maxRecDepth 100000 in
set_option maxHeartbeats 4000000 in
theorem t_X10_body_0 {σ : Mem} {χ : Mem} {T : Nat → Mem} (C : Cx p s m args meth c cX10_body 3 RX10 (some .int) COM g) {rr : Int32} (a1 : Int32) (a2 : Int32) (h : f_X10_body_0 χ T a1 a2 = some rr) : JJ p l e rm_X10_body s m args below meth c 3 g ad (MQ below (PoI g ad χ T σ rr) args s 0 0 (geB g)) χ T σ 0 0 [(0, .ref (ad 0 0)), (1, .int a1), (2, .int a2)] 0 [] := by
  rw [f_X10_body_0] at h
  refine j_aload_n C 0 rfl rfl dX10_body_0 ?_
  refine j_getG C in_X10 (by decide) cw_0 rfl 3 (by decide) mw_271 (fun _ h => h) rfl dX10_body_1 ?_
  refine j_iload_n C 1 rfl rfl dX10_body_4 ?_
  obtain ⟨q1, hq1, h⟩ := bi_some h
  refine j_callVi (As := [.int a1]) (rest := []) C (c_X1_isBody hq1) (cwV 1 C.ts (good_V mw_857 mw_858 mw_859 mw_71 mw_860) rfl rfl rfl (by decide +kernel) ⟨Nat.le_of_ble_eq_true rfl, Nat.le_of_ble_eq_true rfl⟩) (fun H hW => CW.rv C.k hW (by decide) cw_4 rfl) rfl rfl (Nat.le_of_ble_eq_true rfl) dX10_body_5 ⟨Nat.zero_le _, Nat.zero_le _⟩ ?_
  refine j_if_eq (tgt := 23) C (by decide) dX10_body_8 (fun hc2 => ?_) (fun hc2 => ?_)
  · replace h := (if_pos hc2).symm.trans h
    refine j_bipush (v := -2) C (by decide) dX10_body_23 ?_
    obtain rfl := Option.some.inj h
    exact j_iret C rfl rfl (Nat.le_refl _) (Nat.le_refl _) dX10_body_25
  · replace h := (if_neg hc2).symm.trans h
    refine j_aload_n C 0 rfl rfl dX10_body_11 ?_
    refine j_getG C in_X10 (by decide) cw_0 rfl 3 (by decide) mw_271 (fun _ h => h) rfl dX10_body_12 ?_
    refine j_iload_n C 1 rfl rfl dX10_body_15 ?_
    refine j_iload_n C 2 rfl rfl dX10_body_16 ?_
    obtain ⟨q3, hq3, h⟩ := bi_some h
    refine j_callVi (As := [.int a1, .int a2]) (rest := []) C (c_X1_pinOf hq3) (cwV 2 C.ts (good_V mw_862 mw_863 mw_864 mw_71 mw_865) rfl rfl rfl (by decide +kernel) ⟨Nat.le_of_ble_eq_true rfl, Nat.le_of_ble_eq_true rfl⟩) (fun H hW => CW.rv C.k hW (by decide) cw_4 rfl) rfl rfl (Nat.le_of_ble_eq_true rfl) dX10_body_17 ⟨Nat.zero_le _, Nat.zero_le _⟩ ?_
    refine j_goto (tgt := 25) C (by decide) dX10_body_20 ?_
    obtain rfl := Option.some.inj h
    exact j_iret C rfl rfl (Nat.le_refl _) (Nat.le_refl _) dX10_body_25
set_option maxRecDepth 100000 in
set_option maxHeartbeats 4000000 in
theorem c_X10_body {l : Launch} {g : Gc} {ad : Nat → Nat → Nat} {χ : Mem} {T : Nat → Mem} {σ : Mem} {a1 : Int32} {a2 : Int32} {rr : Int32} (h : f_X10_body χ T a1 a2 = some rr) : Met l yX10_body (WS yX10_body cX10_body 3 (some .int)) rm_X10_body (PreW g ad χ T σ [.ref (ad 0 0), .int a1, .int a2]) (PoI g ad χ T σ rr) 0 0 (geB g) := by
  refine j_metW (by decide) (Nat.le_of_ble_eq_true rfl) fun p e s m below meth c C hname => ?_
  rw [f_X10_body] at h
  exact j_sub [0, 1, 2] rfl (t_X10_body_0 C a1 a2 h)
end
